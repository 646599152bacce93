theorem dL_cell_0 : decode cL_cell 0 = .ok (.iload_n 1, 1) := by decide +kernel
theorem dL_cell_1 : decode cL_cell 1 = .ok (.aload_n 0, 1) := by decide +kernel
theorem dL_cell_2 : decode cL_cell 2 = .ok (.arraylength, 1) := by decide +kernel
theorem dL_cell_3 : decode cL_cell 3 = .ok (.if_icmp .ge 9, 3) := by decide +kernel
theorem dL_cell_6 : decode cL_cell 6 = .ok (.aload_n 0, 1) := by decide +kernel
theorem dL_cell_7 : decode cL_cell 7 = .ok (.iload_n 1, 1) := by decide +kernel
theorem dL_cell_8 : decode cL_cell 8 = .ok (.iaload, 1) := by decide +kernel
theorem dL_cell_9 : decode cL_cell 9 = .ok (.goto 15, 3) := by decide +kernel
theorem dL_cell_12 : decode cL_cell 12 = .ok (.sipush 7919, 3) := by decide +kernel
theorem dL_cell_15 : decode cL_cell 15 = .ok (.iload_n 1, 1) := by decide +kernel
theorem dL_cell_16 : decode cL_cell 16 = .ok (.iconst 3, 1) := by decide +kernel
theorem dL_cell_17 : decode cL_cell 17 = .ok (.iadd, 1) := by decide +kernel
theorem dL_cell_18 : decode cL_cell 18 = .ok (.imul, 1) := by decide +kernel
theorem dL_cell_19 : decode cL_cell 19 = .ok (.iload_n 1, 1) := by decide +kernel
theorem dL_cell_20 : decode cL_cell 20 = .ok (.bipush 11, 2) := by decide +kernel
theorem dL_cell_22 : decode cL_cell 22 = .ok (.iadd, 1) := by decide +kernel
theorem dL_cell_23 : decode cL_cell 23 = .ok (.imul, 1) := by decide +kernel
theorem dL_cell_24 : decode cL_cell 24 = .ok (.ireturn, 1) := by decide +kernel
theorem dL_low_0 : decode cL_low 0 = .ok (.iload_n 0, 1) := by decide +kernel
theorem dL_low_1 : decode cL_low 1 = .ok (.ldc 7, 2) := by decide +kernel
theorem dL_low_3 : decode cL_low 3 = .ok (.iand, 1) := by decide +kernel
theorem dL_low_4 : decode cL_low 4 = .ok (.iload_n 1, 1) := by decide +kernel
theorem dL_low_5 : decode cL_low 5 = .ok (.irem, 1) := by decide +kernel
theorem dL_low_6 : decode cL_low 6 = .ok (.ireturn, 1) := by decide +kernel
theorem dL_bits_0 : decode cL_bits 0 = .ok (.iconst 0, 1) := by decide +kernel
theorem dL_bits_1 : decode cL_bits 1 = .ok (.istore_n 1, 1) := by decide +kernel
theorem dL_bits_2 : decode cL_bits 2 = .ok (.iconst 0, 1) := by decide +kernel
theorem dL_bits_3 : decode cL_bits 3 = .ok (.istore_n 2, 1) := by decide +kernel
theorem dL_bits_4 : decode cL_bits 4 = .ok (.iload_n 2, 1) := by decide +kernel
theorem dL_bits_5 : decode cL_bits 5 = .ok (.bipush 16, 2) := by decide +kernel
theorem dL_bits_7 : decode cL_bits 7 = .ok (.if_icmp .ge 17, 3) := by decide +kernel
theorem dL_bits_10 : decode cL_bits 10 = .ok (.iload_n 1, 1) := by decide +kernel
theorem dL_bits_11 : decode cL_bits 11 = .ok (.iload_n 0, 1) := by decide +kernel
theorem dL_bits_12 : decode cL_bits 12 = .ok (.iload_n 2, 1) := by decide +kernel
theorem dL_bits_13 : decode cL_bits 13 = .ok (.ishr, 1) := by decide +kernel
theorem dL_bits_14 : decode cL_bits 14 = .ok (.iconst 1, 1) := by decide +kernel
theorem dL_bits_15 : decode cL_bits 15 = .ok (.iand, 1) := by decide +kernel
theorem dL_bits_16 : decode cL_bits 16 = .ok (.iadd, 1) := by decide +kernel
theorem dL_bits_17 : decode cL_bits 17 = .ok (.istore_n 1, 1) := by decide +kernel
theorem dL_bits_18 : decode cL_bits 18 = .ok (.iinc 2 1, 3) := by decide +kernel
theorem dL_bits_21 : decode cL_bits 21 = .ok (.goto (-17), 3) := by decide +kernel
theorem dL_bits_24 : decode cL_bits 24 = .ok (.iload_n 1, 1) := by decide +kernel
theorem dL_bits_25 : decode cL_bits 25 = .ok (.ireturn, 1) := by decide +kernel
set_option maxRecDepth 20000 in
theorem ggL_isDay_X2_covered : GoodIn wsL_isDay wsX2_covered := goodIn_ca (goodIn_r _ [5, 6, 7, 4, 8, 9, 10, 11, 12, 13, 14, 15, 16, 17, 18, 19, 20, 21, 22, 23, 24, 25, 26, 27, 28, 29, 30, 31, 32, 33, 34, 35, 36, 37, 38, 39, 40, 41, 42, 43, 44, 45, 46, 47, 48, 49, 50, 51, 52, 53, 54, 55, 56, 57, 104, 105, 106, 107, 108, 109, 110, 111, 112, 113, 114, 115, 116, 117, 118, 119, 120, 121, 122, 123, 124, 125] (by decide +kernel) (by decide +kernel)) (goodIn_sub (fun _ h => List.mem_cons_of_mem _ (List.mem_append_left _ (List.mem_append_right _ h))) (by decide +kernel))
set_option maxRecDepth 20000 in
theorem gL_isDay_X2_covered : GoodIn wsL_isDay (wsV RL 8 RX2 yX2_covered wsX2_covered) := goodIn_app (goodIn_of _ (by decide +kernel)) ggL_isDay_X2_covered
set_option maxRecDepth 20000 in
theorem ggL_isDay_X2_weakest : GoodIn wsL_isDay wsX2_weakest := goodIn_ca (goodIn_r _ [61, 16, 62, 6, 7, 4, 8, 9, 10, 63, 64, 65, 66, 11, 12, 13, 14, 15, 17, 18, 19, 20, 21, 22, 23, 24, 25, 26, 27, 28, 29, 30, 31, 32, 33, 34, 35, 36, 37, 38, 39, 40, 41, 42, 43, 44, 45, 46, 47, 48, 49, 50, 51, 52, 53, 54, 55, 56, 57, 67, 68, 69, 70, 71, 72, 73, 104, 105, 106, 107, 108, 109, 110, 111, 112, 113, 114, 115, 116, 117, 118, 119, 120, 121, 122, 123, 124, 125] (by decide +kernel) (by decide +kernel)) (goodIn_sub (fun _ h => List.mem_cons_of_mem _ (List.mem_append_left _ (List.mem_append_right _ h))) (by decide +kernel))
set_option maxRecDepth 20000 in
theorem gL_isDay_X2_weakest : GoodIn wsL_isDay (wsV RL 14 RX2 yX2_weakest wsX2_weakest) := goodIn_app (goodIn_of _ (by decide +kernel)) ggL_isDay_X2_weakest
set_option maxRecDepth 20000 in
theorem ggL_isDay_X2_breaks : GoodIn wsL_isDay wsX2_breaks := goodIn_ca (goodIn_ca (goodIn_r _ [77, 78, 79, 80, 4, 81, 82, 83, 16, 62, 6, 7, 8, 9, 10, 63, 64, 65, 66, 11, 12, 13, 14, 15, 17, 18, 19, 20, 21, 22, 23, 24, 25, 26, 27, 28, 29, 30, 31, 32, 33, 34, 35, 36, 37, 38, 39, 40, 41, 42, 43, 44, 45, 46, 47, 48, 49, 50, 51, 52, 53, 54, 55, 56, 57, 104, 105, 106, 107, 108, 109, 110, 111, 112, 113, 114, 115, 116, 117, 118, 119, 120, 121, 122, 123, 124, 125] (by decide +kernel) (by decide +kernel)) (goodIn_sub (fun _ h => List.mem_cons_of_mem _ (List.mem_append_right _ h)) (by decide +kernel))) (goodIn_sub (fun _ h => List.mem_cons_of_mem _ (List.mem_append_left _ (List.mem_append_right _ h))) (by decide +kernel))
set_option maxRecDepth 20000 in
theorem gL_isDay_X2_breaks : GoodIn wsL_isDay (wsV RL 17 RX2 yX2_breaks wsX2_breaks) := goodIn_app (goodIn_of _ (by decide +kernel)) ggL_isDay_X2_breaks
set_option maxRecDepth 20000 in
theorem ggL_isDay_X2_isGood : GoodIn wsL_isDay wsX2_isGood := goodIn_ca (goodIn_ca (goodIn_r _ [87, 16, 78, 79, 80, 4, 81, 82, 83, 62, 6, 7, 8, 9, 10, 17, 18, 19, 20, 21, 22, 23, 24, 25, 26, 27, 28, 29, 30, 31, 32, 33, 34, 35, 36, 37, 38, 39, 40, 41, 88, 104, 105, 106, 107, 108, 109, 110, 111, 112, 113, 114, 115, 116, 117] (by decide +kernel) (by decide +kernel)) (goodIn_sub (fun _ h => List.mem_cons_of_mem _ (List.mem_append_right _ h)) (by decide +kernel))) (goodIn_sub (fun _ h => List.mem_cons_of_mem _ (List.mem_append_left _ (List.mem_append_right _ h))) (by decide +kernel))
set_option maxRecDepth 20000 in
theorem gL_isDay_X2_isGood : GoodIn wsL_isDay (wsV RL 21 RX2 yX2_isGood wsX2_isGood) := goodIn_app (goodIn_of _ (by decide +kernel)) ggL_isDay_X2_isGood
set_option maxRecDepth 20000 in
theorem ggL_isDay_L_bits : GoodIn wsL_isDay wsL_bits := goodIn_r _ [92] (by decide +kernel) (by decide +kernel)
set_option maxRecDepth 20000 in
theorem gL_isDay_L_bits : GoodIn wsL_isDay (va_wsS RL 25 yL_bits wsL_bits) := goodIn_app (goodIn_of _ (by decide +kernel)) ggL_isDay_L_bits
set_option maxRecDepth 20000 in
theorem ggL_isDay_X2_isCovered : GoodIn wsL_isDay wsX2_isCovered := goodIn_ca (goodIn_ca (goodIn_r _ [96, 97, 98, 4, 99, 82, 83, 6, 7, 8, 9, 10, 11, 12, 13, 14, 15, 16, 17, 18, 19, 20, 21, 22, 23, 24, 25, 26, 27, 28, 29, 30, 31, 32, 33, 34, 35, 36, 37, 38, 39, 40, 41, 42, 43, 44, 45, 46, 47, 48, 49, 50, 51, 52, 53, 54, 55, 56, 57, 88, 104, 105, 106, 107, 108, 109, 110, 111, 112, 113, 114, 115, 116, 117, 118, 119, 120, 121, 122, 123, 124, 125] (by decide +kernel) (by decide +kernel)) (goodIn_sub (fun _ h => List.mem_cons_of_mem _ (List.mem_append_right _ h)) (by decide +kernel))) (goodIn_sub (fun _ h => List.mem_cons_of_mem _ (List.mem_append_left _ (List.mem_append_right _ h))) (by decide +kernel))
set_option maxRecDepth 20000 in
theorem gL_isDay_X2_isCovered : GoodIn wsL_isDay (wsV RL 30 RX2 yX2_isCovered wsX2_isCovered) := goodIn_app (goodIn_of _ (by decide +kernel)) ggL_isDay_X2_isCovered
set_option maxRecDepth 20000 in
theorem ggL_isDay_X2_nextGap : GoodIn wsL_isDay wsX2_nextGap := goodIn_ca (goodIn_ca (goodIn_r _ [103, 97, 98, 4, 99, 82, 83, 6, 7, 8, 9, 10, 11, 12, 13, 14, 15, 16, 17, 18, 19, 20, 21, 22, 23, 24, 25, 26, 27, 28, 29, 30, 31, 32, 33, 34, 35, 36, 37, 38, 39, 40, 41, 42, 43, 44, 45, 46, 47, 48, 49, 50, 51, 52, 53, 54, 55, 56, 57, 88, 104, 105, 106, 107, 108, 109, 110, 111, 112, 113, 114, 115, 116, 117, 118, 119, 120, 121, 122, 123, 124, 125] (by decide +kernel) (by decide +kernel)) (goodIn_sub (fun _ h => List.mem_cons_of_mem _ (List.mem_append_right _ h)) (by decide +kernel))) (goodIn_sub (fun _ h => List.mem_cons_of_mem _ (List.mem_append_left _ (List.mem_append_right _ h))) (by decide +kernel))
set_option maxRecDepth 20000 in
theorem gL_isDay_X2_nextGap : GoodIn wsL_isDay (wsV RL 33 RX2 yX2_nextGap wsX2_nextGap) := goodIn_app (goodIn_of _ (by decide +kernel)) ggL_isDay_X2_nextGap
theorem dL_isDay_0 : decode cL_isDay 0 = .ok (.aload_n 0, 1) := by decide +kernel
theorem dL_isDay_1 : decode cL_isDay 1 = .ok (.iload_n 1, 1) := by decide +kernel
theorem dL_isDay_2 : decode cL_isDay 2 = .ok (.invokevirtual 8, 3) := by decide +kernel
theorem dL_isDay_5 : decode cL_isDay 5 = .ok (.istore_n 3, 1) := by decide +kernel
theorem dL_isDay_6 : decode cL_isDay 6 = .ok (.aload_n 0, 1) := by decide +kernel
theorem dL_isDay_7 : decode cL_isDay 7 = .ok (.iload_n 1, 1) := by decide +kernel
theorem dL_isDay_8 : decode cL_isDay 8 = .ok (.invokevirtual 14, 3) := by decide +kernel
theorem dL_isDay_11 : decode cL_isDay 11 = .ok (.istore 4, 2) := by decide +kernel
theorem dL_isDay_13 : decode cL_isDay 13 = .ok (.iconst 0, 1) := by decide +kernel
theorem dL_isDay_14 : decode cL_isDay 14 = .ok (.istore 5, 2) := by decide +kernel
theorem dL_isDay_16 : decode cL_isDay 16 = .ok (.iconst (-1), 1) := by decide +kernel
theorem dL_isDay_17 : decode cL_isDay 17 = .ok (.istore 6, 2) := by decide +kernel
theorem dL_isDay_19 : decode cL_isDay 19 = .ok (.iconst 1, 1) := by decide +kernel
theorem dL_isDay_20 : decode cL_isDay 20 = .ok (.istore 7, 2) := by decide +kernel
theorem dL_isDay_22 : decode cL_isDay 22 = .ok (.iconst 0, 1) := by decide +kernel
theorem dL_isDay_23 : decode cL_isDay 23 = .ok (.istore 8, 2) := by decide +kernel
theorem dL_isDay_25 : decode cL_isDay 25 = .ok (.iload 8, 2) := by decide +kernel
theorem dL_isDay_27 : decode cL_isDay 27 = .ok (.iload_n 2, 1) := by decide +kernel
theorem dL_isDay_28 : decode cL_isDay 28 = .ok (.if_icmp .ge 95, 3) := by decide +kernel
theorem dL_isDay_31 : decode cL_isDay 31 = .ok (.iload 7, 2) := by decide +kernel
theorem dL_isDay_33 : decode cL_isDay 33 = .ok (.ifCond .eq 90, 3) := by decide +kernel
theorem dL_isDay_36 : decode cL_isDay 36 = .ok (.aload_n 0, 1) := by decide +kernel
theorem dL_isDay_37 : decode cL_isDay 37 = .ok (.iload 8, 2) := by decide +kernel
theorem dL_isDay_39 : decode cL_isDay 39 = .ok (.iload_n 1, 1) := by decide +kernel
theorem dL_isDay_40 : decode cL_isDay 40 = .ok (.invokevirtual 17, 3) := by decide +kernel
theorem dL_isDay_43 : decode cL_isDay 43 = .ok (.istore 9, 2) := by decide +kernel
theorem dL_isDay_45 : decode cL_isDay 45 = .ok (.iload 9, 2) := by decide +kernel
theorem dL_isDay_47 : decode cL_isDay 47 = .ok (.iload_n 3, 1) := by decide +kernel
theorem dL_isDay_48 : decode cL_isDay 48 = .ok (.iconst (-1), 1) := by decide +kernel
theorem dL_isDay_49 : decode cL_isDay 49 = .ok (.ixor, 1) := by decide +kernel
theorem dL_isDay_50 : decode cL_isDay 50 = .ok (.iand, 1) := by decide +kernel
theorem dL_isDay_51 : decode cL_isDay 51 = .ok (.ifCond .ne 22, 3) := by decide +kernel
theorem dL_isDay_54 : decode cL_isDay 54 = .ok (.aload_n 0, 1) := by decide +kernel
theorem dL_isDay_55 : decode cL_isDay 55 = .ok (.iload 8, 2) := by decide +kernel
theorem dL_isDay_57 : decode cL_isDay 57 = .ok (.iload_n 1, 1) := by decide +kernel
theorem dL_isDay_58 : decode cL_isDay 58 = .ok (.invokevirtual 21, 3) := by decide +kernel
theorem dL_isDay_61 : decode cL_isDay 61 = .ok (.ifCond .ne 8, 3) := by decide +kernel
theorem dL_isDay_64 : decode cL_isDay 64 = .ok (.iload 9, 2) := by decide +kernel
theorem dL_isDay_66 : decode cL_isDay 66 = .ok (.ifCond .ne 7, 3) := by decide +kernel
theorem dL_isDay_69 : decode cL_isDay 69 = .ok (.iconst 1, 1) := by decide +kernel
theorem dL_isDay_70 : decode cL_isDay 70 = .ok (.goto 4, 3) := by decide +kernel
theorem dL_isDay_73 : decode cL_isDay 73 = .ok (.iconst 0, 1) := by decide +kernel
theorem dL_isDay_74 : decode cL_isDay 74 = .ok (.istore 7, 2) := by decide +kernel
theorem dL_isDay_76 : decode cL_isDay 76 = .ok (.iload 9, 2) := by decide +kernel
theorem dL_isDay_78 : decode cL_isDay 78 = .ok (.invokestatic 25, 3) := by decide +kernel
theorem dL_isDay_81 : decode cL_isDay 81 = .ok (.iload 5, 2) := by decide +kernel
theorem dL_isDay_83 : decode cL_isDay 83 = .ok (.if_icmp .le 8, 3) := by decide +kernel
theorem dL_isDay_86 : decode cL_isDay 86 = .ok (.iload 8, 2) := by decide +kernel
theorem dL_isDay_88 : decode cL_isDay 88 = .ok (.goto 5, 3) := by decide +kernel
theorem dL_isDay_91 : decode cL_isDay 91 = .ok (.iload 6, 2) := by decide +kernel
theorem dL_isDay_93 : decode cL_isDay 93 = .ok (.istore 6, 2) := by decide +kernel
theorem dL_isDay_95 : decode cL_isDay 95 = .ok (.iload 9, 2) := by decide +kernel
theorem dL_isDay_97 : decode cL_isDay 97 = .ok (.invokestatic 25, 3) := by decide +kernel
theorem dL_isDay_100 : decode cL_isDay 100 = .ok (.iload 5, 2) := by decide +kernel
theorem dL_isDay_102 : decode cL_isDay 102 = .ok (.if_icmp .le 11, 3) := by decide +kernel
theorem dL_isDay_105 : decode cL_isDay 105 = .ok (.iload 9, 2) := by decide +kernel
theorem dL_isDay_107 : decode cL_isDay 107 = .ok (.invokestatic 25, 3) := by decide +kernel
theorem dL_isDay_110 : decode cL_isDay 110 = .ok (.goto 5, 3) := by decide +kernel
theorem dL_isDay_113 : decode cL_isDay 113 = .ok (.iload 5, 2) := by decide +kernel
theorem dL_isDay_115 : decode cL_isDay 115 = .ok (.istore 5, 2) := by decide +kernel
theorem dL_isDay_117 : decode cL_isDay 117 = .ok (.iinc 8 1, 3) := by decide +kernel
theorem dL_isDay_120 : decode cL_isDay 120 = .ok (.goto (-95), 3) := by decide +kernel
theorem dL_isDay_123 : decode cL_isDay 123 = .ok (.iload_n 1, 1) := by decide +kernel
theorem dL_isDay_124 : decode cL_isDay 124 = .ok (.bipush 16, 2) := by decide +kernel
theorem dL_isDay_126 : decode cL_isDay 126 = .ok (.irem, 1) := by decide +kernel
theorem dL_isDay_127 : decode cL_isDay 127 = .ok (.istore 8, 2) := by decide +kernel
theorem dL_isDay_129 : decode cL_isDay 129 = .ok (.iload_n 3, 1) := by decide +kernel
theorem dL_isDay_130 : decode cL_isDay 130 = .ok (.iload 8, 2) := by decide +kernel
theorem dL_isDay_132 : decode cL_isDay 132 = .ok (.ishr, 1) := by decide +kernel
theorem dL_isDay_133 : decode cL_isDay 133 = .ok (.iconst 1, 1) := by decide +kernel
theorem dL_isDay_134 : decode cL_isDay 134 = .ok (.iand, 1) := by decide +kernel
theorem dL_isDay_135 : decode cL_isDay 135 = .ok (.iconst 1, 1) := by decide +kernel
theorem dL_isDay_136 : decode cL_isDay 136 = .ok (.if_icmp .ne 7, 3) := by decide +kernel
theorem dL_isDay_139 : decode cL_isDay 139 = .ok (.iconst 1, 1) := by decide +kernel
theorem dL_isDay_140 : decode cL_isDay 140 = .ok (.goto 4, 3) := by decide +kernel
theorem dL_isDay_143 : decode cL_isDay 143 = .ok (.iconst 0, 1) := by decide +kernel
theorem dL_isDay_144 : decode cL_isDay 144 = .ok (.istore 9, 2) := by decide +kernel
theorem dL_isDay_146 : decode cL_isDay 146 = .ok (.iload 7, 2) := by decide +kernel
theorem dL_isDay_148 : decode cL_isDay 148 = .ok (.ifCond .eq 55, 3) := by decide +kernel
theorem dL_isDay_151 : decode cL_isDay 151 = .ok (.iload 4, 2) := by decide +kernel
theorem dL_isDay_153 : decode cL_isDay 153 = .ok (.iload 6, 2) := by decide +kernel
theorem dL_isDay_155 : decode cL_isDay 155 = .ok (.if_icmp .ne 48, 3) := by decide +kernel
theorem dL_isDay_158 : decode cL_isDay 158 = .ok (.aload_n 0, 1) := by decide +kernel
theorem dL_isDay_159 : decode cL_isDay 159 = .ok (.iload 8, 2) := by decide +kernel
theorem dL_isDay_161 : decode cL_isDay 161 = .ok (.iload_n 1, 1) := by decide +kernel
theorem dL_isDay_162 : decode cL_isDay 162 = .ok (.invokevirtual 30, 3) := by decide +kernel
theorem dL_isDay_165 : decode cL_isDay 165 = .ok (.iload 9, 2) := by decide +kernel
theorem dL_isDay_167 : decode cL_isDay 167 = .ok (.if_icmp .ne 36, 3) := by decide +kernel
theorem dL_isDay_170 : decode cL_isDay 170 = .ok (.aload_n 0, 1) := by decide +kernel
theorem dL_isDay_171 : decode cL_isDay 171 = .ok (.iload 8, 2) := by decide +kernel
theorem dL_isDay_173 : decode cL_isDay 173 = .ok (.iload_n 1, 1) := by decide +kernel
theorem dL_isDay_174 : decode cL_isDay 174 = .ok (.invokevirtual 33, 3) := by decide +kernel
theorem dL_isDay_177 : decode cL_isDay 177 = .ok (.iload_n 1, 1) := by decide +kernel
theorem dL_isDay_178 : decode cL_isDay 178 = .ok (.if_icmp .ne 7, 3) := by decide +kernel
theorem dL_isDay_181 : decode cL_isDay 181 = .ok (.iconst 1, 1) := by decide +kernel
theorem dL_isDay_182 : decode cL_isDay 182 = .ok (.goto 4, 3) := by decide +kernel
theorem dL_isDay_185 : decode cL_isDay 185 = .ok (.iconst 0, 1) := by decide +kernel
theorem dL_isDay_186 : decode cL_isDay 186 = .ok (.iload 9, 2) := by decide +kernel
theorem dL_isDay_188 : decode cL_isDay 188 = .ok (.ifCond .ne 7, 3) := by decide +kernel
theorem dL_isDay_191 : decode cL_isDay 191 = .ok (.iconst 1, 1) := by decide +kernel
theorem dL_isDay_192 : decode cL_isDay 192 = .ok (.goto 4, 3) := by decide +kernel
theorem dL_isDay_195 : decode cL_isDay 195 = .ok (.iconst 0, 1) := by decide +kernel
theorem dL_isDay_196 : decode cL_isDay 196 = .ok (.if_icmp .ne 7, 3) := by decide +kernel
theorem dL_isDay_199 : decode cL_isDay 199 = .ok (.iconst 1, 1) := by decide +kernel
theorem dL_isDay_200 : decode cL_isDay 200 = .ok (.goto 4, 3) := by decide +kernel
theorem dL_isDay_203 : decode cL_isDay 203 = .ok (.iconst 0, 1) := by decide +kernel
theorem dL_isDay_204 : decode cL_isDay 204 = .ok (.ireturn, 1) := by decide +kernel
set_option maxRecDepth 20000 in
theorem ggL_areCertificates_X2_waiting : GoodIn wsL_areCertificates wsX2_waiting := goodIn_r _ [5, 6, 7, 8, 9, 10, 11, 12, 13, 14, 15, 16, 17, 18, 19, 20, 21, 22, 23, 24, 25, 26, 27, 28, 29, 30, 31, 32, 33, 34, 108, 109, 110, 111, 112, 113, 114, 115, 116, 117, 118, 119, 120] (by decide +kernel) (by decide +kernel)
set_option maxRecDepth 20000 in
theorem gL_areCertificates_X2_waiting : GoodIn wsL_areCertificates (wsV RL 36 RX2 yX2_waiting wsX2_waiting) := goodIn_app (goodIn_of _ (by decide +kernel)) ggL_areCertificates_X2_waiting
set_option maxRecDepth 20000 in
theorem ggL_areCertificates_X2_waitingAt : GoodIn wsL_areCertificates wsX2_waitingAt := goodIn_ca (goodIn_r _ [38, 39, 40, 6, 7, 41, 8, 9, 10, 11, 12, 13, 14, 15, 16, 17, 18, 19, 20, 21, 22, 23, 24, 25, 26, 27, 28, 29, 30, 31, 32, 33, 34, 108, 109, 110, 111, 112, 113, 114, 115, 116, 117, 118, 119, 120] (by decide +kernel) (by decide +kernel)) (goodIn_sub (fun _ h => List.mem_cons_of_mem _ (List.mem_append_right _ h)) (by decide +kernel))
set_option maxRecDepth 20000 in
theorem gL_areCertificates_X2_waitingAt : GoodIn wsL_areCertificates (wsV RL 40 RX2 yX2_waitingAt wsX2_waitingAt) := goodIn_app (goodIn_of _ (by decide +kernel)) ggL_areCertificates_X2_waitingAt
set_option maxRecDepth 20000 in
theorem ggL_areCertificates_X2_renewal : GoodIn wsL_areCertificates wsX2_renewal := goodIn_ca (goodIn_r _ [45, 6, 46, 47, 48, 49, 4, 50, 39, 40, 51, 108, 109, 110, 111, 112, 113, 114, 115, 116, 117, 118, 119, 120] (by decide +kernel) (by decide +kernel)) (goodIn_sub (fun _ h => List.mem_cons_of_mem _ (List.mem_append_right _ h)) (by decide +kernel))
set_option maxRecDepth 20000 in
theorem gL_areCertificates_X2_renewal : GoodIn wsL_areCertificates (wsV RL 43 RX2 yX2_renewal wsX2_renewal) := goodIn_app (goodIn_of _ (by decide +kernel)) ggL_areCertificates_X2_renewal
set_option maxRecDepth 20000 in
theorem ggL_areCertificates_X2_dueOn : GoodIn wsL_areCertificates wsX2_dueOn := goodIn_ca (goodIn_r _ [55, 6, 47, 48, 49, 4, 50, 39, 40, 51, 56, 20, 21, 11, 22, 23, 24, 25, 108, 109, 110, 111, 112, 113, 114, 115, 116, 117, 118, 119, 120] (by decide +kernel) (by decide +kernel)) (goodIn_sub (fun _ h => List.mem_cons_of_mem _ (List.mem_append_right _ h)) (by decide +kernel))
set_option maxRecDepth 20000 in
theorem gL_areCertificates_X2_dueOn : GoodIn wsL_areCertificates (wsV RL 46 RX2 yX2_dueOn wsX2_dueOn) := goodIn_app (goodIn_of _ (by decide +kernel)) ggL_areCertificates_X2_dueOn
set_option maxRecDepth 20000 in
theorem ggL_areCertificates_X2_today : GoodIn wsL_areCertificates wsX2_today := goodIn_r _ [60, 7, 108, 109, 110, 111, 112] (by decide +kernel) (by decide +kernel)
set_option maxRecDepth 20000 in
theorem gL_areCertificates_X2_today : GoodIn wsL_areCertificates (wsV RL 49 RX2 yX2_today wsX2_today) := goodIn_app (goodIn_of _ (by decide +kernel)) ggL_areCertificates_X2_today
set_option maxRecDepth 20000 in
theorem ggL_areCertificates_X2_lastDay : GoodIn wsL_areCertificates wsX2_lastDay := goodIn_ca (goodIn_r _ [64, 6, 47, 48, 49, 4, 50, 39, 40, 51, 65, 27, 28, 11, 29, 23, 24, 108, 109, 110, 111, 112, 113, 114, 115, 116, 117, 118, 119, 120] (by decide +kernel) (by decide +kernel)) (goodIn_sub (fun _ h => List.mem_cons_of_mem _ (List.mem_append_right _ h)) (by decide +kernel))
set_option maxRecDepth 20000 in
theorem gL_areCertificates_X2_lastDay : GoodIn wsL_areCertificates (wsV RL 52 RX2 yX2_lastDay wsX2_lastDay) := goodIn_app (goodIn_of _ (by decide +kernel)) ggL_areCertificates_X2_lastDay
set_option maxRecDepth 20000 in
theorem ggL_areCertificates_X2_certificates : GoodIn wsL_areCertificates wsX2_certificates := goodIn_r _ [69, 6, 51, 108, 109, 110, 111, 112, 113, 114, 115, 116, 117, 118, 119, 120] (by decide +kernel) (by decide +kernel)
set_option maxRecDepth 20000 in
theorem gL_areCertificates_X2_certificates : GoodIn wsL_areCertificates (wsV RL 55 RX2 yX2_certificates wsX2_certificates) := goodIn_app (goodIn_of _ (by decide +kernel)) ggL_areCertificates_X2_certificates
set_option maxRecDepth 20000 in
theorem ggL_areCertificates_X2_issuerOf : GoodIn wsL_areCertificates wsX2_issuerOf := goodIn_ca (goodIn_r _ [73, 6, 74, 47, 48, 49, 4, 50, 39, 40, 51, 108, 109, 110, 111, 112, 113, 114, 115, 116, 117, 118, 119, 120] (by decide +kernel) (by decide +kernel)) (goodIn_sub (fun _ h => List.mem_cons_of_mem _ (List.mem_append_right _ h)) (by decide +kernel))
set_option maxRecDepth 20000 in
theorem gL_areCertificates_X2_issuerOf : GoodIn wsL_areCertificates (wsV RL 58 RX2 yX2_issuerOf wsX2_issuerOf) := goodIn_app (goodIn_of _ (by decide +kernel)) ggL_areCertificates_X2_issuerOf
set_option maxRecDepth 20000 in
theorem ggL_areCertificates_X2_room : GoodIn wsL_areCertificates wsX2_room := goodIn_ca (goodIn_r _ [78, 79, 80, 81, 4, 82, 39, 40, 83, 84, 85, 86, 87, 88, 89, 6, 7, 90, 91, 92, 93, 94, 95, 11, 96, 13, 97, 23, 108, 109, 110, 111, 112, 121, 122, 123, 124, 125, 126, 127, 128, 129, 113, 114, 115, 116, 117, 118, 119, 120] (by decide +kernel) (by decide +kernel)) (goodIn_sub (fun _ h => List.mem_cons_of_mem _ (List.mem_append_right _ h)) (by decide +kernel))
set_option maxRecDepth 20000 in
theorem gL_areCertificates_X2_room : GoodIn wsL_areCertificates (wsV RL 61 RX2 yX2_room wsX2_room) := goodIn_app (goodIn_of _ (by decide +kernel)) ggL_areCertificates_X2_room
set_option maxRecDepth 20000 in
theorem ggL_areCertificates_X2_chains : GoodIn wsL_areCertificates wsX2_chains := goodIn_ca (goodIn_r _ [101, 83, 102, 79, 80, 81, 4, 82, 39, 40, 84, 108, 109, 110, 111, 112, 121, 122, 123, 124, 125, 126, 127, 128, 129] (by decide +kernel) (by decide +kernel)) (goodIn_sub (fun _ h => List.mem_cons_of_mem _ (List.mem_append_right _ h)) (by decide +kernel))
set_option maxRecDepth 20000 in
theorem gL_areCertificates_X2_chains : GoodIn wsL_areCertificates (wsV RL 64 RX2 yX2_chains wsX2_chains) := goodIn_app (goodIn_of _ (by decide +kernel)) ggL_areCertificates_X2_chains
set_option maxRecDepth 20000 in
theorem ggL_areCertificates_X2_chainEnd : GoodIn wsL_areCertificates wsX2_chainEnd := goodIn_ca (goodIn_r _ [106, 83, 107, 79, 80, 81, 4, 82, 39, 40, 84, 108, 109, 110, 111, 112, 121, 122, 123, 124, 125, 126, 127, 128, 129] (by decide +kernel) (by decide +kernel)) (goodIn_sub (fun _ h => List.mem_cons_of_mem _ (List.mem_append_right _ h)) (by decide +kernel))
set_option maxRecDepth 20000 in
theorem gL_areCertificates_X2_chainEnd : GoodIn wsL_areCertificates (wsV RL 67 RX2 yX2_chainEnd wsX2_chainEnd) := goodIn_app (goodIn_of _ (by decide +kernel)) ggL_areCertificates_X2_chainEnd
theorem dL_areCertificates_0 : decode cL_areCertificates 0 = .ok (.aload_n 0, 1) := by decide +kernel
theorem dL_areCertificates_1 : decode cL_areCertificates 1 = .ok (.invokevirtual 36, 3) := by decide +kernel
theorem dL_areCertificates_4 : decode cL_areCertificates 4 = .ok (.istore_n 2, 1) := by decide +kernel
theorem dL_areCertificates_5 : decode cL_areCertificates 5 = .ok (.iconst 1, 1) := by decide +kernel
theorem dL_areCertificates_6 : decode cL_areCertificates 6 = .ok (.istore_n 3, 1) := by decide +kernel
theorem dL_areCertificates_7 : decode cL_areCertificates 7 = .ok (.iconst (-1), 1) := by decide +kernel
theorem dL_areCertificates_8 : decode cL_areCertificates 8 = .ok (.istore 4, 2) := by decide +kernel
theorem dL_areCertificates_10 : decode cL_areCertificates 10 = .ok (.iconst (-1), 1) := by decide +kernel
theorem dL_areCertificates_11 : decode cL_areCertificates 11 = .ok (.istore 5, 2) := by decide +kernel
theorem dL_areCertificates_13 : decode cL_areCertificates 13 = .ok (.iconst 0, 1) := by decide +kernel
theorem dL_areCertificates_14 : decode cL_areCertificates 14 = .ok (.istore 6, 2) := by decide +kernel
theorem dL_areCertificates_16 : decode cL_areCertificates 16 = .ok (.iload 6, 2) := by decide +kernel
theorem dL_areCertificates_18 : decode cL_areCertificates 18 = .ok (.iload_n 2, 1) := by decide +kernel
theorem dL_areCertificates_19 : decode cL_areCertificates 19 = .ok (.if_icmp .ge 104, 3) := by decide +kernel
theorem dL_areCertificates_22 : decode cL_areCertificates 22 = .ok (.iload_n 3, 1) := by decide +kernel
theorem dL_areCertificates_23 : decode cL_areCertificates 23 = .ok (.ifCond .eq 100, 3) := by decide +kernel
theorem dL_areCertificates_26 : decode cL_areCertificates 26 = .ok (.aload_n 0, 1) := by decide +kernel
theorem dL_areCertificates_27 : decode cL_areCertificates 27 = .ok (.iload 6, 2) := by decide +kernel
theorem dL_areCertificates_29 : decode cL_areCertificates 29 = .ok (.invokevirtual 40, 3) := by decide +kernel
theorem dL_areCertificates_32 : decode cL_areCertificates 32 = .ok (.istore 7, 2) := by decide +kernel
theorem dL_areCertificates_34 : decode cL_areCertificates 34 = .ok (.aload_n 0, 1) := by decide +kernel
theorem dL_areCertificates_35 : decode cL_areCertificates 35 = .ok (.iload 7, 2) := by decide +kernel
theorem dL_areCertificates_37 : decode cL_areCertificates 37 = .ok (.invokevirtual 43, 3) := by decide +kernel
theorem dL_areCertificates_40 : decode cL_areCertificates 40 = .ok (.iconst (-1), 1) := by decide +kernel
theorem dL_areCertificates_41 : decode cL_areCertificates 41 = .ok (.if_icmp .ne 62, 3) := by decide +kernel
theorem dL_areCertificates_44 : decode cL_areCertificates 44 = .ok (.aload_n 0, 1) := by decide +kernel
theorem dL_areCertificates_45 : decode cL_areCertificates 45 = .ok (.iload 7, 2) := by decide +kernel
theorem dL_areCertificates_47 : decode cL_areCertificates 47 = .ok (.invokevirtual 46, 3) := by decide +kernel
theorem dL_areCertificates_50 : decode cL_areCertificates 50 = .ok (.aload_n 0, 1) := by decide +kernel
theorem dL_areCertificates_51 : decode cL_areCertificates 51 = .ok (.invokevirtual 49, 3) := by decide +kernel
theorem dL_areCertificates_54 : decode cL_areCertificates 54 = .ok (.if_icmp .gt 49, 3) := by decide +kernel
theorem dL_areCertificates_57 : decode cL_areCertificates 57 = .ok (.aload_n 0, 1) := by decide +kernel
theorem dL_areCertificates_58 : decode cL_areCertificates 58 = .ok (.iload 7, 2) := by decide +kernel
theorem dL_areCertificates_60 : decode cL_areCertificates 60 = .ok (.invokevirtual 52, 3) := by decide +kernel
theorem dL_areCertificates_63 : decode cL_areCertificates 63 = .ok (.aload_n 0, 1) := by decide +kernel
theorem dL_areCertificates_64 : decode cL_areCertificates 64 = .ok (.invokevirtual 49, 3) := by decide +kernel
theorem dL_areCertificates_67 : decode cL_areCertificates 67 = .ok (.if_icmp .lt 36, 3) := by decide +kernel
theorem dL_areCertificates_70 : decode cL_areCertificates 70 = .ok (.aload_n 0, 1) := by decide +kernel
theorem dL_areCertificates_71 : decode cL_areCertificates 71 = .ok (.iload 7, 2) := by decide +kernel
theorem dL_areCertificates_73 : decode cL_areCertificates 73 = .ok (.invokevirtual 52, 3) := by decide +kernel
theorem dL_areCertificates_76 : decode cL_areCertificates 76 = .ok (.iload 4, 2) := by decide +kernel
theorem dL_areCertificates_78 : decode cL_areCertificates 78 = .ok (.if_icmp .gt 21, 3) := by decide +kernel
theorem dL_areCertificates_81 : decode cL_areCertificates 81 = .ok (.aload_n 0, 1) := by decide +kernel
theorem dL_areCertificates_82 : decode cL_areCertificates 82 = .ok (.iload 7, 2) := by decide +kernel
theorem dL_areCertificates_84 : decode cL_areCertificates 84 = .ok (.invokevirtual 52, 3) := by decide +kernel
theorem dL_areCertificates_87 : decode cL_areCertificates 87 = .ok (.iload 4, 2) := by decide +kernel
theorem dL_areCertificates_89 : decode cL_areCertificates 89 = .ok (.if_icmp .ne 14, 3) := by decide +kernel
theorem dL_areCertificates_92 : decode cL_areCertificates 92 = .ok (.iload 7, 2) := by decide +kernel
theorem dL_areCertificates_94 : decode cL_areCertificates 94 = .ok (.iload 5, 2) := by decide +kernel
theorem dL_areCertificates_96 : decode cL_areCertificates 96 = .ok (.if_icmp .le 7, 3) := by decide +kernel
theorem dL_areCertificates_99 : decode cL_areCertificates 99 = .ok (.iconst 1, 1) := by decide +kernel
theorem dL_areCertificates_100 : decode cL_areCertificates 100 = .ok (.goto 4, 3) := by decide +kernel
theorem dL_areCertificates_103 : decode cL_areCertificates 103 = .ok (.iconst 0, 1) := by decide +kernel
theorem dL_areCertificates_104 : decode cL_areCertificates 104 = .ok (.istore_n 3, 1) := by decide +kernel
theorem dL_areCertificates_105 : decode cL_areCertificates 105 = .ok (.aload_n 0, 1) := by decide +kernel
theorem dL_areCertificates_106 : decode cL_areCertificates 106 = .ok (.iload 7, 2) := by decide +kernel
theorem dL_areCertificates_108 : decode cL_areCertificates 108 = .ok (.invokevirtual 52, 3) := by decide +kernel
theorem dL_areCertificates_111 : decode cL_areCertificates 111 = .ok (.istore 4, 2) := by decide +kernel
theorem dL_areCertificates_113 : decode cL_areCertificates 113 = .ok (.iload 7, 2) := by decide +kernel
theorem dL_areCertificates_115 : decode cL_areCertificates 115 = .ok (.istore 5, 2) := by decide +kernel
theorem dL_areCertificates_117 : decode cL_areCertificates 117 = .ok (.iinc 6 1, 3) := by decide +kernel
theorem dL_areCertificates_120 : decode cL_areCertificates 120 = .ok (.goto (-104), 3) := by decide +kernel
theorem dL_areCertificates_123 : decode cL_areCertificates 123 = .ok (.iconst 0, 1) := by decide +kernel
theorem dL_areCertificates_124 : decode cL_areCertificates 124 = .ok (.istore 6, 2) := by decide +kernel
theorem dL_areCertificates_126 : decode cL_areCertificates 126 = .ok (.iload 6, 2) := by decide +kernel
theorem dL_areCertificates_128 : decode cL_areCertificates 128 = .ok (.aload_n 0, 1) := by decide +kernel
theorem dL_areCertificates_129 : decode cL_areCertificates 129 = .ok (.invokevirtual 55, 3) := by decide +kernel
theorem dL_areCertificates_132 : decode cL_areCertificates 132 = .ok (.if_icmp .ge 84, 3) := by decide +kernel
theorem dL_areCertificates_135 : decode cL_areCertificates 135 = .ok (.iload_n 3, 1) := by decide +kernel
theorem dL_areCertificates_136 : decode cL_areCertificates 136 = .ok (.ifCond .eq 80, 3) := by decide +kernel
theorem dL_areCertificates_139 : decode cL_areCertificates 139 = .ok (.aload_n 0, 1) := by decide +kernel
theorem dL_areCertificates_140 : decode cL_areCertificates 140 = .ok (.iload 6, 2) := by decide +kernel
theorem dL_areCertificates_142 : decode cL_areCertificates 142 = .ok (.invokevirtual 43, 3) := by decide +kernel
theorem dL_areCertificates_145 : decode cL_areCertificates 145 = .ok (.istore 7, 2) := by decide +kernel
theorem dL_areCertificates_147 : decode cL_areCertificates 147 = .ok (.aload_n 0, 1) := by decide +kernel
theorem dL_areCertificates_148 : decode cL_areCertificates 148 = .ok (.iload 6, 2) := by decide +kernel
theorem dL_areCertificates_150 : decode cL_areCertificates 150 = .ok (.invokevirtual 58, 3) := by decide +kernel
theorem dL_areCertificates_153 : decode cL_areCertificates 153 = .ok (.iload_n 1, 1) := by decide +kernel
theorem dL_areCertificates_154 : decode cL_areCertificates 154 = .ok (.if_icmp .ge 54, 3) := by decide +kernel
theorem dL_areCertificates_157 : decode cL_areCertificates 157 = .ok (.iload 7, 2) := by decide +kernel
theorem dL_areCertificates_159 : decode cL_areCertificates 159 = .ok (.iconst (-1), 1) := by decide +kernel
theorem dL_areCertificates_160 : decode cL_areCertificates 160 = .ok (.if_icmp .eq 44, 3) := by decide +kernel
theorem dL_areCertificates_163 : decode cL_areCertificates 163 = .ok (.iload 7, 2) := by decide +kernel
theorem dL_areCertificates_165 : decode cL_areCertificates 165 = .ok (.iload 6, 2) := by decide +kernel
theorem dL_areCertificates_167 : decode cL_areCertificates 167 = .ok (.if_icmp .le 41, 3) := by decide +kernel
theorem dL_areCertificates_170 : decode cL_areCertificates 170 = .ok (.aload_n 0, 1) := by decide +kernel
theorem dL_areCertificates_171 : decode cL_areCertificates 171 = .ok (.iload 7, 2) := by decide +kernel
theorem dL_areCertificates_173 : decode cL_areCertificates 173 = .ok (.invokevirtual 58, 3) := by decide +kernel
theorem dL_areCertificates_176 : decode cL_areCertificates 176 = .ok (.aload_n 0, 1) := by decide +kernel
theorem dL_areCertificates_177 : decode cL_areCertificates 177 = .ok (.iload 6, 2) := by decide +kernel
theorem dL_areCertificates_179 : decode cL_areCertificates 179 = .ok (.invokevirtual 58, 3) := by decide +kernel
theorem dL_areCertificates_182 : decode cL_areCertificates 182 = .ok (.if_icmp .ne 26, 3) := by decide +kernel
theorem dL_areCertificates_185 : decode cL_areCertificates 185 = .ok (.aload_n 0, 1) := by decide +kernel
theorem dL_areCertificates_186 : decode cL_areCertificates 186 = .ok (.iload 7, 2) := by decide +kernel
theorem dL_areCertificates_188 : decode cL_areCertificates 188 = .ok (.invokevirtual 52, 3) := by decide +kernel
theorem dL_areCertificates_191 : decode cL_areCertificates 191 = .ok (.aload_n 0, 1) := by decide +kernel
theorem dL_areCertificates_192 : decode cL_areCertificates 192 = .ok (.iload 6, 2) := by decide +kernel
theorem dL_areCertificates_194 : decode cL_areCertificates 194 = .ok (.invokevirtual 52, 3) := by decide +kernel
theorem dL_areCertificates_197 : decode cL_areCertificates 197 = .ok (.sipush 400, 3) := by decide +kernel
theorem dL_areCertificates_200 : decode cL_areCertificates 200 = .ok (.isub, 1) := by decide +kernel
theorem dL_areCertificates_201 : decode cL_areCertificates 201 = .ok (.if_icmp .le 7, 3) := by decide +kernel
theorem dL_areCertificates_204 : decode cL_areCertificates 204 = .ok (.iconst 1, 1) := by decide +kernel
theorem dL_areCertificates_205 : decode cL_areCertificates 205 = .ok (.goto 4, 3) := by decide +kernel
theorem dL_areCertificates_208 : decode cL_areCertificates 208 = .ok (.iconst 0, 1) := by decide +kernel
theorem dL_areCertificates_209 : decode cL_areCertificates 209 = .ok (.istore_n 3, 1) := by decide +kernel
theorem dL_areCertificates_210 : decode cL_areCertificates 210 = .ok (.iinc 6 1, 3) := by decide +kernel
theorem dL_areCertificates_213 : decode cL_areCertificates 213 = .ok (.goto (-87), 3) := by decide +kernel
theorem dL_areCertificates_216 : decode cL_areCertificates 216 = .ok (.iconst 0, 1) := by decide +kernel
theorem dL_areCertificates_217 : decode cL_areCertificates 217 = .ok (.istore 6, 2) := by decide +kernel
theorem dL_areCertificates_219 : decode cL_areCertificates 219 = .ok (.iload 6, 2) := by decide +kernel
theorem dL_areCertificates_221 : decode cL_areCertificates 221 = .ok (.iload_n 1, 1) := by decide +kernel
theorem dL_areCertificates_222 : decode cL_areCertificates 222 = .ok (.if_icmp .ge 50, 3) := by decide +kernel
theorem dL_areCertificates_225 : decode cL_areCertificates 225 = .ok (.iload_n 3, 1) := by decide +kernel
theorem dL_areCertificates_226 : decode cL_areCertificates 226 = .ok (.ifCond .eq 46, 3) := by decide +kernel
theorem dL_areCertificates_229 : decode cL_areCertificates 229 = .ok (.aload_n 0, 1) := by decide +kernel
theorem dL_areCertificates_230 : decode cL_areCertificates 230 = .ok (.iload 6, 2) := by decide +kernel
theorem dL_areCertificates_232 : decode cL_areCertificates 232 = .ok (.invokevirtual 61, 3) := by decide +kernel
theorem dL_areCertificates_235 : decode cL_areCertificates 235 = .ok (.ifCond .lt 29, 3) := by decide +kernel
theorem dL_areCertificates_238 : decode cL_areCertificates 238 = .ok (.aload_n 0, 1) := by decide +kernel
theorem dL_areCertificates_239 : decode cL_areCertificates 239 = .ok (.iload 6, 2) := by decide +kernel
theorem dL_areCertificates_241 : decode cL_areCertificates 241 = .ok (.invokevirtual 64, 3) := by decide +kernel
theorem dL_areCertificates_244 : decode cL_areCertificates 244 = .ok (.iconst 1, 1) := by decide +kernel
theorem dL_areCertificates_245 : decode cL_areCertificates 245 = .ok (.if_icmp .lt 19, 3) := by decide +kernel
theorem dL_areCertificates_248 : decode cL_areCertificates 248 = .ok (.aload_n 0, 1) := by decide +kernel
theorem dL_areCertificates_249 : decode cL_areCertificates 249 = .ok (.iload 6, 2) := by decide +kernel
theorem dL_areCertificates_251 : decode cL_areCertificates 251 = .ok (.invokevirtual 67, 3) := by decide +kernel
theorem dL_areCertificates_254 : decode cL_areCertificates 254 = .ok (.sipush 5000, 3) := by decide +kernel
theorem dL_areCertificates_257 : decode cL_areCertificates 257 = .ok (.if_icmp .gt 7, 3) := by decide +kernel
theorem dL_areCertificates_260 : decode cL_areCertificates 260 = .ok (.iconst 1, 1) := by decide +kernel
theorem dL_areCertificates_261 : decode cL_areCertificates 261 = .ok (.goto 4, 3) := by decide +kernel
theorem dL_areCertificates_264 : decode cL_areCertificates 264 = .ok (.iconst 0, 1) := by decide +kernel
theorem dL_areCertificates_265 : decode cL_areCertificates 265 = .ok (.istore_n 3, 1) := by decide +kernel
theorem dL_areCertificates_266 : decode cL_areCertificates 266 = .ok (.iinc 6 1, 3) := by decide +kernel
theorem dL_areCertificates_269 : decode cL_areCertificates 269 = .ok (.goto (-50), 3) := by decide +kernel
theorem dL_areCertificates_272 : decode cL_areCertificates 272 = .ok (.iload_n 3, 1) := by decide +kernel
theorem dL_areCertificates_273 : decode cL_areCertificates 273 = .ok (.ireturn, 1) := by decide +kernel
set_option maxRecDepth 20000 in
theorem ggL_law_X2_init : GoodIn wsL_law wsX2_init := goodIn_r _ [5, 6, 7, 8, 9, 10, 11, 12, 13, 14, 15, 16, 17, 18, 19, 20, 21, 22, 23, 24, 25, 26, 27, 28, 29, 30, 31, 32, 33, 34, 35, 36, 37, 38, 39, 40, 41, 42, 43, 307, 308, 309, 310, 311, 312, 313, 314, 315, 302, 303, 304, 305, 306, 316, 317, 318, 319, 320, 321, 322, 323] (by decide +kernel) (by decide +kernel)
set_option maxRecDepth 20000 in
theorem gL_law_X2_init : GoodIn wsL_law (wsX2_init) := ggL_law_X2_init
set_option maxRecDepth 20000 in
theorem ggL_law_L_cell : GoodIn wsL_law wsL_cell := goodIn_r _ [47] (by decide +kernel) (by decide +kernel)
set_option maxRecDepth 20000 in
theorem gL_law_L_cell : GoodIn wsL_law (va_wsS RL 71 yL_cell wsL_cell) := goodIn_app (goodIn_of _ (by decide +kernel)) ggL_law_L_cell
set_option maxRecDepth 20000 in
theorem ggL_law_L_low : GoodIn wsL_law wsL_low := goodIn_r _ [50, 51] (by decide +kernel) (by decide +kernel)
set_option maxRecDepth 20000 in
theorem gL_law_L_low : GoodIn wsL_law (va_wsS RL 75 yL_low wsL_low) := goodIn_app (goodIn_of _ (by decide +kernel)) ggL_law_L_low
set_option maxRecDepth 20000 in
theorem ggL_law_X2_addIssuer : GoodIn wsL_law wsX2_addIssuer := goodIn_ca (goodIn_ca (goodIn_ca (goodIn_r _ [55, 56, 57, 58, 59, 12, 60, 61, 62, 2, 63, 64, 65, 66, 67, 68, 69, 70, 71, 72, 11, 73, 32, 74, 75, 76, 77, 24, 25, 26, 27, 28, 29, 78, 79, 80, 81, 30, 31, 82, 83, 84, 85, 86, 87, 88, 89, 90, 91, 92, 302, 303, 304, 305, 306, 307, 308, 309, 310, 311, 312, 313, 314, 315] (by decide +kernel) (by decide +kernel)) (goodIn_sub (fun _ h => List.mem_append_left _ (List.mem_append_left _ (List.mem_append_right _ h))) (by decide +kernel))) (goodIn_sub (fun _ h => List.mem_append_left _ (List.mem_append_right _ h)) (by decide +kernel))) (goodIn_sub (fun _ h => List.mem_append_right _ h) (by decide +kernel))
set_option maxRecDepth 20000 in
theorem gL_law_X2_addIssuer : GoodIn wsL_law (wsV RL 78 RX2 yX2_addIssuer wsX2_addIssuer) := goodIn_app (goodIn_of _ (by decide +kernel)) ggL_law_X2_addIssuer
set_option maxRecDepth 20000 in
theorem ggL_law_X2_room : GoodIn wsL_law wsX2_room := goodIn_ca (goodIn_r _ [96, 60, 61, 62, 2, 63, 64, 65, 12, 66, 97, 98, 99, 100, 101, 16, 20, 102, 103, 104, 105, 106, 107, 15, 108, 43, 36, 38, 302, 303, 304, 305, 306, 307, 308, 309, 310, 311, 312, 313, 314, 315, 316, 317, 318, 319, 320, 321, 322, 323] (by decide +kernel) (by decide +kernel)) (goodIn_sub (fun _ h => List.mem_append_right _ h) (by decide +kernel))
set_option maxRecDepth 20000 in
theorem gL_law_X2_room : GoodIn wsL_law (wsV RL 61 RX2 yX2_room wsX2_room) := goodIn_app (goodIn_of _ (by decide +kernel)) ggL_law_X2_room
set_option maxRecDepth 20000 in
theorem ggL_law_X2_isGood : GoodIn wsL_law wsX2_isGood := goodIn_ca (goodIn_ca (goodIn_r _ [112, 12, 60, 61, 62, 2, 63, 64, 65, 66, 67, 68, 69, 56, 57, 113, 114, 115, 11, 116, 32, 117, 118, 119, 120, 29, 26, 27, 121, 122, 123, 124, 24, 25, 89, 90, 91, 92, 125, 126, 127, 302, 303, 304, 305, 306, 307, 308, 309, 310, 311, 312, 313, 314, 315] (by decide +kernel) (by decide +kernel)) (goodIn_sub (fun _ h => List.mem_append_right _ h) (by decide +kernel))) (goodIn_sub (fun _ h => List.mem_append_left _ (List.mem_append_left _ (List.mem_append_right _ h))) (by decide +kernel))
set_option maxRecDepth 20000 in
theorem gL_law_X2_isGood : GoodIn wsL_law (wsV RL 21 RX2 yX2_isGood wsX2_isGood) := goodIn_app (goodIn_of _ (by decide +kernel)) ggL_law_X2_isGood
set_option maxRecDepth 20000 in
theorem ggL_law_X2_issue : GoodIn wsL_law wsX2_issue := goodIn_ca (goodIn_ca (goodIn_ca (goodIn_r _ [131, 56, 57, 58, 59, 60, 61, 62, 2, 63, 64, 65, 12, 66, 132, 133, 134, 135, 16, 20, 136, 137, 138, 15, 139, 43, 97, 98, 99, 100, 101, 102, 103, 104, 105, 106, 107, 108, 36, 38, 140, 141, 142, 143, 18, 144, 145, 146, 127, 125, 126, 113, 114, 115, 11, 116, 32, 117, 118, 119, 120, 29, 26, 27, 121, 122, 123, 124, 24, 25, 89, 90, 91, 92, 147, 148, 149, 150, 151, 152, 153, 154, 19, 155, 156, 157, 158, 159, 37, 39, 40, 41, 302, 303, 304, 305, 306, 307, 308, 309, 310, 311, 312, 313, 314, 315, 316, 317, 318, 319, 320, 321, 322, 323] (by decide +kernel) (by decide +kernel)) (goodIn_sub (fun _ h => List.mem_append_left _ (List.mem_append_left _ (List.mem_append_right _ h))) (by decide +kernel))) (goodIn_sub (fun _ h => List.mem_append_left _ (List.mem_append_right _ h)) (by decide +kernel))) (goodIn_sub (fun _ h => List.mem_append_right _ h) (by decide +kernel))
set_option maxRecDepth 20000 in
theorem gL_law_X2_issue : GoodIn wsL_law (wsV RL 82 RX2 yX2_issue wsX2_issue) := goodIn_app (goodIn_of _ (by decide +kernel)) ggL_law_X2_issue
set_option maxRecDepth 20000 in
theorem ggL_law_X2_lastDay : GoodIn wsL_law wsX2_lastDay := goodIn_ca (goodIn_r _ [163, 16, 164, 165, 166, 2, 167, 64, 65, 168, 169, 170, 171, 15, 172, 38, 39, 302, 303, 304, 305, 306, 316, 317, 318, 319, 320, 321, 322, 323] (by decide +kernel) (by decide +kernel)) (goodIn_sub (fun _ h => List.mem_append_right _ h) (by decide +kernel))
set_option maxRecDepth 20000 in
theorem gL_law_X2_lastDay : GoodIn wsL_law (wsV RL 52 RX2 yX2_lastDay wsX2_lastDay) := goodIn_app (goodIn_of _ (by decide +kernel)) ggL_law_X2_lastDay
set_option maxRecDepth 20000 in
theorem ggL_law_X2_dueOn : GoodIn wsL_law wsX2_dueOn := goodIn_ca (goodIn_r _ [176, 16, 164, 165, 166, 2, 167, 64, 65, 168, 177, 178, 179, 15, 180, 38, 39, 40, 302, 303, 304, 305, 306, 316, 317, 318, 319, 320, 321, 322, 323] (by decide +kernel) (by decide +kernel)) (goodIn_sub (fun _ h => List.mem_append_right _ h) (by decide +kernel))
set_option maxRecDepth 20000 in
theorem gL_law_X2_dueOn : GoodIn wsL_law (wsV RL 46 RX2 yX2_dueOn wsX2_dueOn) := goodIn_app (goodIn_of _ (by decide +kernel)) ggL_law_X2_dueOn
set_option maxRecDepth 20000 in
theorem ggL_law_X2_distrust : GoodIn wsL_law wsX2_distrust := goodIn_ca (goodIn_ca (goodIn_r _ [184, 12, 185, 60, 61, 62, 2, 63, 64, 65, 66, 67, 68, 69, 56, 57, 302, 303, 304, 305, 306, 307, 308, 309, 310, 311, 312, 313, 314, 315] (by decide +kernel) (by decide +kernel)) (goodIn_sub (fun _ h => List.mem_append_right _ h) (by decide +kernel))) (goodIn_sub (fun _ h => List.mem_append_left _ (List.mem_append_left _ (List.mem_append_right _ h))) (by decide +kernel))
set_option maxRecDepth 20000 in
theorem gL_law_X2_distrust : GoodIn wsL_law (wsV RL 86 RX2 yX2_distrust wsX2_distrust) := goodIn_app (goodIn_of _ (by decide +kernel)) ggL_law_X2_distrust
set_option maxRecDepth 20000 in
theorem ggL_law_X2_setSeed : GoodIn wsL_law wsX2_setSeed := goodIn_r _ [189, 19, 302, 303, 304, 305, 306] (by decide +kernel) (by decide +kernel)
set_option maxRecDepth 20000 in
theorem gL_law_X2_setSeed : GoodIn wsL_law (wsV RL 89 RX2 yX2_setSeed wsX2_setSeed) := goodIn_app (goodIn_of _ (by decide +kernel)) ggL_law_X2_setSeed
set_option maxRecDepth 20000 in
theorem ggL_law_X2_pass : GoodIn wsL_law wsX2_pass := goodIn_ca (goodIn_ca (goodIn_r _ [193, 56, 57, 58, 59, 20, 194, 195, 196, 2, 197, 16, 198, 199, 200, 201, 202, 203, 204, 205, 15, 206, 43, 207, 208, 209, 210, 41, 211, 178, 179, 180, 38, 39, 40, 212, 170, 171, 172, 213, 214, 215, 216, 42, 132, 133, 134, 135, 12, 136, 137, 138, 139, 97, 98, 99, 100, 101, 102, 103, 104, 105, 106, 107, 108, 36, 140, 141, 142, 143, 18, 144, 145, 146, 127, 125, 126, 113, 114, 115, 11, 116, 32, 117, 118, 119, 120, 29, 26, 27, 121, 122, 123, 124, 24, 25, 89, 90, 91, 92, 147, 148, 149, 150, 151, 152, 153, 154, 19, 155, 156, 157, 158, 159, 37, 302, 303, 304, 305, 306, 316, 317, 318, 319, 320, 321, 322, 323, 307, 308, 309, 310, 311, 312, 313, 314, 315] (by decide +kernel) (by decide +kernel)) (goodIn_sub (fun _ h => List.mem_append_left _ (List.mem_append_left _ (List.mem_append_right _ h))) (by decide +kernel))) (goodIn_sub (fun _ h => List.mem_append_left _ (List.mem_append_right _ h)) (by decide +kernel))
set_option maxRecDepth 20000 in
theorem gL_law_X2_pass : GoodIn wsL_law (wsV RL 93 RX2 yX2_pass wsX2_pass) := goodIn_app (goodIn_of _ (by decide +kernel)) ggL_law_X2_pass
set_option maxRecDepth 20000 in
theorem ggL_law_X2_certificates : GoodIn wsL_law wsX2_certificates := goodIn_r _ [220, 16, 168, 302, 303, 304, 305, 306, 316, 317, 318, 319, 320, 321, 322, 323] (by decide +kernel) (by decide +kernel)
set_option maxRecDepth 20000 in
theorem gL_law_X2_certificates : GoodIn wsL_law (wsV RL 55 RX2 yX2_certificates wsX2_certificates) := goodIn_app (goodIn_of _ (by decide +kernel)) ggL_law_X2_certificates
set_option maxRecDepth 20000 in
theorem ggL_law_X2_today : GoodIn wsL_law wsX2_today := goodIn_r _ [224, 20, 302, 303, 304, 305, 306] (by decide +kernel) (by decide +kernel)
set_option maxRecDepth 20000 in
theorem gL_law_X2_today : GoodIn wsL_law (wsV RL 49 RX2 yX2_today wsX2_today) := goodIn_app (goodIn_of _ (by decide +kernel)) ggL_law_X2_today
set_option maxRecDepth 20000 in
theorem ggL_law_L_areCertificates : GoodIn wsL_law wsL_areCertificates := goodIn_ca (goodIn_r _ [227, 228, 229, 230, 2, 231, 16, 20, 203, 204, 205, 15, 206, 43, 207, 208, 209, 210, 41, 211, 178, 179, 180, 38, 39, 40, 212, 170, 171, 172, 213, 214, 215, 216, 42, 232, 233, 234, 235, 64, 65, 198, 236, 237, 238, 239, 201, 164, 165, 166, 167, 168, 173, 174, 175, 176, 177, 221, 222, 223, 224, 160, 161, 162, 163, 169, 217, 218, 219, 220, 240, 241, 242, 243, 199, 93, 94, 95, 96, 60, 61, 62, 63, 12, 66, 97, 98, 99, 100, 101, 102, 103, 104, 105, 106, 107, 108, 36, 244, 245, 246, 247, 248, 249, 250, 251, 252, 253, 302, 303, 304, 305, 306, 316, 317, 318, 319, 320, 321, 322, 323, 307, 308, 309, 310, 311, 312, 313, 314, 315] (by decide +kernel) (by decide +kernel)) (goodIn_sub (fun _ h => List.mem_append_right _ h) (by decide +kernel))
set_option maxRecDepth 20000 in
theorem gL_law_L_areCertificates : GoodIn wsL_law (va_wsS RL 96 yL_areCertificates wsL_areCertificates) := goodIn_app (goodIn_of _ (by decide +kernel)) ggL_law_L_areCertificates
set_option maxRecDepth 20000 in
theorem ggL_law_L_isDay : GoodIn wsL_law wsL_isDay := goodIn_ca (goodIn_ca (goodIn_r _ [256, 257, 258, 259, 2, 260, 67, 68, 69, 56, 57, 261, 262, 263, 264, 16, 12, 113, 114, 115, 11, 116, 32, 117, 118, 119, 120, 29, 26, 27, 121, 122, 123, 124, 24, 25, 89, 90, 91, 92, 125, 126, 265, 266, 267, 15, 268, 43, 38, 36, 37, 212, 170, 171, 172, 39, 145, 146, 269, 270, 271, 272, 66, 273, 274, 275, 276, 277, 278, 279, 280, 281, 282, 283, 284, 285, 286, 287, 60, 61, 62, 63, 64, 65, 109, 110, 111, 112, 127, 288, 289, 46, 290, 291, 292, 293, 294, 295, 296, 297, 298, 299, 300, 301, 302, 303, 304, 305, 306, 307, 308, 309, 310, 311, 312, 313, 314, 315, 316, 317, 318, 319, 320, 321, 322, 323] (by decide +kernel) (by decide +kernel)) (goodIn_sub (fun _ h => List.mem_append_left _ (List.mem_append_left _ (List.mem_append_right _ h))) (by decide +kernel))) (goodIn_sub (fun _ h => List.mem_append_right _ h) (by decide +kernel))
set_option maxRecDepth 20000 in
theorem gL_law_L_isDay : GoodIn wsL_law (va_wsS RL 100 yL_isDay wsL_isDay) := goodIn_app (goodIn_of _ (by decide +kernel)) ggL_law_L_isDay
theorem dL_law_0 : decode cL_law 0 = .ok (.new 9, 3) := by decide +kernel
theorem dL_law_3 : decode cL_law 3 = .ok (.dup, 1) := by decide +kernel
theorem dL_law_4 : decode cL_law 4 = .ok (.invokespecial 70, 3) := by decide +kernel
theorem dL_law_7 : decode cL_law 7 = .ok (.astore_n 1, 1) := by decide +kernel
theorem dL_law_8 : decode cL_law 8 = .ok (.iconst 0, 1) := by decide +kernel
theorem dL_law_9 : decode cL_law 9 = .ok (.istore_n 2, 1) := by decide +kernel
theorem dL_law_10 : decode cL_law 10 = .ok (.iconst 0, 1) := by decide +kernel
theorem dL_law_11 : decode cL_law 11 = .ok (.istore_n 3, 1) := by decide +kernel
theorem dL_law_12 : decode cL_law 12 = .ok (.iconst 0, 1) := by decide +kernel
theorem dL_law_13 : decode cL_law 13 = .ok (.istore 4, 2) := by decide +kernel
theorem dL_law_15 : decode cL_law 15 = .ok (.iconst 0, 1) := by decide +kernel
theorem dL_law_16 : decode cL_law 16 = .ok (.istore 5, 2) := by decide +kernel
theorem dL_law_18 : decode cL_law 18 = .ok (.iload 5, 2) := by decide +kernel
theorem dL_law_20 : decode cL_law 20 = .ok (.bipush 60, 2) := by decide +kernel
theorem dL_law_22 : decode cL_law 22 = .ok (.if_icmp .ge 471, 3) := by decide +kernel
theorem dL_law_25 : decode cL_law 25 = .ok (.aload_n 0, 1) := by decide +kernel
theorem dL_law_26 : decode cL_law 26 = .ok (.iconst 2, 1) := by decide +kernel
theorem dL_law_27 : decode cL_law 27 = .ok (.iload 5, 2) := by decide +kernel
theorem dL_law_29 : decode cL_law 29 = .ok (.imul, 1) := by decide +kernel
theorem dL_law_30 : decode cL_law 30 = .ok (.invokestatic 71, 3) := by decide +kernel
theorem dL_law_33 : decode cL_law 33 = .ok (.istore 6, 2) := by decide +kernel
theorem dL_law_35 : decode cL_law 35 = .ok (.aload_n 0, 1) := by decide +kernel
theorem dL_law_36 : decode cL_law 36 = .ok (.iconst 2, 1) := by decide +kernel
theorem dL_law_37 : decode cL_law 37 = .ok (.iload 5, 2) := by decide +kernel
theorem dL_law_39 : decode cL_law 39 = .ok (.imul, 1) := by decide +kernel
theorem dL_law_40 : decode cL_law 40 = .ok (.iconst 1, 1) := by decide +kernel
theorem dL_law_41 : decode cL_law 41 = .ok (.iadd, 1) := by decide +kernel
theorem dL_law_42 : decode cL_law 42 = .ok (.invokestatic 71, 3) := by decide +kernel
theorem dL_law_45 : decode cL_law 45 = .ok (.istore 7, 2) := by decide +kernel
theorem dL_law_47 : decode cL_law 47 = .ok (.iload 6, 2) := by decide +kernel
theorem dL_law_49 : decode cL_law 49 = .ok (.bipush 14, 2) := by decide +kernel
theorem dL_law_51 : decode cL_law 51 = .ok (.invokestatic 75, 3) := by decide +kernel
theorem dL_law_54 : decode cL_law 54 = .ok (.istore 8, 2) := by decide +kernel
theorem dL_law_56 : decode cL_law 56 = .ok (.iload_n 2, 1) := by decide +kernel
theorem dL_law_57 : decode cL_law 57 = .ok (.ifCond .ne 7, 3) := by decide +kernel
theorem dL_law_60 : decode cL_law 60 = .ok (.iconst 0, 1) := by decide +kernel
theorem dL_law_61 : decode cL_law 61 = .ok (.goto 9, 3) := by decide +kernel
theorem dL_law_64 : decode cL_law 64 = .ok (.iload 7, 2) := by decide +kernel
theorem dL_law_66 : decode cL_law 66 = .ok (.iload_n 2, 1) := by decide +kernel
theorem dL_law_67 : decode cL_law 67 = .ok (.invokestatic 75, 3) := by decide +kernel
theorem dL_law_70 : decode cL_law 70 = .ok (.istore 9, 2) := by decide +kernel
theorem dL_law_72 : decode cL_law 72 = .ok (.iconst 1, 1) := by decide +kernel
theorem dL_law_73 : decode cL_law 73 = .ok (.istore 10, 2) := by decide +kernel
theorem dL_law_75 : decode cL_law 75 = .ok (.iload_n 2, 1) := by decide +kernel
theorem dL_law_76 : decode cL_law 76 = .ok (.iconst 1, 1) := by decide +kernel
theorem dL_law_77 : decode cL_law 77 = .ok (.if_icmp .lt 14, 3) := by decide +kernel
theorem dL_law_80 : decode cL_law 80 = .ok (.iload 8, 2) := by decide +kernel
theorem dL_law_82 : decode cL_law 82 = .ok (.ifCond .ne 95, 3) := by decide +kernel
theorem dL_law_85 : decode cL_law 85 = .ok (.iload_n 2, 1) := by decide +kernel
theorem dL_law_86 : decode cL_law 86 = .ok (.bipush 8, 2) := by decide +kernel
theorem dL_law_88 : decode cL_law 88 = .ok (.if_icmp .ge 89, 3) := by decide +kernel
theorem dL_law_91 : decode cL_law 91 = .ok (.iload_n 2, 1) := by decide +kernel
theorem dL_law_92 : decode cL_law 92 = .ok (.ifCond .eq 12, 3) := by decide +kernel
theorem dL_law_95 : decode cL_law 95 = .ok (.iload 7, 2) := by decide +kernel
theorem dL_law_97 : decode cL_law 97 = .ok (.iconst 3, 1) := by decide +kernel
theorem dL_law_98 : decode cL_law 98 = .ok (.invokestatic 75, 3) := by decide +kernel
theorem dL_law_101 : decode cL_law 101 = .ok (.ifCond .ne 7, 3) := by decide +kernel
theorem dL_law_104 : decode cL_law 104 = .ok (.iconst (-1), 1) := by decide +kernel
theorem dL_law_105 : decode cL_law 105 = .ok (.goto 11, 3) := by decide +kernel
theorem dL_law_108 : decode cL_law 108 = .ok (.iload 7, 2) := by decide +kernel
theorem dL_law_110 : decode cL_law 110 = .ok (.iconst 2, 1) := by decide +kernel
theorem dL_law_111 : decode cL_law 111 = .ok (.ishr, 1) := by decide +kernel
theorem dL_law_112 : decode cL_law 112 = .ok (.iload_n 2, 1) := by decide +kernel
theorem dL_law_113 : decode cL_law 113 = .ok (.invokestatic 75, 3) := by decide +kernel
theorem dL_law_116 : decode cL_law 116 = .ok (.istore 11, 2) := by decide +kernel
theorem dL_law_118 : decode cL_law 118 = .ok (.aload_n 1, 1) := by decide +kernel
theorem dL_law_119 : decode cL_law 119 = .ok (.iload 11, 2) := by decide +kernel
theorem dL_law_121 : decode cL_law 121 = .ok (.iload 7, 2) := by decide +kernel
theorem dL_law_123 : decode cL_law 123 = .ok (.bipush 6, 2) := by decide +kernel
theorem dL_law_125 : decode cL_law 125 = .ok (.ishr, 1) := by decide +kernel
theorem dL_law_126 : decode cL_law 126 = .ok (.bipush 10, 2) := by decide +kernel
theorem dL_law_128 : decode cL_law 128 = .ok (.invokestatic 75, 3) := by decide +kernel
theorem dL_law_131 : decode cL_law 131 = .ok (.bipush 60, 2) := by decide +kernel
theorem dL_law_133 : decode cL_law 133 = .ok (.iload 7, 2) := by decide +kernel
theorem dL_law_135 : decode cL_law 135 = .ok (.bipush 10, 2) := by decide +kernel
theorem dL_law_137 : decode cL_law 137 = .ok (.ishr, 1) := by decide +kernel
theorem dL_law_138 : decode cL_law 138 = .ok (.sipush 400, 3) := by decide +kernel
theorem dL_law_141 : decode cL_law 141 = .ok (.invokestatic 75, 3) := by decide +kernel
theorem dL_law_144 : decode cL_law 144 = .ok (.iadd, 1) := by decide +kernel
theorem dL_law_145 : decode cL_law 145 = .ok (.iconst 1, 1) := by decide +kernel
theorem dL_law_146 : decode cL_law 146 = .ok (.iload 7, 2) := by decide +kernel
theorem dL_law_148 : decode cL_law 148 = .ok (.bipush 19, 2) := by decide +kernel
theorem dL_law_150 : decode cL_law 150 = .ok (.ishr, 1) := by decide +kernel
theorem dL_law_151 : decode cL_law 151 = .ok (.bipush 6, 2) := by decide +kernel
theorem dL_law_153 : decode cL_law 153 = .ok (.invokestatic 75, 3) := by decide +kernel
theorem dL_law_156 : decode cL_law 156 = .ok (.iadd, 1) := by decide +kernel
theorem dL_law_157 : decode cL_law 157 = .ok (.invokevirtual 78, 3) := by decide +kernel
theorem dL_law_160 : decode cL_law 160 = .ok (.iload_n 2, 1) := by decide +kernel
theorem dL_law_161 : decode cL_law 161 = .ok (.if_icmp .ne 7, 3) := by decide +kernel
theorem dL_law_164 : decode cL_law 164 = .ok (.iconst 1, 1) := by decide +kernel
theorem dL_law_165 : decode cL_law 165 = .ok (.goto 4, 3) := by decide +kernel
theorem dL_law_168 : decode cL_law 168 = .ok (.iconst 0, 1) := by decide +kernel
theorem dL_law_169 : decode cL_law 169 = .ok (.istore 10, 2) := by decide +kernel
theorem dL_law_171 : decode cL_law 171 = .ok (.iinc 2 1, 3) := by decide +kernel
theorem dL_law_174 : decode cL_law 174 = .ok (.goto 269, 3) := by decide +kernel
theorem dL_law_177 : decode cL_law 177 = .ok (.iload 8, 2) := by decide +kernel
theorem dL_law_179 : decode cL_law 179 = .ok (.bipush 6, 2) := by decide +kernel
theorem dL_law_181 : decode cL_law 181 = .ok (.if_icmp .ge 125, 3) := by decide +kernel
theorem dL_law_184 : decode cL_law 184 = .ok (.iload_n 3, 1) := by decide +kernel
theorem dL_law_185 : decode cL_law 185 = .ok (.bipush 50, 2) := by decide +kernel
theorem dL_law_187 : decode cL_law 187 = .ok (.if_icmp .ge 119, 3) := by decide +kernel
theorem dL_law_190 : decode cL_law 190 = .ok (.iload 7, 2) := by decide +kernel
theorem dL_law_192 : decode cL_law 192 = .ok (.iconst 3, 1) := by decide +kernel
theorem dL_law_193 : decode cL_law 193 = .ok (.ishr, 1) := by decide +kernel
theorem dL_law_194 : decode cL_law 194 = .ok (.bipush 20, 2) := by decide +kernel
theorem dL_law_196 : decode cL_law 196 = .ok (.invokestatic 75, 3) := by decide +kernel
theorem dL_law_199 : decode cL_law 199 = .ok (.istore 11, 2) := by decide +kernel
theorem dL_law_201 : decode cL_law 201 = .ok (.iconst 1, 1) := by decide +kernel
theorem dL_law_202 : decode cL_law 202 = .ok (.iload 7, 2) := by decide +kernel
theorem dL_law_204 : decode cL_law 204 = .ok (.bipush 8, 2) := by decide +kernel
theorem dL_law_206 : decode cL_law 206 = .ok (.ishr, 1) := by decide +kernel
theorem dL_law_207 : decode cL_law 207 = .ok (.bipush 60, 2) := by decide +kernel
theorem dL_law_209 : decode cL_law 209 = .ok (.invokestatic 75, 3) := by decide +kernel
theorem dL_law_212 : decode cL_law 212 = .ok (.iadd, 1) := by decide +kernel
theorem dL_law_213 : decode cL_law 213 = .ok (.istore 12, 2) := by decide +kernel
theorem dL_law_215 : decode cL_law 215 = .ok (.aload_n 1, 1) := by decide +kernel
theorem dL_law_216 : decode cL_law 216 = .ok (.iload 9, 2) := by decide +kernel
theorem dL_law_218 : decode cL_law 218 = .ok (.invokevirtual 61, 3) := by decide +kernel
theorem dL_law_221 : decode cL_law 221 = .ok (.ifCond .le 18, 3) := by decide +kernel
theorem dL_law_224 : decode cL_law 224 = .ok (.aload_n 1, 1) := by decide +kernel
theorem dL_law_225 : decode cL_law 225 = .ok (.iload 9, 2) := by decide +kernel
theorem dL_law_227 : decode cL_law 227 = .ok (.iload 4, 2) := by decide +kernel
theorem dL_law_229 : decode cL_law 229 = .ok (.invokevirtual 21, 3) := by decide +kernel
theorem dL_law_232 : decode cL_law 232 = .ok (.ifCond .eq 7, 3) := by decide +kernel
theorem dL_law_235 : decode cL_law 235 = .ok (.iconst 1, 1) := by decide +kernel
theorem dL_law_236 : decode cL_law 236 = .ok (.goto 4, 3) := by decide +kernel
theorem dL_law_239 : decode cL_law 239 = .ok (.iconst 0, 1) := by decide +kernel
theorem dL_law_240 : decode cL_law 240 = .ok (.istore 13, 2) := by decide +kernel
theorem dL_law_242 : decode cL_law 242 = .ok (.iload 13, 2) := by decide +kernel
theorem dL_law_244 : decode cL_law 244 = .ok (.ifCond .eq 59, 3) := by decide +kernel
theorem dL_law_247 : decode cL_law 247 = .ok (.aload_n 1, 1) := by decide +kernel
theorem dL_law_248 : decode cL_law 248 = .ok (.iload 9, 2) := by decide +kernel
theorem dL_law_250 : decode cL_law 250 = .ok (.iload 11, 2) := by decide +kernel
theorem dL_law_252 : decode cL_law 252 = .ok (.iload 12, 2) := by decide +kernel
theorem dL_law_254 : decode cL_law 254 = .ok (.invokevirtual 82, 3) := by decide +kernel
theorem dL_law_257 : decode cL_law 257 = .ok (.iload_n 3, 1) := by decide +kernel
theorem dL_law_258 : decode cL_law 258 = .ok (.if_icmp .ne 39, 3) := by decide +kernel
theorem dL_law_261 : decode cL_law 261 = .ok (.aload_n 1, 1) := by decide +kernel
theorem dL_law_262 : decode cL_law 262 = .ok (.iload_n 3, 1) := by decide +kernel
theorem dL_law_263 : decode cL_law 263 = .ok (.invokevirtual 52, 3) := by decide +kernel
theorem dL_law_266 : decode cL_law 266 = .ok (.iload 4, 2) := by decide +kernel
theorem dL_law_268 : decode cL_law 268 = .ok (.iload 12, 2) := by decide +kernel
theorem dL_law_270 : decode cL_law 270 = .ok (.iadd, 1) := by decide +kernel
theorem dL_law_271 : decode cL_law 271 = .ok (.iconst 1, 1) := by decide +kernel
theorem dL_law_272 : decode cL_law 272 = .ok (.isub, 1) := by decide +kernel
theorem dL_law_273 : decode cL_law 273 = .ok (.if_icmp .ne 24, 3) := by decide +kernel
theorem dL_law_276 : decode cL_law 276 = .ok (.aload_n 1, 1) := by decide +kernel
theorem dL_law_277 : decode cL_law 277 = .ok (.iload_n 3, 1) := by decide +kernel
theorem dL_law_278 : decode cL_law 278 = .ok (.invokevirtual 46, 3) := by decide +kernel
theorem dL_law_281 : decode cL_law 281 = .ok (.iload 4, 2) := by decide +kernel
theorem dL_law_283 : decode cL_law 283 = .ok (.iconst 2, 1) := by decide +kernel
theorem dL_law_284 : decode cL_law 284 = .ok (.iload 12, 2) := by decide +kernel
theorem dL_law_286 : decode cL_law 286 = .ok (.imul, 1) := by decide +kernel
theorem dL_law_287 : decode cL_law 287 = .ok (.iconst 3, 1) := by decide +kernel
theorem dL_law_288 : decode cL_law 288 = .ok (.idiv, 1) := by decide +kernel
theorem dL_law_289 : decode cL_law 289 = .ok (.iadd, 1) := by decide +kernel
theorem dL_law_290 : decode cL_law 290 = .ok (.if_icmp .lt 7, 3) := by decide +kernel
theorem dL_law_293 : decode cL_law 293 = .ok (.iconst 1, 1) := by decide +kernel
theorem dL_law_294 : decode cL_law 294 = .ok (.goto 4, 3) := by decide +kernel
theorem dL_law_297 : decode cL_law 297 = .ok (.iconst 0, 1) := by decide +kernel
theorem dL_law_298 : decode cL_law 298 = .ok (.istore 10, 2) := by decide +kernel
theorem dL_law_300 : decode cL_law 300 = .ok (.iinc 3 1, 3) := by decide +kernel
theorem dL_law_303 : decode cL_law 303 = .ok (.goto 140, 3) := by decide +kernel
theorem dL_law_306 : decode cL_law 306 = .ok (.iload 8, 2) := by decide +kernel
theorem dL_law_308 : decode cL_law 308 = .ok (.bipush 6, 2) := by decide +kernel
theorem dL_law_310 : decode cL_law 310 = .ok (.if_icmp .ne 57, 3) := by decide +kernel
theorem dL_law_313 : decode cL_law 313 = .ok (.iload 7, 2) := by decide +kernel
theorem dL_law_315 : decode cL_law 315 = .ok (.iconst 3, 1) := by decide +kernel
theorem dL_law_316 : decode cL_law 316 = .ok (.ishr, 1) := by decide +kernel
theorem dL_law_317 : decode cL_law 317 = .ok (.iconst 3, 1) := by decide +kernel
theorem dL_law_318 : decode cL_law 318 = .ok (.invokestatic 75, 3) := by decide +kernel
theorem dL_law_321 : decode cL_law 321 = .ok (.ifCond .ne 7, 3) := by decide +kernel
theorem dL_law_324 : decode cL_law 324 = .ok (.iconst (-1), 1) := by decide +kernel
theorem dL_law_325 : decode cL_law 325 = .ok (.goto 18, 3) := by decide +kernel
theorem dL_law_328 : decode cL_law 328 = .ok (.iload 4, 2) := by decide +kernel
theorem dL_law_330 : decode cL_law 330 = .ok (.iload 7, 2) := by decide +kernel
theorem dL_law_332 : decode cL_law 332 = .ok (.iconst 5, 1) := by decide +kernel
theorem dL_law_333 : decode cL_law 333 = .ok (.ishr, 1) := by decide +kernel
theorem dL_law_334 : decode cL_law 334 = .ok (.bipush 60, 2) := by decide +kernel
theorem dL_law_336 : decode cL_law 336 = .ok (.invokestatic 75, 3) := by decide +kernel
theorem dL_law_339 : decode cL_law 339 = .ok (.iadd, 1) := by decide +kernel
theorem dL_law_340 : decode cL_law 340 = .ok (.bipush 10, 2) := by decide +kernel
theorem dL_law_342 : decode cL_law 342 = .ok (.isub, 1) := by decide +kernel
theorem dL_law_343 : decode cL_law 343 = .ok (.istore 11, 2) := by decide +kernel
theorem dL_law_345 : decode cL_law 345 = .ok (.aload_n 1, 1) := by decide +kernel
theorem dL_law_346 : decode cL_law 346 = .ok (.iload 9, 2) := by decide +kernel
theorem dL_law_348 : decode cL_law 348 = .ok (.iload 11, 2) := by decide +kernel
theorem dL_law_350 : decode cL_law 350 = .ok (.iconst (-1), 1) := by decide +kernel
theorem dL_law_351 : decode cL_law 351 = .ok (.if_icmp .ge 7, 3) := by decide +kernel
theorem dL_law_354 : decode cL_law 354 = .ok (.iconst (-1), 1) := by decide +kernel
theorem dL_law_355 : decode cL_law 355 = .ok (.goto 5, 3) := by decide +kernel
theorem dL_law_358 : decode cL_law 358 = .ok (.iload 11, 2) := by decide +kernel
theorem dL_law_360 : decode cL_law 360 = .ok (.invokevirtual 86, 3) := by decide +kernel
theorem dL_law_363 : decode cL_law 363 = .ok (.pop, 1) := by decide +kernel
theorem dL_law_364 : decode cL_law 364 = .ok (.goto 79, 3) := by decide +kernel
theorem dL_law_367 : decode cL_law 367 = .ok (.iload 8, 2) := by decide +kernel
theorem dL_law_369 : decode cL_law 369 = .ok (.bipush 7, 2) := by decide +kernel
theorem dL_law_371 : decode cL_law 371 = .ok (.if_icmp .ne 12, 3) := by decide +kernel
theorem dL_law_374 : decode cL_law 374 = .ok (.aload_n 1, 1) := by decide +kernel
theorem dL_law_375 : decode cL_law 375 = .ok (.iload 7, 2) := by decide +kernel
theorem dL_law_377 : decode cL_law 377 = .ok (.invokevirtual 89, 3) := by decide +kernel
theorem dL_law_380 : decode cL_law 380 = .ok (.goto 63, 3) := by decide +kernel
theorem dL_law_383 : decode cL_law 383 = .ok (.iconst 1, 1) := by decide +kernel
theorem dL_law_384 : decode cL_law 384 = .ok (.iload 7, 2) := by decide +kernel
theorem dL_law_386 : decode cL_law 386 = .ok (.bipush 12, 2) := by decide +kernel
theorem dL_law_388 : decode cL_law 388 = .ok (.invokestatic 75, 3) := by decide +kernel
theorem dL_law_391 : decode cL_law 391 = .ok (.iadd, 1) := by decide +kernel
theorem dL_law_392 : decode cL_law 392 = .ok (.istore 11, 2) := by decide +kernel
theorem dL_law_394 : decode cL_law 394 = .ok (.aload_n 1, 1) := by decide +kernel
theorem dL_law_395 : decode cL_law 395 = .ok (.iload 11, 2) := by decide +kernel
theorem dL_law_397 : decode cL_law 397 = .ok (.invokevirtual 93, 3) := by decide +kernel
theorem dL_law_400 : decode cL_law 400 = .ok (.istore 12, 2) := by decide +kernel
theorem dL_law_402 : decode cL_law 402 = .ok (.iload 4, 2) := by decide +kernel
theorem dL_law_404 : decode cL_law 404 = .ok (.iload 11, 2) := by decide +kernel
theorem dL_law_406 : decode cL_law 406 = .ok (.iadd, 1) := by decide +kernel
theorem dL_law_407 : decode cL_law 407 = .ok (.istore 4, 2) := by decide +kernel
theorem dL_law_409 : decode cL_law 409 = .ok (.iload_n 3, 1) := by decide +kernel
theorem dL_law_410 : decode cL_law 410 = .ok (.iload 12, 2) := by decide +kernel
theorem dL_law_412 : decode cL_law 412 = .ok (.iadd, 1) := by decide +kernel
theorem dL_law_413 : decode cL_law 413 = .ok (.istore_n 3, 1) := by decide +kernel
theorem dL_law_414 : decode cL_law 414 = .ok (.iload 12, 2) := by decide +kernel
theorem dL_law_416 : decode cL_law 416 = .ok (.ifCond .lt 24, 3) := by decide +kernel
theorem dL_law_419 : decode cL_law 419 = .ok (.aload_n 1, 1) := by decide +kernel
theorem dL_law_420 : decode cL_law 420 = .ok (.invokevirtual 55, 3) := by decide +kernel
theorem dL_law_423 : decode cL_law 423 = .ok (.iload_n 3, 1) := by decide +kernel
theorem dL_law_424 : decode cL_law 424 = .ok (.if_icmp .ne 16, 3) := by decide +kernel
theorem dL_law_427 : decode cL_law 427 = .ok (.aload_n 1, 1) := by decide +kernel
theorem dL_law_428 : decode cL_law 428 = .ok (.invokevirtual 49, 3) := by decide +kernel
theorem dL_law_431 : decode cL_law 431 = .ok (.iload 4, 2) := by decide +kernel
theorem dL_law_433 : decode cL_law 433 = .ok (.if_icmp .ne 7, 3) := by decide +kernel
theorem dL_law_436 : decode cL_law 436 = .ok (.iconst 1, 1) := by decide +kernel
theorem dL_law_437 : decode cL_law 437 = .ok (.goto 4, 3) := by decide +kernel
theorem dL_law_440 : decode cL_law 440 = .ok (.iconst 0, 1) := by decide +kernel
theorem dL_law_441 : decode cL_law 441 = .ok (.istore 10, 2) := by decide +kernel
theorem dL_law_443 : decode cL_law 443 = .ok (.iload 10, 2) := by decide +kernel
theorem dL_law_445 : decode cL_law 445 = .ok (.ifCond .eq 40, 3) := by decide +kernel
theorem dL_law_448 : decode cL_law 448 = .ok (.aload_n 1, 1) := by decide +kernel
theorem dL_law_449 : decode cL_law 449 = .ok (.iload_n 2, 1) := by decide +kernel
theorem dL_law_450 : decode cL_law 450 = .ok (.invokestatic 96, 3) := by decide +kernel
theorem dL_law_453 : decode cL_law 453 = .ok (.ifCond .eq 32, 3) := by decide +kernel
theorem dL_law_456 : decode cL_law 456 = .ok (.iload 5, 2) := by decide +kernel
theorem dL_law_458 : decode cL_law 458 = .ok (.iconst 3, 1) := by decide +kernel
theorem dL_law_459 : decode cL_law 459 = .ok (.irem, 1) := by decide +kernel
theorem dL_law_460 : decode cL_law 460 = .ok (.iconst 2, 1) := by decide +kernel
theorem dL_law_461 : decode cL_law 461 = .ok (.if_icmp .ne 26, 3) := by decide +kernel
theorem dL_law_464 : decode cL_law 464 = .ok (.aload_n 1, 1) := by decide +kernel
theorem dL_law_465 : decode cL_law 465 = .ok (.iload 4, 2) := by decide +kernel
theorem dL_law_467 : decode cL_law 467 = .ok (.iload 7, 2) := by decide +kernel
theorem dL_law_469 : decode cL_law 469 = .ok (.bipush 7, 2) := by decide +kernel
theorem dL_law_471 : decode cL_law 471 = .ok (.ishr, 1) := by decide +kernel
theorem dL_law_472 : decode cL_law 472 = .ok (.bipush 40, 2) := by decide +kernel
theorem dL_law_474 : decode cL_law 474 = .ok (.invokestatic 75, 3) := by decide +kernel
theorem dL_law_477 : decode cL_law 477 = .ok (.iadd, 1) := by decide +kernel
theorem dL_law_478 : decode cL_law 478 = .ok (.iload_n 2, 1) := by decide +kernel
theorem dL_law_479 : decode cL_law 479 = .ok (.invokestatic 100, 3) := by decide +kernel
theorem dL_law_482 : decode cL_law 482 = .ok (.ifCond .ne 5, 3) := by decide +kernel
theorem dL_law_485 : decode cL_law 485 = .ok (.iconst 0, 1) := by decide +kernel
theorem dL_law_486 : decode cL_law 486 = .ok (.ireturn, 1) := by decide +kernel
theorem dL_law_487 : decode cL_law 487 = .ok (.iinc 5 1, 3) := by decide +kernel
theorem dL_law_490 : decode cL_law 490 = .ok (.goto (-472), 3) := by decide +kernel
theorem dL_law_493 : decode cL_law 493 = .ok (.iconst 1, 1) := by decide +kernel
theorem dL_law_494 : decode cL_law 494 = .ok (.ireturn, 1) := by decide +kernel
