theorem dX3_init_0 : decode cX3_init 0 = .ok (.aload_n 0, 1) := by decide +kernel
theorem dX3_init_1 : decode cX3_init 1 = .ok (.invokespecial 1, 3) := by decide +kernel
theorem dX3_init_4 : decode cX3_init 4 = .ok (.aload_n 0, 1) := by decide +kernel
theorem dX3_init_5 : decode cX3_init 5 = .ok (.iconst 1, 1) := by decide +kernel
theorem dX3_init_6 : decode cX3_init 6 = .ok (.putfield 7, 3) := by decide +kernel
theorem dX3_init_9 : decode cX3_init 9 = .ok (.aload_n 0, 1) := by decide +kernel
theorem dX3_init_10 : decode cX3_init 10 = .ok (.bipush 8, 2) := by decide +kernel
theorem dX3_init_12 : decode cX3_init 12 = .ok (.newarray .int, 2) := by decide +kernel
theorem dX3_init_14 : decode cX3_init 14 = .ok (.putfield 13, 3) := by decide +kernel
theorem dX3_init_17 : decode cX3_init 17 = .ok (.aload_n 0, 1) := by decide +kernel
theorem dX3_init_18 : decode cX3_init 18 = .ok (.bipush 8, 2) := by decide +kernel
theorem dX3_init_20 : decode cX3_init 20 = .ok (.newarray .int, 2) := by decide +kernel
theorem dX3_init_22 : decode cX3_init 22 = .ok (.putfield 17, 3) := by decide +kernel
theorem dX3_init_25 : decode cX3_init 25 = .ok (.aload_n 0, 1) := by decide +kernel
theorem dX3_init_26 : decode cX3_init 26 = .ok (.bipush 8, 2) := by decide +kernel
theorem dX3_init_28 : decode cX3_init 28 = .ok (.newarray .int, 2) := by decide +kernel
theorem dX3_init_30 : decode cX3_init 30 = .ok (.putfield 20, 3) := by decide +kernel
theorem dX3_init_33 : decode cX3_init 33 = .ok (.aload_n 0, 1) := by decide +kernel
theorem dX3_init_34 : decode cX3_init 34 = .ok (.bipush 8, 2) := by decide +kernel
theorem dX3_init_36 : decode cX3_init 36 = .ok (.newarray .int, 2) := by decide +kernel
theorem dX3_init_38 : decode cX3_init 38 = .ok (.putfield 23, 3) := by decide +kernel
theorem dX3_init_41 : decode cX3_init 41 = .ok (.aload_n 0, 1) := by decide +kernel
theorem dX3_init_42 : decode cX3_init 42 = .ok (.bipush 8, 2) := by decide +kernel
theorem dX3_init_44 : decode cX3_init 44 = .ok (.newarray .int, 2) := by decide +kernel
theorem dX3_init_46 : decode cX3_init 46 = .ok (.putfield 26, 3) := by decide +kernel
theorem dX3_init_49 : decode cX3_init 49 = .ok (.aload_n 0, 1) := by decide +kernel
theorem dX3_init_50 : decode cX3_init 50 = .ok (.bipush 8, 2) := by decide +kernel
theorem dX3_init_52 : decode cX3_init 52 = .ok (.newarray .int, 2) := by decide +kernel
theorem dX3_init_54 : decode cX3_init 54 = .ok (.putfield 29, 3) := by decide +kernel
theorem dX3_init_57 : decode cX3_init 57 = .ok (.aload_n 0, 1) := by decide +kernel
theorem dX3_init_58 : decode cX3_init 58 = .ok (.bipush 16, 2) := by decide +kernel
theorem dX3_init_60 : decode cX3_init 60 = .ok (.newarray .int, 2) := by decide +kernel
theorem dX3_init_62 : decode cX3_init 62 = .ok (.putfield 32, 3) := by decide +kernel
theorem dX3_init_65 : decode cX3_init 65 = .ok (.aload_n 0, 1) := by decide +kernel
theorem dX3_init_66 : decode cX3_init 66 = .ok (.bipush 8, 2) := by decide +kernel
theorem dX3_init_68 : decode cX3_init 68 = .ok (.newarray .boolean, 2) := by decide +kernel
theorem dX3_init_70 : decode cX3_init 70 = .ok (.putfield 35, 3) := by decide +kernel
theorem dX3_init_73 : decode cX3_init 73 = .ok (.aload_n 0, 1) := by decide +kernel
theorem dX3_init_74 : decode cX3_init 74 = .ok (.bipush 8, 2) := by decide +kernel
theorem dX3_init_76 : decode cX3_init 76 = .ok (.newarray .int, 2) := by decide +kernel
theorem dX3_init_78 : decode cX3_init 78 = .ok (.putfield 39, 3) := by decide +kernel
theorem dX3_init_81 : decode cX3_init 81 = .ok (.aload_n 0, 1) := by decide +kernel
theorem dX3_init_82 : decode cX3_init 82 = .ok (.bipush 8, 2) := by decide +kernel
theorem dX3_init_84 : decode cX3_init 84 = .ok (.newarray .int, 2) := by decide +kernel
theorem dX3_init_86 : decode cX3_init 86 = .ok (.putfield 42, 3) := by decide +kernel
theorem dX3_init_89 : decode cX3_init 89 = .ok (.aload_n 0, 1) := by decide +kernel
theorem dX3_init_90 : decode cX3_init 90 = .ok (.bipush 60, 2) := by decide +kernel
theorem dX3_init_92 : decode cX3_init 92 = .ok (.newarray .int, 2) := by decide +kernel
theorem dX3_init_94 : decode cX3_init 94 = .ok (.putfield 45, 3) := by decide +kernel
theorem dX3_init_97 : decode cX3_init 97 = .ok (.aload_n 0, 1) := by decide +kernel
theorem dX3_init_98 : decode cX3_init 98 = .ok (.bipush 60, 2) := by decide +kernel
theorem dX3_init_100 : decode cX3_init 100 = .ok (.newarray .int, 2) := by decide +kernel
theorem dX3_init_102 : decode cX3_init 102 = .ok (.putfield 48, 3) := by decide +kernel
theorem dX3_init_105 : decode cX3_init 105 = .ok (.aload_n 0, 1) := by decide +kernel
theorem dX3_init_106 : decode cX3_init 106 = .ok (.bipush 60, 2) := by decide +kernel
theorem dX3_init_108 : decode cX3_init 108 = .ok (.newarray .int, 2) := by decide +kernel
theorem dX3_init_110 : decode cX3_init 110 = .ok (.putfield 51, 3) := by decide +kernel
theorem dX3_init_113 : decode cX3_init 113 = .ok (.aload_n 0, 1) := by decide +kernel
theorem dX3_init_114 : decode cX3_init 114 = .ok (.bipush 60, 2) := by decide +kernel
theorem dX3_init_116 : decode cX3_init 116 = .ok (.newarray .int, 2) := by decide +kernel
theorem dX3_init_118 : decode cX3_init 118 = .ok (.putfield 54, 3) := by decide +kernel
theorem dX3_init_121 : decode cX3_init 121 = .ok (.aload_n 0, 1) := by decide +kernel
theorem dX3_init_122 : decode cX3_init 122 = .ok (.bipush 60, 2) := by decide +kernel
theorem dX3_init_124 : decode cX3_init 124 = .ok (.newarray .int, 2) := by decide +kernel
theorem dX3_init_126 : decode cX3_init 126 = .ok (.putfield 57, 3) := by decide +kernel
theorem dX3_init_129 : decode cX3_init 129 = .ok (.aload_n 0, 1) := by decide +kernel
theorem dX3_init_130 : decode cX3_init 130 = .ok (.bipush 60, 2) := by decide +kernel
theorem dX3_init_132 : decode cX3_init 132 = .ok (.newarray .int, 2) := by decide +kernel
theorem dX3_init_134 : decode cX3_init 134 = .ok (.putfield 60, 3) := by decide +kernel
theorem dX3_init_137 : decode cX3_init 137 = .ok (.aload_n 0, 1) := by decide +kernel
theorem dX3_init_138 : decode cX3_init 138 = .ok (.bipush 60, 2) := by decide +kernel
theorem dX3_init_140 : decode cX3_init 140 = .ok (.newarray .boolean, 2) := by decide +kernel
theorem dX3_init_142 : decode cX3_init 142 = .ok (.putfield 63, 3) := by decide +kernel
theorem dX3_init_145 : decode cX3_init 145 = .ok (.aload_n 0, 1) := by decide +kernel
theorem dX3_init_146 : decode cX3_init 146 = .ok (.iconst 0, 1) := by decide +kernel
theorem dX3_init_147 : decode cX3_init 147 = .ok (.putfield 66, 3) := by decide +kernel
theorem dX3_init_150 : decode cX3_init 150 = .ok (.return_, 1) := by decide +kernel
theorem dX3_thrown_0 : decode cX3_thrown 0 = .ok (.aload_n 0, 1) := by decide +kernel
theorem dX3_thrown_1 : decode cX3_thrown 1 = .ok (.getfield 66, 3) := by decide +kernel
theorem dX3_thrown_4 : decode cX3_thrown 4 = .ok (.ireturn, 1) := by decide +kernel
theorem dX3_fails_0 : decode cX3_fails 0 = .ok (.aload_n 0, 1) := by decide +kernel
theorem dX3_fails_1 : decode cX3_fails 1 = .ok (.iload_n 1, 1) := by decide +kernel
theorem dX3_fails_2 : decode cX3_fails 2 = .ok (.putfield 66, 3) := by decide +kernel
theorem dX3_fails_5 : decode cX3_fails 5 = .ok (.iconst 0, 1) := by decide +kernel
theorem dX3_fails_6 : decode cX3_fails 6 = .ok (.ireturn, 1) := by decide +kernel
theorem dX3_in_0 : decode cX3_in 0 = .ok (.iload_n 0, 1) := by decide +kernel
theorem dX3_in_1 : decode cX3_in 1 = .ok (.iload_n 1, 1) := by decide +kernel
theorem dX3_in_2 : decode cX3_in 2 = .ok (.if_icmp .lt 12, 3) := by decide +kernel
theorem dX3_in_5 : decode cX3_in 5 = .ok (.iload_n 0, 1) := by decide +kernel
theorem dX3_in_6 : decode cX3_in 6 = .ok (.iload_n 2, 1) := by decide +kernel
theorem dX3_in_7 : decode cX3_in 7 = .ok (.if_icmp .gt 7, 3) := by decide +kernel
theorem dX3_in_10 : decode cX3_in 10 = .ok (.iconst 1, 1) := by decide +kernel
theorem dX3_in_11 : decode cX3_in 11 = .ok (.goto 4, 3) := by decide +kernel
theorem dX3_in_14 : decode cX3_in 14 = .ok (.iconst 0, 1) := by decide +kernel
theorem dX3_in_15 : decode cX3_in 15 = .ok (.ireturn, 1) := by decide +kernel
set_option maxRecDepth 20000 in
theorem ggX3_isIssuer_X3_in : GoodIn wsX3_isIssuer wsX3_in := goodIn_r _ [5] (by decide +kernel) (by decide +kernel)
set_option maxRecDepth 20000 in
theorem gX3_isIssuer_X3_in : GoodIn wsX3_isIssuer (va_wsS RX3 72 yX3_in wsX3_in) := goodIn_app (goodIn_of _ (by decide +kernel)) ggX3_isIssuer_X3_in
theorem dX3_isIssuer_0 : decode cX3_isIssuer 0 = .ok (.iload_n 1, 1) := by decide +kernel
theorem dX3_isIssuer_1 : decode cX3_isIssuer 1 = .ok (.iconst 0, 1) := by decide +kernel
theorem dX3_isIssuer_2 : decode cX3_isIssuer 2 = .ok (.aload_n 0, 1) := by decide +kernel
theorem dX3_isIssuer_3 : decode cX3_isIssuer 3 = .ok (.getfield 69, 3) := by decide +kernel
theorem dX3_isIssuer_6 : decode cX3_isIssuer 6 = .ok (.iconst 1, 1) := by decide +kernel
theorem dX3_isIssuer_7 : decode cX3_isIssuer 7 = .ok (.isub, 1) := by decide +kernel
theorem dX3_isIssuer_8 : decode cX3_isIssuer 8 = .ok (.invokestatic 72, 3) := by decide +kernel
theorem dX3_isIssuer_11 : decode cX3_isIssuer 11 = .ok (.ireturn, 1) := by decide +kernel
set_option maxRecDepth 20000 in
theorem ggX3_isCert_X3_in : GoodIn wsX3_isCert wsX3_in := goodIn_r _ [5] (by decide +kernel) (by decide +kernel)
set_option maxRecDepth 20000 in
theorem gX3_isCert_X3_in : GoodIn wsX3_isCert (va_wsS RX3 72 yX3_in wsX3_in) := goodIn_app (goodIn_of _ (by decide +kernel)) ggX3_isCert_X3_in
theorem dX3_isCert_0 : decode cX3_isCert 0 = .ok (.iload_n 1, 1) := by decide +kernel
theorem dX3_isCert_1 : decode cX3_isCert 1 = .ok (.iconst 0, 1) := by decide +kernel
theorem dX3_isCert_2 : decode cX3_isCert 2 = .ok (.aload_n 0, 1) := by decide +kernel
theorem dX3_isCert_3 : decode cX3_isCert 3 = .ok (.getfield 76, 3) := by decide +kernel
theorem dX3_isCert_6 : decode cX3_isCert 6 = .ok (.iconst 1, 1) := by decide +kernel
theorem dX3_isCert_7 : decode cX3_isCert 7 = .ok (.isub, 1) := by decide +kernel
theorem dX3_isCert_8 : decode cX3_isCert 8 = .ok (.invokestatic 72, 3) := by decide +kernel
theorem dX3_isCert_11 : decode cX3_isCert 11 = .ok (.ireturn, 1) := by decide +kernel
set_option maxRecDepth 20000 in
theorem ggX3_isName_X3_in : GoodIn wsX3_isName wsX3_in := goodIn_r _ [4] (by decide +kernel) (by decide +kernel)
set_option maxRecDepth 20000 in
theorem gX3_isName_X3_in : GoodIn wsX3_isName (va_wsS RX3 72 yX3_in wsX3_in) := goodIn_app (goodIn_of _ (by decide +kernel)) ggX3_isName_X3_in
theorem dX3_isName_0 : decode cX3_isName 0 = .ok (.iload_n 0, 1) := by decide +kernel
theorem dX3_isName_1 : decode cX3_isName 1 = .ok (.iconst 0, 1) := by decide +kernel
theorem dX3_isName_2 : decode cX3_isName 2 = .ok (.bipush 15, 2) := by decide +kernel
theorem dX3_isName_4 : decode cX3_isName 4 = .ok (.invokestatic 72, 3) := by decide +kernel
theorem dX3_isName_7 : decode cX3_isName 7 = .ok (.ireturn, 1) := by decide +kernel
set_option maxRecDepth 20000 in
theorem ggX3_isDay_X3_in : GoodIn wsX3_isDay wsX3_in := goodIn_r _ [4] (by decide +kernel) (by decide +kernel)
set_option maxRecDepth 20000 in
theorem gX3_isDay_X3_in : GoodIn wsX3_isDay (va_wsS RX3 72 yX3_in wsX3_in) := goodIn_app (goodIn_of _ (by decide +kernel)) ggX3_isDay_X3_in
theorem dX3_isDay_0 : decode cX3_isDay 0 = .ok (.iload_n 0, 1) := by decide +kernel
theorem dX3_isDay_1 : decode cX3_isDay 1 = .ok (.iconst 0, 1) := by decide +kernel
theorem dX3_isDay_2 : decode cX3_isDay 2 = .ok (.sipush 5000, 3) := by decide +kernel
theorem dX3_isDay_5 : decode cX3_isDay 5 = .ok (.invokestatic 72, 3) := by decide +kernel
theorem dX3_isDay_8 : decode cX3_isDay 8 = .ok (.ireturn, 1) := by decide +kernel
set_option maxRecDepth 20000 in
theorem ggX3_addIssuer_X3_in : GoodIn wsX3_addIssuer wsX3_in := goodIn_r _ [12] (by decide +kernel) (by decide +kernel)
set_option maxRecDepth 20000 in
theorem gX3_addIssuer_X3_in : GoodIn wsX3_addIssuer (va_wsS RX3 72 yX3_in wsX3_in) := goodIn_app (goodIn_of _ (by decide +kernel)) ggX3_addIssuer_X3_in
set_option maxRecDepth 20000 in
theorem ggX3_addIssuer_X3_isIssuer : GoodIn wsX3_addIssuer wsX3_isIssuer := goodIn_r _ [16, 1, 9, 10, 11, 12, 17, 18, 19, 20, 21, 22, 23, 24, 25, 26, 27, 28, 29, 30, 31, 32, 33, 34, 35, 36, 37, 38] (by decide +kernel) (by decide +kernel)
set_option maxRecDepth 20000 in
theorem gX3_addIssuer_X3_isIssuer : GoodIn wsX3_addIssuer (wsV RX3 79 RX3 yX3_isIssuer wsX3_isIssuer) := goodIn_app (goodIn_of _ (by decide +kernel)) ggX3_addIssuer_X3_isIssuer
theorem dX3_addIssuer_0 : decode cX3_addIssuer 0 = .ok (.iload_n 2, 1) := by decide +kernel
theorem dX3_addIssuer_1 : decode cX3_addIssuer 1 = .ok (.iconst 0, 1) := by decide +kernel
theorem dX3_addIssuer_2 : decode cX3_addIssuer 2 = .ok (.sipush 5000, 3) := by decide +kernel
theorem dX3_addIssuer_5 : decode cX3_addIssuer 5 = .ok (.invokestatic 72, 3) := by decide +kernel
theorem dX3_addIssuer_8 : decode cX3_addIssuer 8 = .ok (.ifCond .eq 29, 3) := by decide +kernel
theorem dX3_addIssuer_11 : decode cX3_addIssuer 11 = .ok (.iload_n 3, 1) := by decide +kernel
theorem dX3_addIssuer_12 : decode cX3_addIssuer 12 = .ok (.iload_n 2, 1) := by decide +kernel
theorem dX3_addIssuer_13 : decode cX3_addIssuer 13 = .ok (.sipush 5000, 3) := by decide +kernel
theorem dX3_addIssuer_16 : decode cX3_addIssuer 16 = .ok (.invokestatic 72, 3) := by decide +kernel
theorem dX3_addIssuer_19 : decode cX3_addIssuer 19 = .ok (.ifCond .eq 18, 3) := by decide +kernel
theorem dX3_addIssuer_22 : decode cX3_addIssuer 22 = .ok (.iload 4, 2) := by decide +kernel
theorem dX3_addIssuer_24 : decode cX3_addIssuer 24 = .ok (.iconst 0, 1) := by decide +kernel
theorem dX3_addIssuer_25 : decode cX3_addIssuer 25 = .ok (.bipush 50, 2) := by decide +kernel
theorem dX3_addIssuer_27 : decode cX3_addIssuer 27 = .ok (.invokestatic 72, 3) := by decide +kernel
theorem dX3_addIssuer_30 : decode cX3_addIssuer 30 = .ok (.ifCond .eq 7, 3) := by decide +kernel
theorem dX3_addIssuer_33 : decode cX3_addIssuer 33 = .ok (.iconst 1, 1) := by decide +kernel
theorem dX3_addIssuer_34 : decode cX3_addIssuer 34 = .ok (.goto 4, 3) := by decide +kernel
theorem dX3_addIssuer_37 : decode cX3_addIssuer 37 = .ok (.iconst 0, 1) := by decide +kernel
theorem dX3_addIssuer_38 : decode cX3_addIssuer 38 = .ok (.istore 5, 2) := by decide +kernel
theorem dX3_addIssuer_40 : decode cX3_addIssuer 40 = .ok (.aload_n 0, 1) := by decide +kernel
theorem dX3_addIssuer_41 : decode cX3_addIssuer 41 = .ok (.iload_n 1, 1) := by decide +kernel
theorem dX3_addIssuer_42 : decode cX3_addIssuer 42 = .ok (.iconst (-1), 1) := by decide +kernel
theorem dX3_addIssuer_43 : decode cX3_addIssuer 43 = .ok (.if_icmp .eq 15, 3) := by decide +kernel
theorem dX3_addIssuer_46 : decode cX3_addIssuer 46 = .ok (.aload_n 0, 1) := by decide +kernel
theorem dX3_addIssuer_47 : decode cX3_addIssuer 47 = .ok (.iload_n 1, 1) := by decide +kernel
theorem dX3_addIssuer_48 : decode cX3_addIssuer 48 = .ok (.invokevirtual 79, 3) := by decide +kernel
theorem dX3_addIssuer_51 : decode cX3_addIssuer 51 = .ok (.ifCond .ne 7, 3) := by decide +kernel
theorem dX3_addIssuer_54 : decode cX3_addIssuer 54 = .ok (.iconst 1, 1) := by decide +kernel
theorem dX3_addIssuer_55 : decode cX3_addIssuer 55 = .ok (.goto 26, 3) := by decide +kernel
theorem dX3_addIssuer_58 : decode cX3_addIssuer 58 = .ok (.iload 5, 2) := by decide +kernel
theorem dX3_addIssuer_60 : decode cX3_addIssuer 60 = .ok (.ifCond .ne 7, 3) := by decide +kernel
theorem dX3_addIssuer_63 : decode cX3_addIssuer 63 = .ok (.iconst 2, 1) := by decide +kernel
theorem dX3_addIssuer_64 : decode cX3_addIssuer 64 = .ok (.goto 17, 3) := by decide +kernel
theorem dX3_addIssuer_67 : decode cX3_addIssuer 67 = .ok (.aload_n 0, 1) := by decide +kernel
theorem dX3_addIssuer_68 : decode cX3_addIssuer 68 = .ok (.getfield 69, 3) := by decide +kernel
theorem dX3_addIssuer_71 : decode cX3_addIssuer 71 = .ok (.bipush 8, 2) := by decide +kernel
theorem dX3_addIssuer_73 : decode cX3_addIssuer 73 = .ok (.if_icmp .ne 7, 3) := by decide +kernel
theorem dX3_addIssuer_76 : decode cX3_addIssuer 76 = .ok (.iconst 3, 1) := by decide +kernel
theorem dX3_addIssuer_77 : decode cX3_addIssuer 77 = .ok (.goto 4, 3) := by decide +kernel
theorem dX3_addIssuer_80 : decode cX3_addIssuer 80 = .ok (.iconst 0, 1) := by decide +kernel
theorem dX3_addIssuer_81 : decode cX3_addIssuer 81 = .ok (.putfield 66, 3) := by decide +kernel
theorem dX3_addIssuer_84 : decode cX3_addIssuer 84 = .ok (.aload_n 0, 1) := by decide +kernel
theorem dX3_addIssuer_85 : decode cX3_addIssuer 85 = .ok (.getfield 66, 3) := by decide +kernel
theorem dX3_addIssuer_88 : decode cX3_addIssuer 88 = .ok (.ifCond .le 5, 3) := by decide +kernel
theorem dX3_addIssuer_91 : decode cX3_addIssuer 91 = .ok (.iconst 0, 1) := by decide +kernel
theorem dX3_addIssuer_92 : decode cX3_addIssuer 92 = .ok (.ireturn, 1) := by decide +kernel
theorem dX3_addIssuer_93 : decode cX3_addIssuer 93 = .ok (.aload_n 0, 1) := by decide +kernel
theorem dX3_addIssuer_94 : decode cX3_addIssuer 94 = .ok (.getfield 13, 3) := by decide +kernel
theorem dX3_addIssuer_97 : decode cX3_addIssuer 97 = .ok (.aload_n 0, 1) := by decide +kernel
theorem dX3_addIssuer_98 : decode cX3_addIssuer 98 = .ok (.getfield 69, 3) := by decide +kernel
theorem dX3_addIssuer_101 : decode cX3_addIssuer 101 = .ok (.iload_n 2, 1) := by decide +kernel
theorem dX3_addIssuer_102 : decode cX3_addIssuer 102 = .ok (.iastore, 1) := by decide +kernel
theorem dX3_addIssuer_103 : decode cX3_addIssuer 103 = .ok (.aload_n 0, 1) := by decide +kernel
theorem dX3_addIssuer_104 : decode cX3_addIssuer 104 = .ok (.getfield 17, 3) := by decide +kernel
theorem dX3_addIssuer_107 : decode cX3_addIssuer 107 = .ok (.aload_n 0, 1) := by decide +kernel
theorem dX3_addIssuer_108 : decode cX3_addIssuer 108 = .ok (.getfield 69, 3) := by decide +kernel
theorem dX3_addIssuer_111 : decode cX3_addIssuer 111 = .ok (.iload_n 3, 1) := by decide +kernel
theorem dX3_addIssuer_112 : decode cX3_addIssuer 112 = .ok (.iastore, 1) := by decide +kernel
theorem dX3_addIssuer_113 : decode cX3_addIssuer 113 = .ok (.aload_n 0, 1) := by decide +kernel
theorem dX3_addIssuer_114 : decode cX3_addIssuer 114 = .ok (.getfield 20, 3) := by decide +kernel
theorem dX3_addIssuer_117 : decode cX3_addIssuer 117 = .ok (.aload_n 0, 1) := by decide +kernel
theorem dX3_addIssuer_118 : decode cX3_addIssuer 118 = .ok (.getfield 69, 3) := by decide +kernel
theorem dX3_addIssuer_121 : decode cX3_addIssuer 121 = .ok (.iload 4, 2) := by decide +kernel
theorem dX3_addIssuer_123 : decode cX3_addIssuer 123 = .ok (.iastore, 1) := by decide +kernel
theorem dX3_addIssuer_124 : decode cX3_addIssuer 124 = .ok (.aload_n 0, 1) := by decide +kernel
theorem dX3_addIssuer_125 : decode cX3_addIssuer 125 = .ok (.getfield 23, 3) := by decide +kernel
theorem dX3_addIssuer_128 : decode cX3_addIssuer 128 = .ok (.aload_n 0, 1) := by decide +kernel
theorem dX3_addIssuer_129 : decode cX3_addIssuer 129 = .ok (.getfield 69, 3) := by decide +kernel
theorem dX3_addIssuer_132 : decode cX3_addIssuer 132 = .ok (.iload_n 1, 1) := by decide +kernel
theorem dX3_addIssuer_133 : decode cX3_addIssuer 133 = .ok (.iastore, 1) := by decide +kernel
theorem dX3_addIssuer_134 : decode cX3_addIssuer 134 = .ok (.aload_n 0, 1) := by decide +kernel
theorem dX3_addIssuer_135 : decode cX3_addIssuer 135 = .ok (.getfield 26, 3) := by decide +kernel
theorem dX3_addIssuer_138 : decode cX3_addIssuer 138 = .ok (.aload_n 0, 1) := by decide +kernel
theorem dX3_addIssuer_139 : decode cX3_addIssuer 139 = .ok (.getfield 69, 3) := by decide +kernel
theorem dX3_addIssuer_142 : decode cX3_addIssuer 142 = .ok (.iconst (-1), 1) := by decide +kernel
theorem dX3_addIssuer_143 : decode cX3_addIssuer 143 = .ok (.iastore, 1) := by decide +kernel
theorem dX3_addIssuer_144 : decode cX3_addIssuer 144 = .ok (.aload_n 0, 1) := by decide +kernel
theorem dX3_addIssuer_145 : decode cX3_addIssuer 145 = .ok (.getfield 29, 3) := by decide +kernel
theorem dX3_addIssuer_148 : decode cX3_addIssuer 148 = .ok (.aload_n 0, 1) := by decide +kernel
theorem dX3_addIssuer_149 : decode cX3_addIssuer 149 = .ok (.getfield 69, 3) := by decide +kernel
theorem dX3_addIssuer_152 : decode cX3_addIssuer 152 = .ok (.iconst (-1), 1) := by decide +kernel
theorem dX3_addIssuer_153 : decode cX3_addIssuer 153 = .ok (.iastore, 1) := by decide +kernel
theorem dX3_addIssuer_154 : decode cX3_addIssuer 154 = .ok (.aload_n 0, 1) := by decide +kernel
theorem dX3_addIssuer_155 : decode cX3_addIssuer 155 = .ok (.dup, 1) := by decide +kernel
theorem dX3_addIssuer_156 : decode cX3_addIssuer 156 = .ok (.getfield 69, 3) := by decide +kernel
theorem dX3_addIssuer_159 : decode cX3_addIssuer 159 = .ok (.iconst 1, 1) := by decide +kernel
theorem dX3_addIssuer_160 : decode cX3_addIssuer 160 = .ok (.iadd, 1) := by decide +kernel
theorem dX3_addIssuer_161 : decode cX3_addIssuer 161 = .ok (.putfield 69, 3) := by decide +kernel
theorem dX3_addIssuer_164 : decode cX3_addIssuer 164 = .ok (.aload_n 0, 1) := by decide +kernel
theorem dX3_addIssuer_165 : decode cX3_addIssuer 165 = .ok (.getfield 69, 3) := by decide +kernel
theorem dX3_addIssuer_168 : decode cX3_addIssuer 168 = .ok (.iconst 1, 1) := by decide +kernel
theorem dX3_addIssuer_169 : decode cX3_addIssuer 169 = .ok (.isub, 1) := by decide +kernel
theorem dX3_addIssuer_170 : decode cX3_addIssuer 170 = .ok (.ireturn, 1) := by decide +kernel
set_option maxRecDepth 20000 in
theorem ggX3_cross_X3_isIssuer : GoodIn wsX3_cross wsX3_isIssuer := goodIn_r _ [8, 9, 10, 11, 7, 12, 23, 24, 25, 26, 27, 28, 29, 30, 31, 32, 33, 34, 35, 36, 37, 38, 39, 40, 41, 42, 43, 44] (by decide +kernel) (by decide +kernel)
set_option maxRecDepth 20000 in
theorem gX3_cross_X3_isIssuer : GoodIn wsX3_cross (wsV RX3 79 RX3 yX3_isIssuer wsX3_isIssuer) := goodIn_app (goodIn_of _ (by decide +kernel)) ggX3_cross_X3_isIssuer
set_option maxRecDepth 20000 in
theorem ggX3_cross_X3_fails : GoodIn wsX3_cross wsX3_fails := goodIn_r _ [16, 1, 23, 24, 25, 26, 27, 28, 29, 30, 31, 32, 33, 34, 35, 36, 37, 38, 39, 40, 41, 42, 43, 44] (by decide +kernel) (by decide +kernel)
set_option maxRecDepth 20000 in
theorem gX3_cross_X3_fails : GoodIn wsX3_cross (wsV RX3 83 RX3 yX3_fails wsX3_fails) := goodIn_app (goodIn_of _ (by decide +kernel)) ggX3_cross_X3_fails
set_option maxRecDepth 20000 in
theorem ggX3_cross_X3_ends : GoodIn wsX3_cross wsX3_ends := goodIn_r _ [20, 2, 3, 21, 22, 23, 24, 25, 26, 27, 28, 29, 30, 31, 32, 33, 34, 35, 36, 37, 38, 39, 40, 41, 42, 43, 44] (by decide +kernel) (by decide +kernel)
set_option maxRecDepth 20000 in
theorem gX3_cross_X3_ends : GoodIn wsX3_cross (wsV RX3 87 RX3 yX3_ends wsX3_ends) := goodIn_app (goodIn_of _ (by decide +kernel)) ggX3_cross_X3_ends
theorem dX3_cross_0 : decode cX3_cross 0 = .ok (.aload_n 0, 1) := by decide +kernel
theorem dX3_cross_1 : decode cX3_cross 1 = .ok (.aload_n 0, 1) := by decide +kernel
theorem dX3_cross_2 : decode cX3_cross 2 = .ok (.iload_n 1, 1) := by decide +kernel
theorem dX3_cross_3 : decode cX3_cross 3 = .ok (.invokevirtual 79, 3) := by decide +kernel
theorem dX3_cross_6 : decode cX3_cross 6 = .ok (.ifCond .eq 11, 3) := by decide +kernel
theorem dX3_cross_9 : decode cX3_cross 9 = .ok (.aload_n 0, 1) := by decide +kernel
theorem dX3_cross_10 : decode cX3_cross 10 = .ok (.iload_n 2, 1) := by decide +kernel
theorem dX3_cross_11 : decode cX3_cross 11 = .ok (.invokevirtual 79, 3) := by decide +kernel
theorem dX3_cross_14 : decode cX3_cross 14 = .ok (.ifCond .ne 7, 3) := by decide +kernel
theorem dX3_cross_17 : decode cX3_cross 17 = .ok (.iconst 1, 1) := by decide +kernel
theorem dX3_cross_18 : decode cX3_cross 18 = .ok (.goto 13, 3) := by decide +kernel
theorem dX3_cross_21 : decode cX3_cross 21 = .ok (.iload_n 2, 1) := by decide +kernel
theorem dX3_cross_22 : decode cX3_cross 22 = .ok (.iload_n 1, 1) := by decide +kernel
theorem dX3_cross_23 : decode cX3_cross 23 = .ok (.if_icmp .lt 7, 3) := by decide +kernel
theorem dX3_cross_26 : decode cX3_cross 26 = .ok (.iconst 2, 1) := by decide +kernel
theorem dX3_cross_27 : decode cX3_cross 27 = .ok (.goto 4, 3) := by decide +kernel
theorem dX3_cross_30 : decode cX3_cross 30 = .ok (.iconst 0, 1) := by decide +kernel
theorem dX3_cross_31 : decode cX3_cross 31 = .ok (.putfield 66, 3) := by decide +kernel
theorem dX3_cross_34 : decode cX3_cross 34 = .ok (.aload_n 0, 1) := by decide +kernel
theorem dX3_cross_35 : decode cX3_cross 35 = .ok (.getfield 66, 3) := by decide +kernel
theorem dX3_cross_38 : decode cX3_cross 38 = .ok (.ifCond .le 5, 3) := by decide +kernel
theorem dX3_cross_41 : decode cX3_cross 41 = .ok (.iconst 0, 1) := by decide +kernel
theorem dX3_cross_42 : decode cX3_cross 42 = .ok (.ireturn, 1) := by decide +kernel
theorem dX3_cross_43 : decode cX3_cross 43 = .ok (.aload_n 0, 1) := by decide +kernel
theorem dX3_cross_44 : decode cX3_cross 44 = .ok (.getfield 23, 3) := by decide +kernel
theorem dX3_cross_47 : decode cX3_cross 47 = .ok (.iload_n 1, 1) := by decide +kernel
theorem dX3_cross_48 : decode cX3_cross 48 = .ok (.iaload, 1) := by decide +kernel
theorem dX3_cross_49 : decode cX3_cross 49 = .ok (.iconst (-1), 1) := by decide +kernel
theorem dX3_cross_50 : decode cX3_cross 50 = .ok (.if_icmp .eq 23, 3) := by decide +kernel
theorem dX3_cross_53 : decode cX3_cross 53 = .ok (.aload_n 0, 1) := by decide +kernel
theorem dX3_cross_54 : decode cX3_cross 54 = .ok (.getfield 26, 3) := by decide +kernel
theorem dX3_cross_57 : decode cX3_cross 57 = .ok (.iload_n 1, 1) := by decide +kernel
theorem dX3_cross_58 : decode cX3_cross 58 = .ok (.iaload, 1) := by decide +kernel
theorem dX3_cross_59 : decode cX3_cross 59 = .ok (.iconst (-1), 1) := by decide +kernel
theorem dX3_cross_60 : decode cX3_cross 60 = .ok (.if_icmp .ne 13, 3) := by decide +kernel
theorem dX3_cross_63 : decode cX3_cross 63 = .ok (.aload_n 0, 1) := by decide +kernel
theorem dX3_cross_64 : decode cX3_cross 64 = .ok (.getfield 23, 3) := by decide +kernel
theorem dX3_cross_67 : decode cX3_cross 67 = .ok (.iload_n 1, 1) := by decide +kernel
theorem dX3_cross_68 : decode cX3_cross 68 = .ok (.iaload, 1) := by decide +kernel
theorem dX3_cross_69 : decode cX3_cross 69 = .ok (.iload_n 2, 1) := by decide +kernel
theorem dX3_cross_70 : decode cX3_cross 70 = .ok (.if_icmp .ne 7, 3) := by decide +kernel
theorem dX3_cross_73 : decode cX3_cross 73 = .ok (.iconst 1, 1) := by decide +kernel
theorem dX3_cross_74 : decode cX3_cross 74 = .ok (.goto 4, 3) := by decide +kernel
theorem dX3_cross_77 : decode cX3_cross 77 = .ok (.iconst 0, 1) := by decide +kernel
theorem dX3_cross_78 : decode cX3_cross 78 = .ok (.istore_n 3, 1) := by decide +kernel
theorem dX3_cross_79 : decode cX3_cross 79 = .ok (.iload_n 3, 1) := by decide +kernel
theorem dX3_cross_80 : decode cX3_cross 80 = .ok (.ifCond .eq 9, 3) := by decide +kernel
theorem dX3_cross_83 : decode cX3_cross 83 = .ok (.aload_n 0, 1) := by decide +kernel
theorem dX3_cross_84 : decode cX3_cross 84 = .ok (.iconst 3, 1) := by decide +kernel
theorem dX3_cross_85 : decode cX3_cross 85 = .ok (.invokevirtual 83, 3) := by decide +kernel
theorem dX3_cross_88 : decode cX3_cross 88 = .ok (.ireturn, 1) := by decide +kernel
theorem dX3_cross_89 : decode cX3_cross 89 = .ok (.aload_n 0, 1) := by decide +kernel
theorem dX3_cross_90 : decode cX3_cross 90 = .ok (.getfield 26, 3) := by decide +kernel
theorem dX3_cross_93 : decode cX3_cross 93 = .ok (.iload_n 1, 1) := by decide +kernel
theorem dX3_cross_94 : decode cX3_cross 94 = .ok (.iload_n 2, 1) := by decide +kernel
theorem dX3_cross_95 : decode cX3_cross 95 = .ok (.iastore, 1) := by decide +kernel
theorem dX3_cross_96 : decode cX3_cross 96 = .ok (.aload_n 0, 1) := by decide +kernel
theorem dX3_cross_97 : decode cX3_cross 97 = .ok (.iload_n 1, 1) := by decide +kernel
theorem dX3_cross_98 : decode cX3_cross 98 = .ok (.invokevirtual 87, 3) := by decide +kernel
theorem dX3_cross_101 : decode cX3_cross 101 = .ok (.ireturn, 1) := by decide +kernel
set_option maxRecDepth 20000 in
theorem ggX3_distrust_X3_isIssuer : GoodIn wsX3_distrust wsX3_isIssuer := goodIn_r _ [7, 8, 9, 10, 6, 11, 15, 16, 17, 18, 19, 20, 21, 22, 23, 24, 25, 26, 27, 28, 29, 30, 31, 32, 33, 34, 35, 36] (by decide +kernel) (by decide +kernel)
set_option maxRecDepth 20000 in
theorem gX3_distrust_X3_isIssuer : GoodIn wsX3_distrust (wsV RX3 79 RX3 yX3_isIssuer wsX3_isIssuer) := goodIn_app (goodIn_of _ (by decide +kernel)) ggX3_distrust_X3_isIssuer
set_option maxRecDepth 20000 in
theorem ggX3_distrust_X3_isDay : GoodIn wsX3_distrust wsX3_isDay := goodIn_r _ [14, 9, 10, 6, 11] (by decide +kernel) (by decide +kernel)
set_option maxRecDepth 20000 in
theorem gX3_distrust_X3_isDay : GoodIn wsX3_distrust (va_wsS RX3 90 yX3_isDay wsX3_isDay) := goodIn_app (goodIn_of _ (by decide +kernel)) ggX3_distrust_X3_isDay
theorem dX3_distrust_0 : decode cX3_distrust 0 = .ok (.aload_n 0, 1) := by decide +kernel
theorem dX3_distrust_1 : decode cX3_distrust 1 = .ok (.aload_n 0, 1) := by decide +kernel
theorem dX3_distrust_2 : decode cX3_distrust 2 = .ok (.iload_n 1, 1) := by decide +kernel
theorem dX3_distrust_3 : decode cX3_distrust 3 = .ok (.invokevirtual 79, 3) := by decide +kernel
theorem dX3_distrust_6 : decode cX3_distrust 6 = .ok (.ifCond .ne 7, 3) := by decide +kernel
theorem dX3_distrust_9 : decode cX3_distrust 9 = .ok (.iconst 1, 1) := by decide +kernel
theorem dX3_distrust_10 : decode cX3_distrust 10 = .ok (.goto 20, 3) := by decide +kernel
theorem dX3_distrust_13 : decode cX3_distrust 13 = .ok (.iload_n 2, 1) := by decide +kernel
theorem dX3_distrust_14 : decode cX3_distrust 14 = .ok (.iconst (-1), 1) := by decide +kernel
theorem dX3_distrust_15 : decode cX3_distrust 15 = .ok (.if_icmp .eq 10, 3) := by decide +kernel
theorem dX3_distrust_18 : decode cX3_distrust 18 = .ok (.iload_n 2, 1) := by decide +kernel
theorem dX3_distrust_19 : decode cX3_distrust 19 = .ok (.invokestatic 90, 3) := by decide +kernel
theorem dX3_distrust_22 : decode cX3_distrust 22 = .ok (.ifCond .eq 7, 3) := by decide +kernel
theorem dX3_distrust_25 : decode cX3_distrust 25 = .ok (.iconst 0, 1) := by decide +kernel
theorem dX3_distrust_26 : decode cX3_distrust 26 = .ok (.goto 4, 3) := by decide +kernel
theorem dX3_distrust_29 : decode cX3_distrust 29 = .ok (.iconst 2, 1) := by decide +kernel
theorem dX3_distrust_30 : decode cX3_distrust 30 = .ok (.putfield 66, 3) := by decide +kernel
theorem dX3_distrust_33 : decode cX3_distrust 33 = .ok (.aload_n 0, 1) := by decide +kernel
theorem dX3_distrust_34 : decode cX3_distrust 34 = .ok (.getfield 66, 3) := by decide +kernel
theorem dX3_distrust_37 : decode cX3_distrust 37 = .ok (.ifCond .le 5, 3) := by decide +kernel
theorem dX3_distrust_40 : decode cX3_distrust 40 = .ok (.iconst 0, 1) := by decide +kernel
theorem dX3_distrust_41 : decode cX3_distrust 41 = .ok (.ireturn, 1) := by decide +kernel
theorem dX3_distrust_42 : decode cX3_distrust 42 = .ok (.aload_n 0, 1) := by decide +kernel
theorem dX3_distrust_43 : decode cX3_distrust 43 = .ok (.getfield 29, 3) := by decide +kernel
theorem dX3_distrust_46 : decode cX3_distrust 46 = .ok (.iload_n 1, 1) := by decide +kernel
theorem dX3_distrust_47 : decode cX3_distrust 47 = .ok (.iaload, 1) := by decide +kernel
theorem dX3_distrust_48 : decode cX3_distrust 48 = .ok (.istore_n 3, 1) := by decide +kernel
theorem dX3_distrust_49 : decode cX3_distrust 49 = .ok (.aload_n 0, 1) := by decide +kernel
theorem dX3_distrust_50 : decode cX3_distrust 50 = .ok (.getfield 29, 3) := by decide +kernel
theorem dX3_distrust_53 : decode cX3_distrust 53 = .ok (.iload_n 1, 1) := by decide +kernel
theorem dX3_distrust_54 : decode cX3_distrust 54 = .ok (.iload_n 2, 1) := by decide +kernel
theorem dX3_distrust_55 : decode cX3_distrust 55 = .ok (.iastore, 1) := by decide +kernel
theorem dX3_distrust_56 : decode cX3_distrust 56 = .ok (.iload_n 3, 1) := by decide +kernel
theorem dX3_distrust_57 : decode cX3_distrust 57 = .ok (.ireturn, 1) := by decide +kernel
set_option maxRecDepth 20000 in
theorem ggX3_pin_X3_isName : GoodIn wsX3_pin wsX3_isName := goodIn_r _ [6, 7, 8, 5, 9] (by decide +kernel) (by decide +kernel)
set_option maxRecDepth 20000 in
theorem gX3_pin_X3_isName : GoodIn wsX3_pin (va_wsS RX3 93 yX3_isName wsX3_isName) := goodIn_app (goodIn_of _ (by decide +kernel)) ggX3_pin_X3_isName
set_option maxRecDepth 20000 in
theorem ggX3_pin_X3_in : GoodIn wsX3_pin wsX3_in := goodIn_r _ [9] (by decide +kernel) (by decide +kernel)
set_option maxRecDepth 20000 in
theorem gX3_pin_X3_in : GoodIn wsX3_pin (va_wsS RX3 72 yX3_in wsX3_in) := goodIn_app (goodIn_of _ (by decide +kernel)) ggX3_pin_X3_in
theorem dX3_pin_0 : decode cX3_pin 0 = .ok (.aload_n 0, 1) := by decide +kernel
theorem dX3_pin_1 : decode cX3_pin 1 = .ok (.iload_n 1, 1) := by decide +kernel
theorem dX3_pin_2 : decode cX3_pin 2 = .ok (.invokestatic 93, 3) := by decide +kernel
theorem dX3_pin_5 : decode cX3_pin 5 = .ok (.ifCond .ne 7, 3) := by decide +kernel
theorem dX3_pin_8 : decode cX3_pin 8 = .ok (.iconst 1, 1) := by decide +kernel
theorem dX3_pin_9 : decode cX3_pin 9 = .ok (.goto 19, 3) := by decide +kernel
theorem dX3_pin_12 : decode cX3_pin 12 = .ok (.iload_n 2, 1) := by decide +kernel
theorem dX3_pin_13 : decode cX3_pin 13 = .ok (.iconst 0, 1) := by decide +kernel
theorem dX3_pin_14 : decode cX3_pin 14 = .ok (.sipush 255, 3) := by decide +kernel
theorem dX3_pin_17 : decode cX3_pin 17 = .ok (.invokestatic 72, 3) := by decide +kernel
theorem dX3_pin_20 : decode cX3_pin 20 = .ok (.ifCond .eq 7, 3) := by decide +kernel
theorem dX3_pin_23 : decode cX3_pin 23 = .ok (.iconst 0, 1) := by decide +kernel
theorem dX3_pin_24 : decode cX3_pin 24 = .ok (.goto 4, 3) := by decide +kernel
theorem dX3_pin_27 : decode cX3_pin 27 = .ok (.iconst 2, 1) := by decide +kernel
theorem dX3_pin_28 : decode cX3_pin 28 = .ok (.putfield 66, 3) := by decide +kernel
theorem dX3_pin_31 : decode cX3_pin 31 = .ok (.aload_n 0, 1) := by decide +kernel
theorem dX3_pin_32 : decode cX3_pin 32 = .ok (.getfield 66, 3) := by decide +kernel
theorem dX3_pin_35 : decode cX3_pin 35 = .ok (.ifCond .le 5, 3) := by decide +kernel
theorem dX3_pin_38 : decode cX3_pin 38 = .ok (.iconst 0, 1) := by decide +kernel
theorem dX3_pin_39 : decode cX3_pin 39 = .ok (.ireturn, 1) := by decide +kernel
theorem dX3_pin_40 : decode cX3_pin 40 = .ok (.aload_n 0, 1) := by decide +kernel
theorem dX3_pin_41 : decode cX3_pin 41 = .ok (.getfield 32, 3) := by decide +kernel
theorem dX3_pin_44 : decode cX3_pin 44 = .ok (.iload_n 1, 1) := by decide +kernel
theorem dX3_pin_45 : decode cX3_pin 45 = .ok (.iaload, 1) := by decide +kernel
theorem dX3_pin_46 : decode cX3_pin 46 = .ok (.istore_n 3, 1) := by decide +kernel
theorem dX3_pin_47 : decode cX3_pin 47 = .ok (.aload_n 0, 1) := by decide +kernel
theorem dX3_pin_48 : decode cX3_pin 48 = .ok (.getfield 32, 3) := by decide +kernel
theorem dX3_pin_51 : decode cX3_pin 51 = .ok (.iload_n 1, 1) := by decide +kernel
theorem dX3_pin_52 : decode cX3_pin 52 = .ok (.iload_n 2, 1) := by decide +kernel
theorem dX3_pin_53 : decode cX3_pin 53 = .ok (.iastore, 1) := by decide +kernel
theorem dX3_pin_54 : decode cX3_pin 54 = .ok (.iload_n 3, 1) := by decide +kernel
theorem dX3_pin_55 : decode cX3_pin 55 = .ok (.ireturn, 1) := by decide +kernel
theorem dX3_setSeed_0 : decode cX3_setSeed 0 = .ok (.aload_n 0, 1) := by decide +kernel
theorem dX3_setSeed_1 : decode cX3_setSeed 1 = .ok (.iconst 0, 1) := by decide +kernel
theorem dX3_setSeed_2 : decode cX3_setSeed 2 = .ok (.putfield 66, 3) := by decide +kernel
theorem dX3_setSeed_5 : decode cX3_setSeed 5 = .ok (.aload_n 0, 1) := by decide +kernel
theorem dX3_setSeed_6 : decode cX3_setSeed 6 = .ok (.iload_n 1, 1) := by decide +kernel
theorem dX3_setSeed_7 : decode cX3_setSeed 7 = .ok (.putfield 7, 3) := by decide +kernel
theorem dX3_setSeed_10 : decode cX3_setSeed 10 = .ok (.return_, 1) := by decide +kernel
set_option maxRecDepth 20000 in
theorem ggX3_holds_X3_in : GoodIn wsX3_holds wsX3_in := goodIn_r _ [10] (by decide +kernel) (by decide +kernel)
set_option maxRecDepth 20000 in
theorem gX3_holds_X3_in : GoodIn wsX3_holds (va_wsS RX3 72 yX3_in wsX3_in) := goodIn_app (goodIn_of _ (by decide +kernel)) ggX3_holds_X3_in
theorem dX3_holds_0 : decode cX3_holds 0 = .ok (.iconst 0, 1) := by decide +kernel
theorem dX3_holds_1 : decode cX3_holds 1 = .ok (.istore 4, 2) := by decide +kernel
theorem dX3_holds_3 : decode cX3_holds 3 = .ok (.iload 4, 2) := by decide +kernel
theorem dX3_holds_5 : decode cX3_holds 5 = .ok (.iload_n 1, 1) := by decide +kernel
theorem dX3_holds_6 : decode cX3_holds 6 = .ok (.if_icmp .gt 132, 3) := by decide +kernel
theorem dX3_holds_9 : decode cX3_holds 9 = .ok (.iload 4, 2) := by decide +kernel
theorem dX3_holds_11 : decode cX3_holds 11 = .ok (.iload_n 3, 1) := by decide +kernel
theorem dX3_holds_12 : decode cX3_holds 12 = .ok (.if_icmp .eq 50, 3) := by decide +kernel
theorem dX3_holds_15 : decode cX3_holds 15 = .ok (.iload_n 2, 1) := by decide +kernel
theorem dX3_holds_16 : decode cX3_holds 16 = .ok (.aload_n 0, 1) := by decide +kernel
theorem dX3_holds_17 : decode cX3_holds 17 = .ok (.getfield 13, 3) := by decide +kernel
theorem dX3_holds_20 : decode cX3_holds 20 = .ok (.iload 4, 2) := by decide +kernel
theorem dX3_holds_22 : decode cX3_holds 22 = .ok (.iaload, 1) := by decide +kernel
theorem dX3_holds_23 : decode cX3_holds 23 = .ok (.aload_n 0, 1) := by decide +kernel
theorem dX3_holds_24 : decode cX3_holds 24 = .ok (.getfield 17, 3) := by decide +kernel
theorem dX3_holds_27 : decode cX3_holds 27 = .ok (.iload 4, 2) := by decide +kernel
theorem dX3_holds_29 : decode cX3_holds 29 = .ok (.iaload, 1) := by decide +kernel
theorem dX3_holds_30 : decode cX3_holds 30 = .ok (.invokestatic 72, 3) := by decide +kernel
theorem dX3_holds_33 : decode cX3_holds 33 = .ok (.ifCond .eq 29, 3) := by decide +kernel
theorem dX3_holds_36 : decode cX3_holds 36 = .ok (.aload_n 0, 1) := by decide +kernel
theorem dX3_holds_37 : decode cX3_holds 37 = .ok (.getfield 29, 3) := by decide +kernel
theorem dX3_holds_40 : decode cX3_holds 40 = .ok (.iload 4, 2) := by decide +kernel
theorem dX3_holds_42 : decode cX3_holds 42 = .ok (.iaload, 1) := by decide +kernel
theorem dX3_holds_43 : decode cX3_holds 43 = .ok (.iconst (-1), 1) := by decide +kernel
theorem dX3_holds_44 : decode cX3_holds 44 = .ok (.if_icmp .eq 14, 3) := by decide +kernel
theorem dX3_holds_47 : decode cX3_holds 47 = .ok (.iload_n 2, 1) := by decide +kernel
theorem dX3_holds_48 : decode cX3_holds 48 = .ok (.aload_n 0, 1) := by decide +kernel
theorem dX3_holds_49 : decode cX3_holds 49 = .ok (.getfield 29, 3) := by decide +kernel
theorem dX3_holds_52 : decode cX3_holds 52 = .ok (.iload 4, 2) := by decide +kernel
theorem dX3_holds_54 : decode cX3_holds 54 = .ok (.iaload, 1) := by decide +kernel
theorem dX3_holds_55 : decode cX3_holds 55 = .ok (.if_icmp .ge 7, 3) := by decide +kernel
theorem dX3_holds_58 : decode cX3_holds 58 = .ok (.iconst 1, 1) := by decide +kernel
theorem dX3_holds_59 : decode cX3_holds 59 = .ok (.goto 4, 3) := by decide +kernel
theorem dX3_holds_62 : decode cX3_holds 62 = .ok (.iconst 0, 1) := by decide +kernel
theorem dX3_holds_63 : decode cX3_holds 63 = .ok (.istore 5, 2) := by decide +kernel
theorem dX3_holds_65 : decode cX3_holds 65 = .ok (.aload_n 0, 1) := by decide +kernel
theorem dX3_holds_66 : decode cX3_holds 66 = .ok (.getfield 23, 3) := by decide +kernel
theorem dX3_holds_69 : decode cX3_holds 69 = .ok (.iload 4, 2) := by decide +kernel
theorem dX3_holds_71 : decode cX3_holds 71 = .ok (.iaload, 1) := by decide +kernel
theorem dX3_holds_72 : decode cX3_holds 72 = .ok (.istore 6, 2) := by decide +kernel
theorem dX3_holds_74 : decode cX3_holds 74 = .ok (.aload_n 0, 1) := by decide +kernel
theorem dX3_holds_75 : decode cX3_holds 75 = .ok (.getfield 26, 3) := by decide +kernel
theorem dX3_holds_78 : decode cX3_holds 78 = .ok (.iload 4, 2) := by decide +kernel
theorem dX3_holds_80 : decode cX3_holds 80 = .ok (.iaload, 1) := by decide +kernel
theorem dX3_holds_81 : decode cX3_holds 81 = .ok (.istore 7, 2) := by decide +kernel
theorem dX3_holds_83 : decode cX3_holds 83 = .ok (.aload_n 0, 1) := by decide +kernel
theorem dX3_holds_84 : decode cX3_holds 84 = .ok (.getfield 35, 3) := by decide +kernel
theorem dX3_holds_87 : decode cX3_holds 87 = .ok (.iload 4, 2) := by decide +kernel
theorem dX3_holds_89 : decode cX3_holds 89 = .ok (.iload 5, 2) := by decide +kernel
theorem dX3_holds_91 : decode cX3_holds 91 = .ok (.ifCond .eq 39, 3) := by decide +kernel
theorem dX3_holds_94 : decode cX3_holds 94 = .ok (.iload 6, 2) := by decide +kernel
theorem dX3_holds_96 : decode cX3_holds 96 = .ok (.iconst (-1), 1) := by decide +kernel
theorem dX3_holds_97 : decode cX3_holds 97 = .ok (.if_icmp .eq 29, 3) := by decide +kernel
theorem dX3_holds_100 : decode cX3_holds 100 = .ok (.aload_n 0, 1) := by decide +kernel
theorem dX3_holds_101 : decode cX3_holds 101 = .ok (.getfield 35, 3) := by decide +kernel
theorem dX3_holds_104 : decode cX3_holds 104 = .ok (.iload 6, 2) := by decide +kernel
theorem dX3_holds_106 : decode cX3_holds 106 = .ok (.baload, 1) := by decide +kernel
theorem dX3_holds_107 : decode cX3_holds 107 = .ok (.ifCond .ne 19, 3) := by decide +kernel
theorem dX3_holds_110 : decode cX3_holds 110 = .ok (.iload 7, 2) := by decide +kernel
theorem dX3_holds_112 : decode cX3_holds 112 = .ok (.iconst (-1), 1) := by decide +kernel
theorem dX3_holds_113 : decode cX3_holds 113 = .ok (.if_icmp .eq 17, 3) := by decide +kernel
theorem dX3_holds_116 : decode cX3_holds 116 = .ok (.aload_n 0, 1) := by decide +kernel
theorem dX3_holds_117 : decode cX3_holds 117 = .ok (.getfield 35, 3) := by decide +kernel
theorem dX3_holds_120 : decode cX3_holds 120 = .ok (.iload 7, 2) := by decide +kernel
theorem dX3_holds_122 : decode cX3_holds 122 = .ok (.baload, 1) := by decide +kernel
theorem dX3_holds_123 : decode cX3_holds 123 = .ok (.ifCond .eq 7, 3) := by decide +kernel
theorem dX3_holds_126 : decode cX3_holds 126 = .ok (.iconst 1, 1) := by decide +kernel
theorem dX3_holds_127 : decode cX3_holds 127 = .ok (.goto 4, 3) := by decide +kernel
theorem dX3_holds_130 : decode cX3_holds 130 = .ok (.iconst 0, 1) := by decide +kernel
theorem dX3_holds_131 : decode cX3_holds 131 = .ok (.bastore, 1) := by decide +kernel
theorem dX3_holds_132 : decode cX3_holds 132 = .ok (.iinc 4 1, 3) := by decide +kernel
theorem dX3_holds_135 : decode cX3_holds 135 = .ok (.goto (-132), 3) := by decide +kernel
theorem dX3_holds_138 : decode cX3_holds 138 = .ok (.aload_n 0, 1) := by decide +kernel
theorem dX3_holds_139 : decode cX3_holds 139 = .ok (.getfield 35, 3) := by decide +kernel
theorem dX3_holds_142 : decode cX3_holds 142 = .ok (.iload_n 1, 1) := by decide +kernel
theorem dX3_holds_143 : decode cX3_holds 143 = .ok (.baload, 1) := by decide +kernel
theorem dX3_holds_144 : decode cX3_holds 144 = .ok (.ireturn, 1) := by decide +kernel
theorem dX3_ends_0 : decode cX3_ends 0 = .ok (.iconst 0, 1) := by decide +kernel
theorem dX3_ends_1 : decode cX3_ends 1 = .ok (.istore_n 2, 1) := by decide +kernel
theorem dX3_ends_2 : decode cX3_ends 2 = .ok (.iload_n 2, 1) := by decide +kernel
theorem dX3_ends_3 : decode cX3_ends 3 = .ok (.iload_n 1, 1) := by decide +kernel
theorem dX3_ends_4 : decode cX3_ends 4 = .ok (.if_icmp .gt 103, 3) := by decide +kernel
theorem dX3_ends_7 : decode cX3_ends 7 = .ok (.aload_n 0, 1) := by decide +kernel
theorem dX3_ends_8 : decode cX3_ends 8 = .ok (.getfield 23, 3) := by decide +kernel
theorem dX3_ends_11 : decode cX3_ends 11 = .ok (.iload_n 2, 1) := by decide +kernel
theorem dX3_ends_12 : decode cX3_ends 12 = .ok (.iaload, 1) := by decide +kernel
theorem dX3_ends_13 : decode cX3_ends 13 = .ok (.istore_n 3, 1) := by decide +kernel
theorem dX3_ends_14 : decode cX3_ends 14 = .ok (.aload_n 0, 1) := by decide +kernel
theorem dX3_ends_15 : decode cX3_ends 15 = .ok (.getfield 26, 3) := by decide +kernel
theorem dX3_ends_18 : decode cX3_ends 18 = .ok (.iload_n 2, 1) := by decide +kernel
theorem dX3_ends_19 : decode cX3_ends 19 = .ok (.iaload, 1) := by decide +kernel
theorem dX3_ends_20 : decode cX3_ends 20 = .ok (.istore 4, 2) := by decide +kernel
theorem dX3_ends_22 : decode cX3_ends 22 = .ok (.iload_n 3, 1) := by decide +kernel
theorem dX3_ends_23 : decode cX3_ends 23 = .ok (.iconst (-1), 1) := by decide +kernel
theorem dX3_ends_24 : decode cX3_ends 24 = .ok (.if_icmp .ne 9, 3) := by decide +kernel
theorem dX3_ends_27 : decode cX3_ends 27 = .ok (.sipush 5000, 3) := by decide +kernel
theorem dX3_ends_30 : decode cX3_ends 30 = .ok (.goto 41, 3) := by decide +kernel
theorem dX3_ends_33 : decode cX3_ends 33 = .ok (.iload 4, 2) := by decide +kernel
theorem dX3_ends_35 : decode cX3_ends 35 = .ok (.iconst (-1), 1) := by decide +kernel
theorem dX3_ends_36 : decode cX3_ends 36 = .ok (.if_icmp .eq 29, 3) := by decide +kernel
theorem dX3_ends_39 : decode cX3_ends 39 = .ok (.aload_n 0, 1) := by decide +kernel
theorem dX3_ends_40 : decode cX3_ends 40 = .ok (.getfield 39, 3) := by decide +kernel
theorem dX3_ends_43 : decode cX3_ends 43 = .ok (.iload 4, 2) := by decide +kernel
theorem dX3_ends_45 : decode cX3_ends 45 = .ok (.iaload, 1) := by decide +kernel
theorem dX3_ends_46 : decode cX3_ends 46 = .ok (.aload_n 0, 1) := by decide +kernel
theorem dX3_ends_47 : decode cX3_ends 47 = .ok (.getfield 39, 3) := by decide +kernel
theorem dX3_ends_50 : decode cX3_ends 50 = .ok (.iload_n 3, 1) := by decide +kernel
theorem dX3_ends_51 : decode cX3_ends 51 = .ok (.iaload, 1) := by decide +kernel
theorem dX3_ends_52 : decode cX3_ends 52 = .ok (.if_icmp .le 13, 3) := by decide +kernel
theorem dX3_ends_55 : decode cX3_ends 55 = .ok (.aload_n 0, 1) := by decide +kernel
theorem dX3_ends_56 : decode cX3_ends 56 = .ok (.getfield 39, 3) := by decide +kernel
theorem dX3_ends_59 : decode cX3_ends 59 = .ok (.iload 4, 2) := by decide +kernel
theorem dX3_ends_61 : decode cX3_ends 61 = .ok (.iaload, 1) := by decide +kernel
theorem dX3_ends_62 : decode cX3_ends 62 = .ok (.goto 9, 3) := by decide +kernel
theorem dX3_ends_65 : decode cX3_ends 65 = .ok (.aload_n 0, 1) := by decide +kernel
theorem dX3_ends_66 : decode cX3_ends 66 = .ok (.getfield 39, 3) := by decide +kernel
theorem dX3_ends_69 : decode cX3_ends 69 = .ok (.iload_n 3, 1) := by decide +kernel
theorem dX3_ends_70 : decode cX3_ends 70 = .ok (.iaload, 1) := by decide +kernel
theorem dX3_ends_71 : decode cX3_ends 71 = .ok (.istore 5, 2) := by decide +kernel
theorem dX3_ends_73 : decode cX3_ends 73 = .ok (.aload_n 0, 1) := by decide +kernel
theorem dX3_ends_74 : decode cX3_ends 74 = .ok (.getfield 39, 3) := by decide +kernel
theorem dX3_ends_77 : decode cX3_ends 77 = .ok (.iload_n 2, 1) := by decide +kernel
theorem dX3_ends_78 : decode cX3_ends 78 = .ok (.iload 5, 2) := by decide +kernel
theorem dX3_ends_80 : decode cX3_ends 80 = .ok (.aload_n 0, 1) := by decide +kernel
theorem dX3_ends_81 : decode cX3_ends 81 = .ok (.getfield 17, 3) := by decide +kernel
theorem dX3_ends_84 : decode cX3_ends 84 = .ok (.iload_n 2, 1) := by decide +kernel
theorem dX3_ends_85 : decode cX3_ends 85 = .ok (.iaload, 1) := by decide +kernel
theorem dX3_ends_86 : decode cX3_ends 86 = .ok (.if_icmp .ge 8, 3) := by decide +kernel
theorem dX3_ends_89 : decode cX3_ends 89 = .ok (.iload 5, 2) := by decide +kernel
theorem dX3_ends_91 : decode cX3_ends 91 = .ok (.goto 9, 3) := by decide +kernel
theorem dX3_ends_94 : decode cX3_ends 94 = .ok (.aload_n 0, 1) := by decide +kernel
theorem dX3_ends_95 : decode cX3_ends 95 = .ok (.getfield 17, 3) := by decide +kernel
theorem dX3_ends_98 : decode cX3_ends 98 = .ok (.iload_n 2, 1) := by decide +kernel
theorem dX3_ends_99 : decode cX3_ends 99 = .ok (.iaload, 1) := by decide +kernel
theorem dX3_ends_100 : decode cX3_ends 100 = .ok (.iastore, 1) := by decide +kernel
theorem dX3_ends_101 : decode cX3_ends 101 = .ok (.iinc 2 1, 3) := by decide +kernel
theorem dX3_ends_104 : decode cX3_ends 104 = .ok (.goto (-102), 3) := by decide +kernel
theorem dX3_ends_107 : decode cX3_ends 107 = .ok (.aload_n 0, 1) := by decide +kernel
theorem dX3_ends_108 : decode cX3_ends 108 = .ok (.getfield 39, 3) := by decide +kernel
theorem dX3_ends_111 : decode cX3_ends 111 = .ok (.iload_n 1, 1) := by decide +kernel
theorem dX3_ends_112 : decode cX3_ends 112 = .ok (.iaload, 1) := by decide +kernel
theorem dX3_ends_113 : decode cX3_ends 113 = .ok (.ireturn, 1) := by decide +kernel
theorem dX3_ways_0 : decode cX3_ways 0 = .ok (.iconst 0, 1) := by decide +kernel
theorem dX3_ways_1 : decode cX3_ways 1 = .ok (.istore_n 2, 1) := by decide +kernel
theorem dX3_ways_2 : decode cX3_ways 2 = .ok (.iload_n 2, 1) := by decide +kernel
theorem dX3_ways_3 : decode cX3_ways 3 = .ok (.iload_n 1, 1) := by decide +kernel
theorem dX3_ways_4 : decode cX3_ways 4 = .ok (.if_icmp .gt 63, 3) := by decide +kernel
theorem dX3_ways_7 : decode cX3_ways 7 = .ok (.aload_n 0, 1) := by decide +kernel
theorem dX3_ways_8 : decode cX3_ways 8 = .ok (.getfield 23, 3) := by decide +kernel
theorem dX3_ways_11 : decode cX3_ways 11 = .ok (.iload_n 2, 1) := by decide +kernel
theorem dX3_ways_12 : decode cX3_ways 12 = .ok (.iaload, 1) := by decide +kernel
theorem dX3_ways_13 : decode cX3_ways 13 = .ok (.istore_n 3, 1) := by decide +kernel
theorem dX3_ways_14 : decode cX3_ways 14 = .ok (.aload_n 0, 1) := by decide +kernel
theorem dX3_ways_15 : decode cX3_ways 15 = .ok (.getfield 26, 3) := by decide +kernel
theorem dX3_ways_18 : decode cX3_ways 18 = .ok (.iload_n 2, 1) := by decide +kernel
theorem dX3_ways_19 : decode cX3_ways 19 = .ok (.iaload, 1) := by decide +kernel
theorem dX3_ways_20 : decode cX3_ways 20 = .ok (.istore 4, 2) := by decide +kernel
theorem dX3_ways_22 : decode cX3_ways 22 = .ok (.aload_n 0, 1) := by decide +kernel
theorem dX3_ways_23 : decode cX3_ways 23 = .ok (.getfield 42, 3) := by decide +kernel
theorem dX3_ways_26 : decode cX3_ways 26 = .ok (.iload_n 2, 1) := by decide +kernel
theorem dX3_ways_27 : decode cX3_ways 27 = .ok (.iload_n 3, 1) := by decide +kernel
theorem dX3_ways_28 : decode cX3_ways 28 = .ok (.iconst (-1), 1) := by decide +kernel
theorem dX3_ways_29 : decode cX3_ways 29 = .ok (.if_icmp .ne 7, 3) := by decide +kernel
theorem dX3_ways_32 : decode cX3_ways 32 = .ok (.iconst 1, 1) := by decide +kernel
theorem dX3_ways_33 : decode cX3_ways 33 = .ok (.goto 27, 3) := by decide +kernel
theorem dX3_ways_36 : decode cX3_ways 36 = .ok (.aload_n 0, 1) := by decide +kernel
theorem dX3_ways_37 : decode cX3_ways 37 = .ok (.getfield 42, 3) := by decide +kernel
theorem dX3_ways_40 : decode cX3_ways 40 = .ok (.iload_n 3, 1) := by decide +kernel
theorem dX3_ways_41 : decode cX3_ways 41 = .ok (.iaload, 1) := by decide +kernel
theorem dX3_ways_42 : decode cX3_ways 42 = .ok (.iload 4, 2) := by decide +kernel
theorem dX3_ways_44 : decode cX3_ways 44 = .ok (.iconst (-1), 1) := by decide +kernel
theorem dX3_ways_45 : decode cX3_ways 45 = .ok (.if_icmp .ne 7, 3) := by decide +kernel
theorem dX3_ways_48 : decode cX3_ways 48 = .ok (.iconst 0, 1) := by decide +kernel
theorem dX3_ways_49 : decode cX3_ways 49 = .ok (.goto 10, 3) := by decide +kernel
theorem dX3_ways_52 : decode cX3_ways 52 = .ok (.aload_n 0, 1) := by decide +kernel
theorem dX3_ways_53 : decode cX3_ways 53 = .ok (.getfield 42, 3) := by decide +kernel
theorem dX3_ways_56 : decode cX3_ways 56 = .ok (.iload 4, 2) := by decide +kernel
theorem dX3_ways_58 : decode cX3_ways 58 = .ok (.iaload, 1) := by decide +kernel
theorem dX3_ways_59 : decode cX3_ways 59 = .ok (.iadd, 1) := by decide +kernel
theorem dX3_ways_60 : decode cX3_ways 60 = .ok (.iastore, 1) := by decide +kernel
theorem dX3_ways_61 : decode cX3_ways 61 = .ok (.iinc 2 1, 3) := by decide +kernel
theorem dX3_ways_64 : decode cX3_ways 64 = .ok (.goto (-62), 3) := by decide +kernel
theorem dX3_ways_67 : decode cX3_ways 67 = .ok (.aload_n 0, 1) := by decide +kernel
theorem dX3_ways_68 : decode cX3_ways 68 = .ok (.getfield 42, 3) := by decide +kernel
theorem dX3_ways_71 : decode cX3_ways 71 = .ok (.iload_n 1, 1) := by decide +kernel
theorem dX3_ways_72 : decode cX3_ways 72 = .ok (.iaload, 1) := by decide +kernel
theorem dX3_ways_73 : decode cX3_ways 73 = .ok (.ireturn, 1) := by decide +kernel
theorem dX3_covers_0 : decode cX3_covers 0 = .ok (.iload_n 0, 1) := by decide +kernel
theorem dX3_covers_1 : decode cX3_covers 1 = .ok (.iload_n 1, 1) := by decide +kernel
theorem dX3_covers_2 : decode cX3_covers 2 = .ok (.if_icmp .eq 13, 3) := by decide +kernel
theorem dX3_covers_5 : decode cX3_covers 5 = .ok (.iload_n 0, 1) := by decide +kernel
theorem dX3_covers_6 : decode cX3_covers 6 = .ok (.bipush 16, 2) := by decide +kernel
theorem dX3_covers_8 : decode cX3_covers 8 = .ok (.iload_n 1, 1) := by decide +kernel
theorem dX3_covers_9 : decode cX3_covers 9 = .ok (.iconst 4, 1) := by decide +kernel
theorem dX3_covers_10 : decode cX3_covers 10 = .ok (.idiv, 1) := by decide +kernel
theorem dX3_covers_11 : decode cX3_covers 11 = .ok (.iadd, 1) := by decide +kernel
theorem dX3_covers_12 : decode cX3_covers 12 = .ok (.if_icmp .ne 7, 3) := by decide +kernel
theorem dX3_covers_15 : decode cX3_covers 15 = .ok (.iconst 1, 1) := by decide +kernel
theorem dX3_covers_16 : decode cX3_covers 16 = .ok (.goto 4, 3) := by decide +kernel
theorem dX3_covers_19 : decode cX3_covers 19 = .ok (.iconst 0, 1) := by decide +kernel
theorem dX3_covers_20 : decode cX3_covers 20 = .ok (.ireturn, 1) := by decide +kernel
theorem dX3_issued_0 : decode cX3_issued 0 = .ok (.iconst 0, 1) := by decide +kernel
theorem dX3_issued_1 : decode cX3_issued 1 = .ok (.istore_n 2, 1) := by decide +kernel
theorem dX3_issued_2 : decode cX3_issued 2 = .ok (.iconst 0, 1) := by decide +kernel
theorem dX3_issued_3 : decode cX3_issued 3 = .ok (.istore_n 3, 1) := by decide +kernel
theorem dX3_issued_4 : decode cX3_issued 4 = .ok (.iload_n 3, 1) := by decide +kernel
theorem dX3_issued_5 : decode cX3_issued 5 = .ok (.aload_n 0, 1) := by decide +kernel
theorem dX3_issued_6 : decode cX3_issued 6 = .ok (.getfield 76, 3) := by decide +kernel
theorem dX3_issued_9 : decode cX3_issued 9 = .ok (.if_icmp .ge 46, 3) := by decide +kernel
theorem dX3_issued_12 : decode cX3_issued 12 = .ok (.iload_n 2, 1) := by decide +kernel
theorem dX3_issued_13 : decode cX3_issued 13 = .ok (.aload_n 0, 1) := by decide +kernel
theorem dX3_issued_14 : decode cX3_issued 14 = .ok (.getfield 48, 3) := by decide +kernel
theorem dX3_issued_17 : decode cX3_issued 17 = .ok (.iload_n 3, 1) := by decide +kernel
theorem dX3_issued_18 : decode cX3_issued 18 = .ok (.iaload, 1) := by decide +kernel
theorem dX3_issued_19 : decode cX3_issued 19 = .ok (.iload_n 1, 1) := by decide +kernel
theorem dX3_issued_20 : decode cX3_issued 20 = .ok (.if_icmp .ne 26, 3) := by decide +kernel
theorem dX3_issued_23 : decode cX3_issued 23 = .ok (.aload_n 0, 1) := by decide +kernel
theorem dX3_issued_24 : decode cX3_issued 24 = .ok (.getfield 51, 3) := by decide +kernel
theorem dX3_issued_27 : decode cX3_issued 27 = .ok (.iload_n 3, 1) := by decide +kernel
theorem dX3_issued_28 : decode cX3_issued 28 = .ok (.iaload, 1) := by decide +kernel
theorem dX3_issued_29 : decode cX3_issued 29 = .ok (.bipush 7, 2) := by decide +kernel
theorem dX3_issued_31 : decode cX3_issued 31 = .ok (.idiv, 1) := by decide +kernel
theorem dX3_issued_32 : decode cX3_issued 32 = .ok (.aload_n 0, 1) := by decide +kernel
theorem dX3_issued_33 : decode cX3_issued 33 = .ok (.getfield 96, 3) := by decide +kernel
theorem dX3_issued_36 : decode cX3_issued 36 = .ok (.bipush 7, 2) := by decide +kernel
theorem dX3_issued_38 : decode cX3_issued 38 = .ok (.idiv, 1) := by decide +kernel
theorem dX3_issued_39 : decode cX3_issued 39 = .ok (.if_icmp .ne 7, 3) := by decide +kernel
theorem dX3_issued_42 : decode cX3_issued 42 = .ok (.iconst 1, 1) := by decide +kernel
theorem dX3_issued_43 : decode cX3_issued 43 = .ok (.goto 4, 3) := by decide +kernel
theorem dX3_issued_46 : decode cX3_issued 46 = .ok (.iconst 0, 1) := by decide +kernel
theorem dX3_issued_47 : decode cX3_issued 47 = .ok (.iadd, 1) := by decide +kernel
theorem dX3_issued_48 : decode cX3_issued 48 = .ok (.istore_n 2, 1) := by decide +kernel
theorem dX3_issued_49 : decode cX3_issued 49 = .ok (.iinc 3 1, 3) := by decide +kernel
theorem dX3_issued_52 : decode cX3_issued 52 = .ok (.goto (-48), 3) := by decide +kernel
theorem dX3_issued_55 : decode cX3_issued 55 = .ok (.iload_n 2, 1) := by decide +kernel
theorem dX3_issued_56 : decode cX3_issued 56 = .ok (.ireturn, 1) := by decide +kernel
set_option maxRecDepth 20000 in
theorem ggX3_canIssue_X3_holds : GoodIn wsX3_canIssue wsX3_holds := goodIn_r _ [9, 10, 11, 12, 13, 14, 15, 16, 17, 8, 18, 28, 29, 30, 31, 32, 33, 34, 35, 36, 37, 38, 39, 40, 41, 42, 43, 44, 45, 46, 47, 48, 49] (by decide +kernel) (by decide +kernel)
set_option maxRecDepth 20000 in
theorem gX3_canIssue_X3_holds : GoodIn wsX3_canIssue (wsV RX3 99 RX3 yX3_holds wsX3_holds) := goodIn_app (goodIn_of _ (by decide +kernel)) ggX3_canIssue_X3_holds
set_option maxRecDepth 20000 in
theorem ggX3_canIssue_X3_issued : GoodIn wsX3_canIssue wsX3_issued := goodIn_r _ [22, 3, 23, 24, 1, 28, 29, 30, 31, 32, 33, 34, 35, 36, 37, 38, 39, 40, 41, 42, 43, 44, 45, 46, 47, 48, 49] (by decide +kernel) (by decide +kernel)
set_option maxRecDepth 20000 in
theorem gX3_canIssue_X3_issued : GoodIn wsX3_canIssue (wsV RX3 102 RX3 yX3_issued wsX3_issued) := goodIn_app (goodIn_of _ (by decide +kernel)) ggX3_canIssue_X3_issued
set_option maxRecDepth 20000 in
theorem ggX3_canIssue_X3_covers : GoodIn wsX3_canIssue wsX3_covers := goodIn_r _ [27] (by decide +kernel) (by decide +kernel)
set_option maxRecDepth 20000 in
theorem gX3_canIssue_X3_covers : GoodIn wsX3_canIssue (va_wsS RX3 105 yX3_covers wsX3_covers) := goodIn_app (goodIn_of _ (by decide +kernel)) ggX3_canIssue_X3_covers
theorem dX3_canIssue_0 : decode cX3_canIssue 0 = .ok (.aload_n 0, 1) := by decide +kernel
theorem dX3_canIssue_1 : decode cX3_canIssue 1 = .ok (.iload_n 1, 1) := by decide +kernel
theorem dX3_canIssue_2 : decode cX3_canIssue 2 = .ok (.aload_n 0, 1) := by decide +kernel
theorem dX3_canIssue_3 : decode cX3_canIssue 3 = .ok (.getfield 96, 3) := by decide +kernel
theorem dX3_canIssue_6 : decode cX3_canIssue 6 = .ok (.iconst (-1), 1) := by decide +kernel
theorem dX3_canIssue_7 : decode cX3_canIssue 7 = .ok (.invokevirtual 99, 3) := by decide +kernel
theorem dX3_canIssue_10 : decode cX3_canIssue 10 = .ok (.ifCond .eq 30, 3) := by decide +kernel
theorem dX3_canIssue_13 : decode cX3_canIssue 13 = .ok (.aload_n 0, 1) := by decide +kernel
theorem dX3_canIssue_14 : decode cX3_canIssue 14 = .ok (.iload_n 1, 1) := by decide +kernel
theorem dX3_canIssue_15 : decode cX3_canIssue 15 = .ok (.invokevirtual 102, 3) := by decide +kernel
theorem dX3_canIssue_18 : decode cX3_canIssue 18 = .ok (.aload_n 0, 1) := by decide +kernel
theorem dX3_canIssue_19 : decode cX3_canIssue 19 = .ok (.getfield 20, 3) := by decide +kernel
theorem dX3_canIssue_22 : decode cX3_canIssue 22 = .ok (.iload_n 1, 1) := by decide +kernel
theorem dX3_canIssue_23 : decode cX3_canIssue 23 = .ok (.iaload, 1) := by decide +kernel
theorem dX3_canIssue_24 : decode cX3_canIssue 24 = .ok (.if_icmp .ge 16, 3) := by decide +kernel
theorem dX3_canIssue_27 : decode cX3_canIssue 27 = .ok (.aload_n 0, 1) := by decide +kernel
theorem dX3_canIssue_28 : decode cX3_canIssue 28 = .ok (.getfield 76, 3) := by decide +kernel
theorem dX3_canIssue_31 : decode cX3_canIssue 31 = .ok (.bipush 60, 2) := by decide +kernel
theorem dX3_canIssue_33 : decode cX3_canIssue 33 = .ok (.if_icmp .ge 7, 3) := by decide +kernel
theorem dX3_canIssue_36 : decode cX3_canIssue 36 = .ok (.iconst 1, 1) := by decide +kernel
theorem dX3_canIssue_37 : decode cX3_canIssue 37 = .ok (.goto 4, 3) := by decide +kernel
theorem dX3_canIssue_40 : decode cX3_canIssue 40 = .ok (.iconst 0, 1) := by decide +kernel
theorem dX3_canIssue_41 : decode cX3_canIssue 41 = .ok (.istore_n 3, 1) := by decide +kernel
theorem dX3_canIssue_42 : decode cX3_canIssue 42 = .ok (.iconst 0, 1) := by decide +kernel
theorem dX3_canIssue_43 : decode cX3_canIssue 43 = .ok (.istore 4, 2) := by decide +kernel
theorem dX3_canIssue_45 : decode cX3_canIssue 45 = .ok (.iload 4, 2) := by decide +kernel
theorem dX3_canIssue_47 : decode cX3_canIssue 47 = .ok (.bipush 16, 2) := by decide +kernel
theorem dX3_canIssue_49 : decode cX3_canIssue 49 = .ok (.if_icmp .ge 53, 3) := by decide +kernel
theorem dX3_canIssue_52 : decode cX3_canIssue 52 = .ok (.iload_n 3, 1) := by decide +kernel
theorem dX3_canIssue_53 : decode cX3_canIssue 53 = .ok (.ifCond .eq 41, 3) := by decide +kernel
theorem dX3_canIssue_56 : decode cX3_canIssue 56 = .ok (.iload_n 2, 1) := by decide +kernel
theorem dX3_canIssue_57 : decode cX3_canIssue 57 = .ok (.iload 4, 2) := by decide +kernel
theorem dX3_canIssue_59 : decode cX3_canIssue 59 = .ok (.invokestatic 105, 3) := by decide +kernel
theorem dX3_canIssue_62 : decode cX3_canIssue 62 = .ok (.ifCond .eq 28, 3) := by decide +kernel
theorem dX3_canIssue_65 : decode cX3_canIssue 65 = .ok (.aload_n 0, 1) := by decide +kernel
theorem dX3_canIssue_66 : decode cX3_canIssue 66 = .ok (.getfield 32, 3) := by decide +kernel
theorem dX3_canIssue_69 : decode cX3_canIssue 69 = .ok (.iload 4, 2) := by decide +kernel
theorem dX3_canIssue_71 : decode cX3_canIssue 71 = .ok (.iaload, 1) := by decide +kernel
theorem dX3_canIssue_72 : decode cX3_canIssue 72 = .ok (.ifCond .eq 18, 3) := by decide +kernel
theorem dX3_canIssue_75 : decode cX3_canIssue 75 = .ok (.aload_n 0, 1) := by decide +kernel
theorem dX3_canIssue_76 : decode cX3_canIssue 76 = .ok (.getfield 32, 3) := by decide +kernel
theorem dX3_canIssue_79 : decode cX3_canIssue 79 = .ok (.iload 4, 2) := by decide +kernel
theorem dX3_canIssue_81 : decode cX3_canIssue 81 = .ok (.iaload, 1) := by decide +kernel
theorem dX3_canIssue_82 : decode cX3_canIssue 82 = .ok (.iload_n 1, 1) := by decide +kernel
theorem dX3_canIssue_83 : decode cX3_canIssue 83 = .ok (.ishr, 1) := by decide +kernel
theorem dX3_canIssue_84 : decode cX3_canIssue 84 = .ok (.iconst 1, 1) := by decide +kernel
theorem dX3_canIssue_85 : decode cX3_canIssue 85 = .ok (.iand, 1) := by decide +kernel
theorem dX3_canIssue_86 : decode cX3_canIssue 86 = .ok (.iconst 1, 1) := by decide +kernel
theorem dX3_canIssue_87 : decode cX3_canIssue 87 = .ok (.if_icmp .ne 7, 3) := by decide +kernel
theorem dX3_canIssue_90 : decode cX3_canIssue 90 = .ok (.iconst 1, 1) := by decide +kernel
theorem dX3_canIssue_91 : decode cX3_canIssue 91 = .ok (.goto 4, 3) := by decide +kernel
theorem dX3_canIssue_94 : decode cX3_canIssue 94 = .ok (.iconst 0, 1) := by decide +kernel
theorem dX3_canIssue_95 : decode cX3_canIssue 95 = .ok (.istore_n 3, 1) := by decide +kernel
theorem dX3_canIssue_96 : decode cX3_canIssue 96 = .ok (.iinc 4 1, 3) := by decide +kernel
theorem dX3_canIssue_99 : decode cX3_canIssue 99 = .ok (.goto (-54), 3) := by decide +kernel
theorem dX3_canIssue_102 : decode cX3_canIssue 102 = .ok (.iload_n 3, 1) := by decide +kernel
theorem dX3_canIssue_103 : decode cX3_canIssue 103 = .ok (.ireturn, 1) := by decide +kernel
theorem dX3_makes_0 : decode cX3_makes 0 = .ok (.aload_n 0, 1) := by decide +kernel
theorem dX3_makes_1 : decode cX3_makes 1 = .ok (.aload_n 0, 1) := by decide +kernel
theorem dX3_makes_2 : decode cX3_makes 2 = .ok (.getfield 7, 3) := by decide +kernel
theorem dX3_makes_5 : decode cX3_makes 5 = .ok (.ldc 109, 2) := by decide +kernel
theorem dX3_makes_7 : decode cX3_makes 7 = .ok (.imul, 1) := by decide +kernel
theorem dX3_makes_8 : decode cX3_makes 8 = .ok (.sipush 12345, 3) := by decide +kernel
theorem dX3_makes_11 : decode cX3_makes 11 = .ok (.iadd, 1) := by decide +kernel
theorem dX3_makes_12 : decode cX3_makes 12 = .ok (.putfield 7, 3) := by decide +kernel
theorem dX3_makes_15 : decode cX3_makes 15 = .ok (.aload_n 0, 1) := by decide +kernel
theorem dX3_makes_16 : decode cX3_makes 16 = .ok (.getfield 45, 3) := by decide +kernel
theorem dX3_makes_19 : decode cX3_makes 19 = .ok (.aload_n 0, 1) := by decide +kernel
theorem dX3_makes_20 : decode cX3_makes 20 = .ok (.getfield 76, 3) := by decide +kernel
theorem dX3_makes_23 : decode cX3_makes 23 = .ok (.iload_n 2, 1) := by decide +kernel
theorem dX3_makes_24 : decode cX3_makes 24 = .ok (.iastore, 1) := by decide +kernel
theorem dX3_makes_25 : decode cX3_makes 25 = .ok (.aload_n 0, 1) := by decide +kernel
theorem dX3_makes_26 : decode cX3_makes 26 = .ok (.getfield 48, 3) := by decide +kernel
theorem dX3_makes_29 : decode cX3_makes 29 = .ok (.aload_n 0, 1) := by decide +kernel
theorem dX3_makes_30 : decode cX3_makes 30 = .ok (.getfield 76, 3) := by decide +kernel
theorem dX3_makes_33 : decode cX3_makes 33 = .ok (.iload_n 1, 1) := by decide +kernel
theorem dX3_makes_34 : decode cX3_makes 34 = .ok (.iastore, 1) := by decide +kernel
theorem dX3_makes_35 : decode cX3_makes 35 = .ok (.aload_n 0, 1) := by decide +kernel
theorem dX3_makes_36 : decode cX3_makes 36 = .ok (.getfield 51, 3) := by decide +kernel
theorem dX3_makes_39 : decode cX3_makes 39 = .ok (.aload_n 0, 1) := by decide +kernel
theorem dX3_makes_40 : decode cX3_makes 40 = .ok (.getfield 76, 3) := by decide +kernel
theorem dX3_makes_43 : decode cX3_makes 43 = .ok (.aload_n 0, 1) := by decide +kernel
theorem dX3_makes_44 : decode cX3_makes 44 = .ok (.getfield 96, 3) := by decide +kernel
theorem dX3_makes_47 : decode cX3_makes 47 = .ok (.iastore, 1) := by decide +kernel
theorem dX3_makes_48 : decode cX3_makes 48 = .ok (.aload_n 0, 1) := by decide +kernel
theorem dX3_makes_49 : decode cX3_makes 49 = .ok (.getfield 54, 3) := by decide +kernel
theorem dX3_makes_52 : decode cX3_makes 52 = .ok (.aload_n 0, 1) := by decide +kernel
theorem dX3_makes_53 : decode cX3_makes 53 = .ok (.getfield 76, 3) := by decide +kernel
theorem dX3_makes_56 : decode cX3_makes 56 = .ok (.iload_n 3, 1) := by decide +kernel
theorem dX3_makes_57 : decode cX3_makes 57 = .ok (.iastore, 1) := by decide +kernel
theorem dX3_makes_58 : decode cX3_makes 58 = .ok (.aload_n 0, 1) := by decide +kernel
theorem dX3_makes_59 : decode cX3_makes 59 = .ok (.getfield 57, 3) := by decide +kernel
theorem dX3_makes_62 : decode cX3_makes 62 = .ok (.aload_n 0, 1) := by decide +kernel
theorem dX3_makes_63 : decode cX3_makes 63 = .ok (.getfield 76, 3) := by decide +kernel
theorem dX3_makes_66 : decode cX3_makes 66 = .ok (.aload_n 0, 1) := by decide +kernel
theorem dX3_makes_67 : decode cX3_makes 67 = .ok (.getfield 7, 3) := by decide +kernel
theorem dX3_makes_70 : decode cX3_makes 70 = .ok (.bipush 16, 2) := by decide +kernel
theorem dX3_makes_72 : decode cX3_makes 72 = .ok (.iushr, 1) := by decide +kernel
theorem dX3_makes_73 : decode cX3_makes 73 = .ok (.iload_n 3, 1) := by decide +kernel
theorem dX3_makes_74 : decode cX3_makes 74 = .ok (.bipush 6, 2) := by decide +kernel
theorem dX3_makes_76 : decode cX3_makes 76 = .ok (.idiv, 1) := by decide +kernel
theorem dX3_makes_77 : decode cX3_makes 77 = .ok (.iconst 1, 1) := by decide +kernel
theorem dX3_makes_78 : decode cX3_makes 78 = .ok (.iadd, 1) := by decide +kernel
theorem dX3_makes_79 : decode cX3_makes 79 = .ok (.irem, 1) := by decide +kernel
theorem dX3_makes_80 : decode cX3_makes 80 = .ok (.iastore, 1) := by decide +kernel
theorem dX3_makes_81 : decode cX3_makes 81 = .ok (.aload_n 0, 1) := by decide +kernel
theorem dX3_makes_82 : decode cX3_makes 82 = .ok (.getfield 60, 3) := by decide +kernel
theorem dX3_makes_85 : decode cX3_makes 85 = .ok (.aload_n 0, 1) := by decide +kernel
theorem dX3_makes_86 : decode cX3_makes 86 = .ok (.getfield 76, 3) := by decide +kernel
theorem dX3_makes_89 : decode cX3_makes 89 = .ok (.iconst (-1), 1) := by decide +kernel
theorem dX3_makes_90 : decode cX3_makes 90 = .ok (.iastore, 1) := by decide +kernel
theorem dX3_makes_91 : decode cX3_makes 91 = .ok (.aload_n 0, 1) := by decide +kernel
theorem dX3_makes_92 : decode cX3_makes 92 = .ok (.dup, 1) := by decide +kernel
theorem dX3_makes_93 : decode cX3_makes 93 = .ok (.getfield 76, 3) := by decide +kernel
theorem dX3_makes_96 : decode cX3_makes 96 = .ok (.iconst 1, 1) := by decide +kernel
theorem dX3_makes_97 : decode cX3_makes 97 = .ok (.iadd, 1) := by decide +kernel
theorem dX3_makes_98 : decode cX3_makes 98 = .ok (.putfield 76, 3) := by decide +kernel
theorem dX3_makes_101 : decode cX3_makes 101 = .ok (.aload_n 0, 1) := by decide +kernel
theorem dX3_makes_102 : decode cX3_makes 102 = .ok (.getfield 76, 3) := by decide +kernel
theorem dX3_makes_105 : decode cX3_makes 105 = .ok (.iconst 1, 1) := by decide +kernel
theorem dX3_makes_106 : decode cX3_makes 106 = .ok (.isub, 1) := by decide +kernel
theorem dX3_makes_107 : decode cX3_makes 107 = .ok (.ireturn, 1) := by decide +kernel
set_option maxRecDepth 20000 in
theorem ggX3_issue_X3_isIssuer : GoodIn wsX3_issue wsX3_isIssuer := goodIn_r _ [6, 7, 8, 9, 5, 10, 48, 49, 50, 51, 52, 53, 54, 55, 56, 57, 58, 59, 60, 61, 62, 63, 64, 65, 66, 67, 68, 69] (by decide +kernel) (by decide +kernel)
set_option maxRecDepth 20000 in
theorem gX3_issue_X3_isIssuer : GoodIn wsX3_issue (wsV RX3 79 RX3 yX3_isIssuer wsX3_isIssuer) := goodIn_app (goodIn_of _ (by decide +kernel)) ggX3_issue_X3_isIssuer
set_option maxRecDepth 20000 in
theorem ggX3_issue_X3_in : GoodIn wsX3_issue wsX3_in := goodIn_r _ [10] (by decide +kernel) (by decide +kernel)
set_option maxRecDepth 20000 in
theorem gX3_issue_X3_in : GoodIn wsX3_issue (va_wsS RX3 72 yX3_in wsX3_in) := goodIn_app (goodIn_of _ (by decide +kernel)) ggX3_issue_X3_in
set_option maxRecDepth 20000 in
theorem ggX3_issue_X3_canIssue : GoodIn wsX3_issue wsX3_canIssue := goodIn_r _ [14, 15, 16, 17, 18, 19, 20, 21, 5, 22, 23, 24, 25, 26, 27, 28, 8, 9, 10, 29, 30, 31, 32, 33, 34, 35, 36, 37, 48, 49, 50, 51, 52, 53, 54, 55, 56, 57, 58, 59, 60, 61, 62, 63, 64, 65, 66, 67, 68, 69] (by decide +kernel) (by decide +kernel)
set_option maxRecDepth 20000 in
theorem gX3_issue_X3_canIssue : GoodIn wsX3_issue (wsV RX3 110 RX3 yX3_canIssue wsX3_canIssue) := goodIn_app (goodIn_of _ (by decide +kernel)) ggX3_issue_X3_canIssue
set_option maxRecDepth 20000 in
theorem ggX3_issue_X3_makes : GoodIn wsX3_issue wsX3_makes := goodIn_r _ [41, 42, 43, 44, 17, 33, 34, 15, 45, 46, 47, 48, 49, 50, 51, 52, 53, 54, 55, 56, 57, 58, 59, 60, 61, 62, 63, 64, 65, 66, 67, 68, 69] (by decide +kernel) (by decide +kernel)
set_option maxRecDepth 20000 in
theorem gX3_issue_X3_makes : GoodIn wsX3_issue (wsV RX3 113 RX3 yX3_makes wsX3_makes) := goodIn_app (goodIn_of _ (by decide +kernel)) ggX3_issue_X3_makes
theorem dX3_issue_0 : decode cX3_issue 0 = .ok (.aload_n 0, 1) := by decide +kernel
theorem dX3_issue_1 : decode cX3_issue 1 = .ok (.aload_n 0, 1) := by decide +kernel
theorem dX3_issue_2 : decode cX3_issue 2 = .ok (.iload_n 1, 1) := by decide +kernel
theorem dX3_issue_3 : decode cX3_issue 3 = .ok (.invokevirtual 79, 3) := by decide +kernel
theorem dX3_issue_6 : decode cX3_issue 6 = .ok (.ifCond .ne 7, 3) := by decide +kernel
theorem dX3_issue_9 : decode cX3_issue 9 = .ok (.iconst 1, 1) := by decide +kernel
theorem dX3_issue_10 : decode cX3_issue 10 = .ok (.goto 42, 3) := by decide +kernel
theorem dX3_issue_13 : decode cX3_issue 13 = .ok (.iload_n 2, 1) := by decide +kernel
theorem dX3_issue_14 : decode cX3_issue 14 = .ok (.iconst 0, 1) := by decide +kernel
theorem dX3_issue_15 : decode cX3_issue 15 = .ok (.bipush 19, 2) := by decide +kernel
theorem dX3_issue_17 : decode cX3_issue 17 = .ok (.invokestatic 72, 3) := by decide +kernel
theorem dX3_issue_20 : decode cX3_issue 20 = .ok (.ifCond .eq 14, 3) := by decide +kernel
theorem dX3_issue_23 : decode cX3_issue 23 = .ok (.iload_n 3, 1) := by decide +kernel
theorem dX3_issue_24 : decode cX3_issue 24 = .ok (.iconst 1, 1) := by decide +kernel
theorem dX3_issue_25 : decode cX3_issue 25 = .ok (.sipush 400, 3) := by decide +kernel
theorem dX3_issue_28 : decode cX3_issue 28 = .ok (.invokestatic 72, 3) := by decide +kernel
theorem dX3_issue_31 : decode cX3_issue 31 = .ok (.ifCond .ne 7, 3) := by decide +kernel
theorem dX3_issue_34 : decode cX3_issue 34 = .ok (.iconst 2, 1) := by decide +kernel
theorem dX3_issue_35 : decode cX3_issue 35 = .ok (.goto 17, 3) := by decide +kernel
theorem dX3_issue_38 : decode cX3_issue 38 = .ok (.aload_n 0, 1) := by decide +kernel
theorem dX3_issue_39 : decode cX3_issue 39 = .ok (.iload_n 1, 1) := by decide +kernel
theorem dX3_issue_40 : decode cX3_issue 40 = .ok (.iload_n 2, 1) := by decide +kernel
theorem dX3_issue_41 : decode cX3_issue 41 = .ok (.invokevirtual 110, 3) := by decide +kernel
theorem dX3_issue_44 : decode cX3_issue 44 = .ok (.ifCond .eq 7, 3) := by decide +kernel
theorem dX3_issue_47 : decode cX3_issue 47 = .ok (.iconst 0, 1) := by decide +kernel
theorem dX3_issue_48 : decode cX3_issue 48 = .ok (.goto 4, 3) := by decide +kernel
theorem dX3_issue_51 : decode cX3_issue 51 = .ok (.iconst 3, 1) := by decide +kernel
theorem dX3_issue_52 : decode cX3_issue 52 = .ok (.putfield 66, 3) := by decide +kernel
theorem dX3_issue_55 : decode cX3_issue 55 = .ok (.aload_n 0, 1) := by decide +kernel
theorem dX3_issue_56 : decode cX3_issue 56 = .ok (.getfield 66, 3) := by decide +kernel
theorem dX3_issue_59 : decode cX3_issue 59 = .ok (.ifCond .le 7, 3) := by decide +kernel
theorem dX3_issue_62 : decode cX3_issue 62 = .ok (.iconst 0, 1) := by decide +kernel
theorem dX3_issue_63 : decode cX3_issue 63 = .ok (.goto 10, 3) := by decide +kernel
theorem dX3_issue_66 : decode cX3_issue 66 = .ok (.aload_n 0, 1) := by decide +kernel
theorem dX3_issue_67 : decode cX3_issue 67 = .ok (.iload_n 1, 1) := by decide +kernel
theorem dX3_issue_68 : decode cX3_issue 68 = .ok (.iload_n 2, 1) := by decide +kernel
theorem dX3_issue_69 : decode cX3_issue 69 = .ok (.iload_n 3, 1) := by decide +kernel
theorem dX3_issue_70 : decode cX3_issue 70 = .ok (.invokevirtual 113, 3) := by decide +kernel
theorem dX3_issue_73 : decode cX3_issue 73 = .ok (.ireturn, 1) := by decide +kernel
theorem dX3_last_0 : decode cX3_last 0 = .ok (.aload_n 0, 1) := by decide +kernel
theorem dX3_last_1 : decode cX3_last 1 = .ok (.getfield 51, 3) := by decide +kernel
theorem dX3_last_4 : decode cX3_last 4 = .ok (.iload_n 1, 1) := by decide +kernel
theorem dX3_last_5 : decode cX3_last 5 = .ok (.iaload, 1) := by decide +kernel
theorem dX3_last_6 : decode cX3_last 6 = .ok (.aload_n 0, 1) := by decide +kernel
theorem dX3_last_7 : decode cX3_last 7 = .ok (.getfield 54, 3) := by decide +kernel
theorem dX3_last_10 : decode cX3_last 10 = .ok (.iload_n 1, 1) := by decide +kernel
theorem dX3_last_11 : decode cX3_last 11 = .ok (.iaload, 1) := by decide +kernel
theorem dX3_last_12 : decode cX3_last 12 = .ok (.iadd, 1) := by decide +kernel
theorem dX3_last_13 : decode cX3_last 13 = .ok (.iconst 1, 1) := by decide +kernel
theorem dX3_last_14 : decode cX3_last 14 = .ok (.isub, 1) := by decide +kernel
theorem dX3_last_15 : decode cX3_last 15 = .ok (.ireturn, 1) := by decide +kernel
theorem dX3_due_0 : decode cX3_due 0 = .ok (.aload_n 0, 1) := by decide +kernel
theorem dX3_due_1 : decode cX3_due 1 = .ok (.getfield 51, 3) := by decide +kernel
theorem dX3_due_4 : decode cX3_due 4 = .ok (.iload_n 1, 1) := by decide +kernel
theorem dX3_due_5 : decode cX3_due 5 = .ok (.iaload, 1) := by decide +kernel
theorem dX3_due_6 : decode cX3_due 6 = .ok (.iconst 2, 1) := by decide +kernel
theorem dX3_due_7 : decode cX3_due 7 = .ok (.aload_n 0, 1) := by decide +kernel
theorem dX3_due_8 : decode cX3_due 8 = .ok (.getfield 54, 3) := by decide +kernel
theorem dX3_due_11 : decode cX3_due 11 = .ok (.iload_n 1, 1) := by decide +kernel
theorem dX3_due_12 : decode cX3_due 12 = .ok (.iaload, 1) := by decide +kernel
theorem dX3_due_13 : decode cX3_due 13 = .ok (.imul, 1) := by decide +kernel
theorem dX3_due_14 : decode cX3_due 14 = .ok (.iconst 3, 1) := by decide +kernel
theorem dX3_due_15 : decode cX3_due 15 = .ok (.idiv, 1) := by decide +kernel
theorem dX3_due_16 : decode cX3_due 16 = .ok (.iadd, 1) := by decide +kernel
theorem dX3_due_17 : decode cX3_due 17 = .ok (.aload_n 0, 1) := by decide +kernel
theorem dX3_due_18 : decode cX3_due 18 = .ok (.getfield 57, 3) := by decide +kernel
theorem dX3_due_21 : decode cX3_due 21 = .ok (.iload_n 1, 1) := by decide +kernel
theorem dX3_due_22 : decode cX3_due 22 = .ok (.iaload, 1) := by decide +kernel
theorem dX3_due_23 : decode cX3_due 23 = .ok (.iadd, 1) := by decide +kernel
theorem dX3_due_24 : decode cX3_due 24 = .ok (.ireturn, 1) := by decide +kernel
set_option maxRecDepth 20000 in
theorem ggX3_waits_X3_due : GoodIn wsX3_waits wsX3_due := goodIn_r _ [7, 8, 9, 10, 15, 16, 17, 18, 19, 20, 21, 22, 23, 24, 25, 26, 27, 28, 29, 30, 31, 32, 33, 34, 35, 36] (by decide +kernel) (by decide +kernel)
set_option maxRecDepth 20000 in
theorem gX3_waits_X3_due : GoodIn wsX3_waits (wsV RX3 117 RX3 yX3_due wsX3_due) := goodIn_app (goodIn_of _ (by decide +kernel)) ggX3_waits_X3_due
set_option maxRecDepth 20000 in
theorem ggX3_waits_X3_last : GoodIn wsX3_waits wsX3_last := goodIn_r _ [14, 8, 9, 15, 16, 17, 18, 19, 20, 21, 22, 23, 24, 25, 26, 27, 28, 29, 30, 31, 32, 33, 34, 35, 36] (by decide +kernel) (by decide +kernel)
set_option maxRecDepth 20000 in
theorem gX3_waits_X3_last : GoodIn wsX3_waits (wsV RX3 120 RX3 yX3_last wsX3_last) := goodIn_app (goodIn_of _ (by decide +kernel)) ggX3_waits_X3_last
theorem dX3_waits_0 : decode cX3_waits 0 = .ok (.aload_n 0, 1) := by decide +kernel
theorem dX3_waits_1 : decode cX3_waits 1 = .ok (.iload_n 1, 1) := by decide +kernel
theorem dX3_waits_2 : decode cX3_waits 2 = .ok (.invokevirtual 117, 3) := by decide +kernel
theorem dX3_waits_5 : decode cX3_waits 5 = .ok (.aload_n 0, 1) := by decide +kernel
theorem dX3_waits_6 : decode cX3_waits 6 = .ok (.getfield 96, 3) := by decide +kernel
theorem dX3_waits_9 : decode cX3_waits 9 = .ok (.if_icmp .gt 29, 3) := by decide +kernel
theorem dX3_waits_12 : decode cX3_waits 12 = .ok (.aload_n 0, 1) := by decide +kernel
theorem dX3_waits_13 : decode cX3_waits 13 = .ok (.getfield 60, 3) := by decide +kernel
theorem dX3_waits_16 : decode cX3_waits 16 = .ok (.iload_n 1, 1) := by decide +kernel
theorem dX3_waits_17 : decode cX3_waits 17 = .ok (.iaload, 1) := by decide +kernel
theorem dX3_waits_18 : decode cX3_waits 18 = .ok (.iconst (-1), 1) := by decide +kernel
theorem dX3_waits_19 : decode cX3_waits 19 = .ok (.if_icmp .ne 19, 3) := by decide +kernel
theorem dX3_waits_22 : decode cX3_waits 22 = .ok (.aload_n 0, 1) := by decide +kernel
theorem dX3_waits_23 : decode cX3_waits 23 = .ok (.iload_n 1, 1) := by decide +kernel
theorem dX3_waits_24 : decode cX3_waits 24 = .ok (.invokevirtual 120, 3) := by decide +kernel
theorem dX3_waits_27 : decode cX3_waits 27 = .ok (.aload_n 0, 1) := by decide +kernel
theorem dX3_waits_28 : decode cX3_waits 28 = .ok (.getfield 96, 3) := by decide +kernel
theorem dX3_waits_31 : decode cX3_waits 31 = .ok (.if_icmp .lt 7, 3) := by decide +kernel
theorem dX3_waits_34 : decode cX3_waits 34 = .ok (.iconst 1, 1) := by decide +kernel
theorem dX3_waits_35 : decode cX3_waits 35 = .ok (.goto 4, 3) := by decide +kernel
theorem dX3_waits_38 : decode cX3_waits 38 = .ok (.iconst 0, 1) := by decide +kernel
theorem dX3_waits_39 : decode cX3_waits 39 = .ok (.ireturn, 1) := by decide +kernel
set_option maxRecDepth 20000 in
theorem ggX3_nextWaiting_X3_waits : GoodIn wsX3_nextWaiting wsX3_waits := goodIn_r _ [6, 7, 8, 9, 10, 11, 5, 12, 13, 14, 15, 16, 17, 18, 19, 20, 21, 22, 23, 24, 25, 26, 27, 28, 29, 30, 31, 32, 33, 34, 35, 36, 37, 38, 39, 40, 41] (by decide +kernel) (by decide +kernel)
set_option maxRecDepth 20000 in
theorem gX3_nextWaiting_X3_waits : GoodIn wsX3_nextWaiting (wsV RX3 123 RX3 yX3_waits wsX3_waits) := goodIn_app (goodIn_of _ (by decide +kernel)) ggX3_nextWaiting_X3_waits
set_option maxRecDepth 20000 in
theorem ggX3_nextWaiting_X3_last : GoodIn wsX3_nextWaiting wsX3_last := goodIn_r _ [19, 13, 14, 20, 21, 22, 23, 24, 25, 26, 27, 28, 29, 30, 31, 32, 33, 34, 35, 36, 37, 38, 39, 40, 41] (by decide +kernel) (by decide +kernel)
set_option maxRecDepth 20000 in
theorem gX3_nextWaiting_X3_last : GoodIn wsX3_nextWaiting (wsV RX3 120 RX3 yX3_last wsX3_last) := goodIn_app (goodIn_of _ (by decide +kernel)) ggX3_nextWaiting_X3_last
theorem dX3_nextWaiting_0 : decode cX3_nextWaiting 0 = .ok (.iconst (-1), 1) := by decide +kernel
theorem dX3_nextWaiting_1 : decode cX3_nextWaiting 1 = .ok (.istore_n 2, 1) := by decide +kernel
theorem dX3_nextWaiting_2 : decode cX3_nextWaiting 2 = .ok (.iconst 0, 1) := by decide +kernel
theorem dX3_nextWaiting_3 : decode cX3_nextWaiting 3 = .ok (.istore_n 3, 1) := by decide +kernel
theorem dX3_nextWaiting_4 : decode cX3_nextWaiting 4 = .ok (.iload_n 3, 1) := by decide +kernel
theorem dX3_nextWaiting_5 : decode cX3_nextWaiting 5 = .ok (.iload_n 1, 1) := by decide +kernel
theorem dX3_nextWaiting_6 : decode cX3_nextWaiting 6 = .ok (.if_icmp .ge 50, 3) := by decide +kernel
theorem dX3_nextWaiting_9 : decode cX3_nextWaiting 9 = .ok (.aload_n 0, 1) := by decide +kernel
theorem dX3_nextWaiting_10 : decode cX3_nextWaiting 10 = .ok (.iload_n 3, 1) := by decide +kernel
theorem dX3_nextWaiting_11 : decode cX3_nextWaiting 11 = .ok (.invokevirtual 123, 3) := by decide +kernel
theorem dX3_nextWaiting_14 : decode cX3_nextWaiting 14 = .ok (.ifCond .eq 34, 3) := by decide +kernel
theorem dX3_nextWaiting_17 : decode cX3_nextWaiting 17 = .ok (.aload_n 0, 1) := by decide +kernel
theorem dX3_nextWaiting_18 : decode cX3_nextWaiting 18 = .ok (.getfield 63, 3) := by decide +kernel
theorem dX3_nextWaiting_21 : decode cX3_nextWaiting 21 = .ok (.iload_n 3, 1) := by decide +kernel
theorem dX3_nextWaiting_22 : decode cX3_nextWaiting 22 = .ok (.baload, 1) := by decide +kernel
theorem dX3_nextWaiting_23 : decode cX3_nextWaiting 23 = .ok (.ifCond .ne 25, 3) := by decide +kernel
theorem dX3_nextWaiting_26 : decode cX3_nextWaiting 26 = .ok (.iload_n 2, 1) := by decide +kernel
theorem dX3_nextWaiting_27 : decode cX3_nextWaiting 27 = .ok (.iconst (-1), 1) := by decide +kernel
theorem dX3_nextWaiting_28 : decode cX3_nextWaiting 28 = .ok (.if_icmp .eq 16, 3) := by decide +kernel
theorem dX3_nextWaiting_31 : decode cX3_nextWaiting 31 = .ok (.aload_n 0, 1) := by decide +kernel
theorem dX3_nextWaiting_32 : decode cX3_nextWaiting 32 = .ok (.iload_n 3, 1) := by decide +kernel
theorem dX3_nextWaiting_33 : decode cX3_nextWaiting 33 = .ok (.invokevirtual 120, 3) := by decide +kernel
theorem dX3_nextWaiting_36 : decode cX3_nextWaiting 36 = .ok (.aload_n 0, 1) := by decide +kernel
theorem dX3_nextWaiting_37 : decode cX3_nextWaiting 37 = .ok (.iload_n 2, 1) := by decide +kernel
theorem dX3_nextWaiting_38 : decode cX3_nextWaiting 38 = .ok (.invokevirtual 120, 3) := by decide +kernel
theorem dX3_nextWaiting_41 : decode cX3_nextWaiting 41 = .ok (.if_icmp .ge 7, 3) := by decide +kernel
theorem dX3_nextWaiting_44 : decode cX3_nextWaiting 44 = .ok (.iload_n 3, 1) := by decide +kernel
theorem dX3_nextWaiting_45 : decode cX3_nextWaiting 45 = .ok (.goto 4, 3) := by decide +kernel
theorem dX3_nextWaiting_48 : decode cX3_nextWaiting 48 = .ok (.iload_n 2, 1) := by decide +kernel
theorem dX3_nextWaiting_49 : decode cX3_nextWaiting 49 = .ok (.istore_n 2, 1) := by decide +kernel
theorem dX3_nextWaiting_50 : decode cX3_nextWaiting 50 = .ok (.iinc 3 1, 3) := by decide +kernel
theorem dX3_nextWaiting_53 : decode cX3_nextWaiting 53 = .ok (.goto (-49), 3) := by decide +kernel
theorem dX3_nextWaiting_56 : decode cX3_nextWaiting 56 = .ok (.iload_n 2, 1) := by decide +kernel
theorem dX3_nextWaiting_57 : decode cX3_nextWaiting 57 = .ok (.ireturn, 1) := by decide +kernel
theorem dX3_sees_0 : decode cX3_sees 0 = .ok (.iconst 0, 1) := by decide +kernel
theorem dX3_sees_1 : decode cX3_sees 1 = .ok (.istore_n 2, 1) := by decide +kernel
theorem dX3_sees_2 : decode cX3_sees 2 = .ok (.iload_n 2, 1) := by decide +kernel
theorem dX3_sees_3 : decode cX3_sees 3 = .ok (.bipush 60, 2) := by decide +kernel
theorem dX3_sees_5 : decode cX3_sees 5 = .ok (.if_icmp .ge 16, 3) := by decide +kernel
theorem dX3_sees_8 : decode cX3_sees 8 = .ok (.aload_n 0, 1) := by decide +kernel
theorem dX3_sees_9 : decode cX3_sees 9 = .ok (.getfield 63, 3) := by decide +kernel
theorem dX3_sees_12 : decode cX3_sees 12 = .ok (.iload_n 2, 1) := by decide +kernel
theorem dX3_sees_13 : decode cX3_sees 13 = .ok (.iload_n 1, 1) := by decide +kernel
theorem dX3_sees_14 : decode cX3_sees 14 = .ok (.bastore, 1) := by decide +kernel
theorem dX3_sees_15 : decode cX3_sees 15 = .ok (.iinc 2 1, 3) := by decide +kernel
theorem dX3_sees_18 : decode cX3_sees 18 = .ok (.goto (-16), 3) := by decide +kernel
theorem dX3_sees_21 : decode cX3_sees 21 = .ok (.return_, 1) := by decide +kernel
set_option maxRecDepth 20000 in
theorem ggX3_day_X3_sees : GoodIn wsX3_day wsX3_sees := goodIn_r _ [12, 3, 63, 64, 65, 66, 67, 68, 69, 70, 71, 72, 73, 74, 75, 76, 77, 78, 79, 80, 81, 82, 83, 84] (by decide +kernel) (by decide +kernel)
set_option maxRecDepth 20000 in
theorem gX3_day_X3_sees : GoodIn wsX3_day (wsV RX3 126 RX3 yX3_sees wsX3_sees) := goodIn_app (goodIn_of _ (by decide +kernel)) ggX3_day_X3_sees
set_option maxRecDepth 20000 in
theorem ggX3_day_X3_nextWaiting : GoodIn wsX3_day wsX3_nextWaiting := goodIn_r _ [16, 3, 17, 18, 19, 11, 20, 2, 6, 21, 22, 23, 24, 25, 7, 26, 27, 28, 29, 30, 63, 64, 65, 66, 67, 68, 69, 70, 71, 72, 73, 74, 75, 76, 77, 78, 79, 80, 81, 82, 83, 84] (by decide +kernel) (by decide +kernel)
set_option maxRecDepth 20000 in
theorem gX3_day_X3_nextWaiting : GoodIn wsX3_day (wsV RX3 130 RX3 yX3_nextWaiting wsX3_nextWaiting) := goodIn_app (goodIn_of _ (by decide +kernel)) ggX3_day_X3_nextWaiting
set_option maxRecDepth 20000 in
theorem ggX3_day_X3_canIssue : GoodIn wsX3_day wsX3_canIssue := goodIn_r _ [34, 2, 35, 1, 36, 37, 38, 39, 11, 40, 41, 42, 43, 44, 45, 46, 47, 48, 49, 50, 51, 52, 53, 4, 25, 54, 55, 56, 63, 64, 65, 66, 67, 68, 69, 70, 71, 72, 73, 74, 75, 76, 77, 78, 79, 80, 81, 82, 83, 84] (by decide +kernel) (by decide +kernel)
set_option maxRecDepth 20000 in
theorem gX3_day_X3_canIssue : GoodIn wsX3_day (wsV RX3 110 RX3 yX3_canIssue wsX3_canIssue) := goodIn_app (goodIn_of _ (by decide +kernel)) ggX3_day_X3_canIssue
set_option maxRecDepth 20000 in
theorem ggX3_day_X3_makes : GoodIn wsX3_day wsX3_makes := goodIn_r _ [60, 61, 62, 5, 1, 4, 25, 2, 7, 26, 6, 63, 64, 65, 66, 67, 68, 69, 70, 71, 72, 73, 74, 75, 76, 77, 78, 79, 80, 81, 82, 83, 84] (by decide +kernel) (by decide +kernel)
set_option maxRecDepth 20000 in
theorem gX3_day_X3_makes : GoodIn wsX3_day (wsV RX3 113 RX3 yX3_makes wsX3_makes) := goodIn_app (goodIn_of _ (by decide +kernel)) ggX3_day_X3_makes
theorem dX3_day_0 : decode cX3_day 0 = .ok (.iconst 0, 1) := by decide +kernel
theorem dX3_day_1 : decode cX3_day 1 = .ok (.istore_n 1, 1) := by decide +kernel
theorem dX3_day_2 : decode cX3_day 2 = .ok (.aload_n 0, 1) := by decide +kernel
theorem dX3_day_3 : decode cX3_day 3 = .ok (.getfield 76, 3) := by decide +kernel
theorem dX3_day_6 : decode cX3_day 6 = .ok (.istore_n 2, 1) := by decide +kernel
theorem dX3_day_7 : decode cX3_day 7 = .ok (.aload_n 0, 1) := by decide +kernel
theorem dX3_day_8 : decode cX3_day 8 = .ok (.dup, 1) := by decide +kernel
theorem dX3_day_9 : decode cX3_day 9 = .ok (.getfield 96, 3) := by decide +kernel
theorem dX3_day_12 : decode cX3_day 12 = .ok (.iconst 1, 1) := by decide +kernel
theorem dX3_day_13 : decode cX3_day 13 = .ok (.iadd, 1) := by decide +kernel
theorem dX3_day_14 : decode cX3_day 14 = .ok (.putfield 96, 3) := by decide +kernel
theorem dX3_day_17 : decode cX3_day 17 = .ok (.aload_n 0, 1) := by decide +kernel
theorem dX3_day_18 : decode cX3_day 18 = .ok (.iconst 0, 1) := by decide +kernel
theorem dX3_day_19 : decode cX3_day 19 = .ok (.invokevirtual 126, 3) := by decide +kernel
theorem dX3_day_22 : decode cX3_day 22 = .ok (.aload_n 0, 1) := by decide +kernel
theorem dX3_day_23 : decode cX3_day 23 = .ok (.iload_n 2, 1) := by decide +kernel
theorem dX3_day_24 : decode cX3_day 24 = .ok (.invokevirtual 130, 3) := by decide +kernel
theorem dX3_day_27 : decode cX3_day 27 = .ok (.istore_n 3, 1) := by decide +kernel
theorem dX3_day_28 : decode cX3_day 28 = .ok (.iload_n 3, 1) := by decide +kernel
theorem dX3_day_29 : decode cX3_day 29 = .ok (.iconst (-1), 1) := by decide +kernel
theorem dX3_day_30 : decode cX3_day 30 = .ok (.if_icmp .eq 69, 3) := by decide +kernel
theorem dX3_day_33 : decode cX3_day 33 = .ok (.aload_n 0, 1) := by decide +kernel
theorem dX3_day_34 : decode cX3_day 34 = .ok (.getfield 63, 3) := by decide +kernel
theorem dX3_day_37 : decode cX3_day 37 = .ok (.iload_n 3, 1) := by decide +kernel
theorem dX3_day_38 : decode cX3_day 38 = .ok (.iconst 1, 1) := by decide +kernel
theorem dX3_day_39 : decode cX3_day 39 = .ok (.bastore, 1) := by decide +kernel
theorem dX3_day_40 : decode cX3_day 40 = .ok (.aload_n 0, 1) := by decide +kernel
theorem dX3_day_41 : decode cX3_day 41 = .ok (.aload_n 0, 1) := by decide +kernel
theorem dX3_day_42 : decode cX3_day 42 = .ok (.getfield 48, 3) := by decide +kernel
theorem dX3_day_45 : decode cX3_day 45 = .ok (.iload_n 3, 1) := by decide +kernel
theorem dX3_day_46 : decode cX3_day 46 = .ok (.iaload, 1) := by decide +kernel
theorem dX3_day_47 : decode cX3_day 47 = .ok (.aload_n 0, 1) := by decide +kernel
theorem dX3_day_48 : decode cX3_day 48 = .ok (.getfield 45, 3) := by decide +kernel
theorem dX3_day_51 : decode cX3_day 51 = .ok (.iload_n 3, 1) := by decide +kernel
theorem dX3_day_52 : decode cX3_day 52 = .ok (.iaload, 1) := by decide +kernel
theorem dX3_day_53 : decode cX3_day 53 = .ok (.invokevirtual 110, 3) := by decide +kernel
theorem dX3_day_56 : decode cX3_day 56 = .ok (.ifCond .eq 34, 3) := by decide +kernel
theorem dX3_day_59 : decode cX3_day 59 = .ok (.aload_n 0, 1) := by decide +kernel
theorem dX3_day_60 : decode cX3_day 60 = .ok (.getfield 60, 3) := by decide +kernel
theorem dX3_day_63 : decode cX3_day 63 = .ok (.iload_n 3, 1) := by decide +kernel
theorem dX3_day_64 : decode cX3_day 64 = .ok (.aload_n 0, 1) := by decide +kernel
theorem dX3_day_65 : decode cX3_day 65 = .ok (.aload_n 0, 1) := by decide +kernel
theorem dX3_day_66 : decode cX3_day 66 = .ok (.getfield 48, 3) := by decide +kernel
theorem dX3_day_69 : decode cX3_day 69 = .ok (.iload_n 3, 1) := by decide +kernel
theorem dX3_day_70 : decode cX3_day 70 = .ok (.iaload, 1) := by decide +kernel
theorem dX3_day_71 : decode cX3_day 71 = .ok (.aload_n 0, 1) := by decide +kernel
theorem dX3_day_72 : decode cX3_day 72 = .ok (.getfield 45, 3) := by decide +kernel
theorem dX3_day_75 : decode cX3_day 75 = .ok (.iload_n 3, 1) := by decide +kernel
theorem dX3_day_76 : decode cX3_day 76 = .ok (.iaload, 1) := by decide +kernel
theorem dX3_day_77 : decode cX3_day 77 = .ok (.aload_n 0, 1) := by decide +kernel
theorem dX3_day_78 : decode cX3_day 78 = .ok (.getfield 54, 3) := by decide +kernel
theorem dX3_day_81 : decode cX3_day 81 = .ok (.iload_n 3, 1) := by decide +kernel
theorem dX3_day_82 : decode cX3_day 82 = .ok (.iaload, 1) := by decide +kernel
theorem dX3_day_83 : decode cX3_day 83 = .ok (.invokevirtual 113, 3) := by decide +kernel
theorem dX3_day_86 : decode cX3_day 86 = .ok (.iastore, 1) := by decide +kernel
theorem dX3_day_87 : decode cX3_day 87 = .ok (.iinc 1 1, 3) := by decide +kernel
theorem dX3_day_90 : decode cX3_day 90 = .ok (.aload_n 0, 1) := by decide +kernel
theorem dX3_day_91 : decode cX3_day 91 = .ok (.iload_n 2, 1) := by decide +kernel
theorem dX3_day_92 : decode cX3_day 92 = .ok (.invokevirtual 130, 3) := by decide +kernel
theorem dX3_day_95 : decode cX3_day 95 = .ok (.istore_n 3, 1) := by decide +kernel
theorem dX3_day_96 : decode cX3_day 96 = .ok (.goto (-68), 3) := by decide +kernel
theorem dX3_day_99 : decode cX3_day 99 = .ok (.iload_n 1, 1) := by decide +kernel
theorem dX3_day_100 : decode cX3_day 100 = .ok (.ireturn, 1) := by decide +kernel
set_option maxRecDepth 20000 in
theorem ggX3_pass_X3_in : GoodIn wsX3_pass wsX3_in := goodIn_r _ [6] (by decide +kernel) (by decide +kernel)
set_option maxRecDepth 20000 in
theorem gX3_pass_X3_in : GoodIn wsX3_pass (va_wsS RX3 72 yX3_in wsX3_in) := goodIn_app (goodIn_of _ (by decide +kernel)) ggX3_pass_X3_in
set_option maxRecDepth 20000 in
theorem ggX3_pass_X3_day : GoodIn wsX3_pass wsX3_day := goodIn_r _ [10, 11, 1, 12, 13, 14, 15, 16, 17, 18, 19, 5, 20, 21, 22, 23, 24, 25, 26, 27, 28, 29, 30, 31, 32, 33, 34, 35, 36, 37, 38, 39, 40, 41, 42, 43, 44, 45, 46, 47, 48, 49, 50, 51, 52, 53, 54, 3, 4, 6, 55, 56, 57, 58, 59, 60, 61, 62, 63, 64, 65, 66, 67, 68, 69, 70, 71, 72, 73, 74, 75, 76, 77, 78, 79, 80, 81, 82, 83, 84, 85, 86, 87, 88, 89] (by decide +kernel) (by decide +kernel)
set_option maxRecDepth 20000 in
theorem gX3_pass_X3_day : GoodIn wsX3_pass (wsV RX3 133 RX3 yX3_day wsX3_day) := goodIn_app (goodIn_of _ (by decide +kernel)) ggX3_pass_X3_day
theorem dX3_pass_0 : decode cX3_pass 0 = .ok (.aload_n 0, 1) := by decide +kernel
theorem dX3_pass_1 : decode cX3_pass 1 = .ok (.iload_n 1, 1) := by decide +kernel
theorem dX3_pass_2 : decode cX3_pass 2 = .ok (.iconst 1, 1) := by decide +kernel
theorem dX3_pass_3 : decode cX3_pass 3 = .ok (.bipush 100, 2) := by decide +kernel
theorem dX3_pass_5 : decode cX3_pass 5 = .ok (.invokestatic 72, 3) := by decide +kernel
theorem dX3_pass_8 : decode cX3_pass 8 = .ok (.ifCond .ne 7, 3) := by decide +kernel
theorem dX3_pass_11 : decode cX3_pass 11 = .ok (.iconst 1, 1) := by decide +kernel
theorem dX3_pass_12 : decode cX3_pass 12 = .ok (.goto 20, 3) := by decide +kernel
theorem dX3_pass_15 : decode cX3_pass 15 = .ok (.aload_n 0, 1) := by decide +kernel
theorem dX3_pass_16 : decode cX3_pass 16 = .ok (.getfield 96, 3) := by decide +kernel
theorem dX3_pass_19 : decode cX3_pass 19 = .ok (.iload_n 1, 1) := by decide +kernel
theorem dX3_pass_20 : decode cX3_pass 20 = .ok (.iadd, 1) := by decide +kernel
theorem dX3_pass_21 : decode cX3_pass 21 = .ok (.sipush 3000, 3) := by decide +kernel
theorem dX3_pass_24 : decode cX3_pass 24 = .ok (.if_icmp .le 7, 3) := by decide +kernel
theorem dX3_pass_27 : decode cX3_pass 27 = .ok (.iconst 2, 1) := by decide +kernel
theorem dX3_pass_28 : decode cX3_pass 28 = .ok (.goto 4, 3) := by decide +kernel
theorem dX3_pass_31 : decode cX3_pass 31 = .ok (.iconst 0, 1) := by decide +kernel
theorem dX3_pass_32 : decode cX3_pass 32 = .ok (.putfield 66, 3) := by decide +kernel
theorem dX3_pass_35 : decode cX3_pass 35 = .ok (.iconst 0, 1) := by decide +kernel
theorem dX3_pass_36 : decode cX3_pass 36 = .ok (.istore_n 2, 1) := by decide +kernel
theorem dX3_pass_37 : decode cX3_pass 37 = .ok (.iconst 0, 1) := by decide +kernel
theorem dX3_pass_38 : decode cX3_pass 38 = .ok (.istore_n 3, 1) := by decide +kernel
theorem dX3_pass_39 : decode cX3_pass 39 = .ok (.iload_n 3, 1) := by decide +kernel
theorem dX3_pass_40 : decode cX3_pass 40 = .ok (.iload_n 1, 1) := by decide +kernel
theorem dX3_pass_41 : decode cX3_pass 41 = .ok (.if_icmp .ge 23, 3) := by decide +kernel
theorem dX3_pass_44 : decode cX3_pass 44 = .ok (.aload_n 0, 1) := by decide +kernel
theorem dX3_pass_45 : decode cX3_pass 45 = .ok (.getfield 66, 3) := by decide +kernel
theorem dX3_pass_48 : decode cX3_pass 48 = .ok (.ifCond .ne 16, 3) := by decide +kernel
theorem dX3_pass_51 : decode cX3_pass 51 = .ok (.iload_n 2, 1) := by decide +kernel
theorem dX3_pass_52 : decode cX3_pass 52 = .ok (.aload_n 0, 1) := by decide +kernel
theorem dX3_pass_53 : decode cX3_pass 53 = .ok (.invokevirtual 133, 3) := by decide +kernel
theorem dX3_pass_56 : decode cX3_pass 56 = .ok (.iadd, 1) := by decide +kernel
theorem dX3_pass_57 : decode cX3_pass 57 = .ok (.istore_n 2, 1) := by decide +kernel
theorem dX3_pass_58 : decode cX3_pass 58 = .ok (.iinc 3 1, 3) := by decide +kernel
theorem dX3_pass_61 : decode cX3_pass 61 = .ok (.goto (-22), 3) := by decide +kernel
theorem dX3_pass_64 : decode cX3_pass 64 = .ok (.iload_n 2, 1) := by decide +kernel
theorem dX3_pass_65 : decode cX3_pass 65 = .ok (.ireturn, 1) := by decide +kernel
theorem dX3_today_0 : decode cX3_today 0 = .ok (.aload_n 0, 1) := by decide +kernel
theorem dX3_today_1 : decode cX3_today 1 = .ok (.iconst 0, 1) := by decide +kernel
theorem dX3_today_2 : decode cX3_today 2 = .ok (.putfield 66, 3) := by decide +kernel
theorem dX3_today_5 : decode cX3_today 5 = .ok (.aload_n 0, 1) := by decide +kernel
theorem dX3_today_6 : decode cX3_today 6 = .ok (.getfield 96, 3) := by decide +kernel
theorem dX3_today_9 : decode cX3_today 9 = .ok (.ireturn, 1) := by decide +kernel
theorem dX3_issuers_0 : decode cX3_issuers 0 = .ok (.aload_n 0, 1) := by decide +kernel
theorem dX3_issuers_1 : decode cX3_issuers 1 = .ok (.iconst 0, 1) := by decide +kernel
theorem dX3_issuers_2 : decode cX3_issuers 2 = .ok (.putfield 66, 3) := by decide +kernel
theorem dX3_issuers_5 : decode cX3_issuers 5 = .ok (.aload_n 0, 1) := by decide +kernel
theorem dX3_issuers_6 : decode cX3_issuers 6 = .ok (.getfield 69, 3) := by decide +kernel
theorem dX3_issuers_9 : decode cX3_issuers 9 = .ok (.ireturn, 1) := by decide +kernel
theorem dX3_certificates_0 : decode cX3_certificates 0 = .ok (.aload_n 0, 1) := by decide +kernel
theorem dX3_certificates_1 : decode cX3_certificates 1 = .ok (.iconst 0, 1) := by decide +kernel
theorem dX3_certificates_2 : decode cX3_certificates 2 = .ok (.putfield 66, 3) := by decide +kernel
theorem dX3_certificates_5 : decode cX3_certificates 5 = .ok (.aload_n 0, 1) := by decide +kernel
theorem dX3_certificates_6 : decode cX3_certificates 6 = .ok (.getfield 76, 3) := by decide +kernel
theorem dX3_certificates_9 : decode cX3_certificates 9 = .ok (.ireturn, 1) := by decide +kernel
set_option maxRecDepth 20000 in
theorem ggX3_issuerOf_X3_isCert : GoodIn wsX3_issuerOf wsX3_isCert := goodIn_r _ [7, 8, 9, 10, 6, 11, 16, 17, 18, 19, 20, 21, 22, 23, 24, 25, 26, 27, 28, 29, 30, 31, 32, 33, 34, 35, 36, 37] (by decide +kernel) (by decide +kernel)
set_option maxRecDepth 20000 in
theorem gX3_issuerOf_X3_isCert : GoodIn wsX3_issuerOf (wsV RX3 137 RX3 yX3_isCert wsX3_isCert) := goodIn_app (goodIn_of _ (by decide +kernel)) ggX3_issuerOf_X3_isCert
set_option maxRecDepth 20000 in
theorem ggX3_issuerOf_X3_fails : GoodIn wsX3_issuerOf wsX3_fails := goodIn_r _ [15, 1, 16, 17, 18, 19, 20, 21, 22, 23, 24, 25, 26, 27, 28, 29, 30, 31, 32, 33, 34, 35, 36, 37] (by decide +kernel) (by decide +kernel)
set_option maxRecDepth 20000 in
theorem gX3_issuerOf_X3_fails : GoodIn wsX3_issuerOf (wsV RX3 83 RX3 yX3_fails wsX3_fails) := goodIn_app (goodIn_of _ (by decide +kernel)) ggX3_issuerOf_X3_fails
theorem dX3_issuerOf_0 : decode cX3_issuerOf 0 = .ok (.aload_n 0, 1) := by decide +kernel
theorem dX3_issuerOf_1 : decode cX3_issuerOf 1 = .ok (.iconst 0, 1) := by decide +kernel
theorem dX3_issuerOf_2 : decode cX3_issuerOf 2 = .ok (.putfield 66, 3) := by decide +kernel
theorem dX3_issuerOf_5 : decode cX3_issuerOf 5 = .ok (.aload_n 0, 1) := by decide +kernel
theorem dX3_issuerOf_6 : decode cX3_issuerOf 6 = .ok (.iload_n 1, 1) := by decide +kernel
theorem dX3_issuerOf_7 : decode cX3_issuerOf 7 = .ok (.invokevirtual 137, 3) := by decide +kernel
theorem dX3_issuerOf_10 : decode cX3_issuerOf 10 = .ok (.ifCond .eq 12, 3) := by decide +kernel
theorem dX3_issuerOf_13 : decode cX3_issuerOf 13 = .ok (.aload_n 0, 1) := by decide +kernel
theorem dX3_issuerOf_14 : decode cX3_issuerOf 14 = .ok (.getfield 48, 3) := by decide +kernel
theorem dX3_issuerOf_17 : decode cX3_issuerOf 17 = .ok (.iload_n 1, 1) := by decide +kernel
theorem dX3_issuerOf_18 : decode cX3_issuerOf 18 = .ok (.iaload, 1) := by decide +kernel
theorem dX3_issuerOf_19 : decode cX3_issuerOf 19 = .ok (.goto 8, 3) := by decide +kernel
theorem dX3_issuerOf_22 : decode cX3_issuerOf 22 = .ok (.aload_n 0, 1) := by decide +kernel
theorem dX3_issuerOf_23 : decode cX3_issuerOf 23 = .ok (.iconst 1, 1) := by decide +kernel
theorem dX3_issuerOf_24 : decode cX3_issuerOf 24 = .ok (.invokevirtual 83, 3) := by decide +kernel
theorem dX3_issuerOf_27 : decode cX3_issuerOf 27 = .ok (.ireturn, 1) := by decide +kernel
set_option maxRecDepth 20000 in
theorem ggX3_lastDay_X3_isCert : GoodIn wsX3_lastDay wsX3_isCert := goodIn_r _ [6, 7, 8, 9, 5, 10, 21, 22, 23, 24, 25, 26, 27, 28, 29, 30, 31, 32, 33, 34, 35, 36, 37, 38, 39, 40, 41, 42] (by decide +kernel) (by decide +kernel)
set_option maxRecDepth 20000 in
theorem gX3_lastDay_X3_isCert : GoodIn wsX3_lastDay (wsV RX3 137 RX3 yX3_isCert wsX3_isCert) := goodIn_app (goodIn_of _ (by decide +kernel)) ggX3_lastDay_X3_isCert
set_option maxRecDepth 20000 in
theorem ggX3_lastDay_X3_last : GoodIn wsX3_lastDay wsX3_last := goodIn_r _ [14, 15, 16, 21, 22, 23, 24, 25, 26, 27, 28, 29, 30, 31, 32, 33, 34, 35, 36, 37, 38, 39, 40, 41, 42] (by decide +kernel) (by decide +kernel)
set_option maxRecDepth 20000 in
theorem gX3_lastDay_X3_last : GoodIn wsX3_lastDay (wsV RX3 120 RX3 yX3_last wsX3_last) := goodIn_app (goodIn_of _ (by decide +kernel)) ggX3_lastDay_X3_last
set_option maxRecDepth 20000 in
theorem ggX3_lastDay_X3_fails : GoodIn wsX3_lastDay wsX3_fails := goodIn_r _ [20, 1, 21, 22, 23, 24, 25, 26, 27, 28, 29, 30, 31, 32, 33, 34, 35, 36, 37, 38, 39, 40, 41, 42] (by decide +kernel) (by decide +kernel)
set_option maxRecDepth 20000 in
theorem gX3_lastDay_X3_fails : GoodIn wsX3_lastDay (wsV RX3 83 RX3 yX3_fails wsX3_fails) := goodIn_app (goodIn_of _ (by decide +kernel)) ggX3_lastDay_X3_fails
theorem dX3_lastDay_0 : decode cX3_lastDay 0 = .ok (.aload_n 0, 1) := by decide +kernel
theorem dX3_lastDay_1 : decode cX3_lastDay 1 = .ok (.iconst 0, 1) := by decide +kernel
theorem dX3_lastDay_2 : decode cX3_lastDay 2 = .ok (.putfield 66, 3) := by decide +kernel
theorem dX3_lastDay_5 : decode cX3_lastDay 5 = .ok (.aload_n 0, 1) := by decide +kernel
theorem dX3_lastDay_6 : decode cX3_lastDay 6 = .ok (.iload_n 1, 1) := by decide +kernel
theorem dX3_lastDay_7 : decode cX3_lastDay 7 = .ok (.invokevirtual 137, 3) := by decide +kernel
theorem dX3_lastDay_10 : decode cX3_lastDay 10 = .ok (.ifCond .eq 11, 3) := by decide +kernel
theorem dX3_lastDay_13 : decode cX3_lastDay 13 = .ok (.aload_n 0, 1) := by decide +kernel
theorem dX3_lastDay_14 : decode cX3_lastDay 14 = .ok (.iload_n 1, 1) := by decide +kernel
theorem dX3_lastDay_15 : decode cX3_lastDay 15 = .ok (.invokevirtual 120, 3) := by decide +kernel
theorem dX3_lastDay_18 : decode cX3_lastDay 18 = .ok (.goto 8, 3) := by decide +kernel
theorem dX3_lastDay_21 : decode cX3_lastDay 21 = .ok (.aload_n 0, 1) := by decide +kernel
theorem dX3_lastDay_22 : decode cX3_lastDay 22 = .ok (.iconst 1, 1) := by decide +kernel
theorem dX3_lastDay_23 : decode cX3_lastDay 23 = .ok (.invokevirtual 83, 3) := by decide +kernel
theorem dX3_lastDay_26 : decode cX3_lastDay 26 = .ok (.ireturn, 1) := by decide +kernel
set_option maxRecDepth 20000 in
theorem ggX3_dueOn_X3_isCert : GoodIn wsX3_dueOn wsX3_isCert := goodIn_r _ [6, 7, 8, 9, 5, 10, 22, 23, 24, 25, 26, 27, 28, 29, 30, 31, 32, 33, 34, 35, 36, 37, 38, 39, 40, 41, 42, 43] (by decide +kernel) (by decide +kernel)
set_option maxRecDepth 20000 in
theorem gX3_dueOn_X3_isCert : GoodIn wsX3_dueOn (wsV RX3 137 RX3 yX3_isCert wsX3_isCert) := goodIn_app (goodIn_of _ (by decide +kernel)) ggX3_dueOn_X3_isCert
set_option maxRecDepth 20000 in
theorem ggX3_dueOn_X3_due : GoodIn wsX3_dueOn wsX3_due := goodIn_r _ [14, 15, 16, 17, 22, 23, 24, 25, 26, 27, 28, 29, 30, 31, 32, 33, 34, 35, 36, 37, 38, 39, 40, 41, 42, 43] (by decide +kernel) (by decide +kernel)
set_option maxRecDepth 20000 in
theorem gX3_dueOn_X3_due : GoodIn wsX3_dueOn (wsV RX3 117 RX3 yX3_due wsX3_due) := goodIn_app (goodIn_of _ (by decide +kernel)) ggX3_dueOn_X3_due
set_option maxRecDepth 20000 in
theorem ggX3_dueOn_X3_fails : GoodIn wsX3_dueOn wsX3_fails := goodIn_r _ [21, 1, 22, 23, 24, 25, 26, 27, 28, 29, 30, 31, 32, 33, 34, 35, 36, 37, 38, 39, 40, 41, 42, 43] (by decide +kernel) (by decide +kernel)
set_option maxRecDepth 20000 in
theorem gX3_dueOn_X3_fails : GoodIn wsX3_dueOn (wsV RX3 83 RX3 yX3_fails wsX3_fails) := goodIn_app (goodIn_of _ (by decide +kernel)) ggX3_dueOn_X3_fails
theorem dX3_dueOn_0 : decode cX3_dueOn 0 = .ok (.aload_n 0, 1) := by decide +kernel
theorem dX3_dueOn_1 : decode cX3_dueOn 1 = .ok (.iconst 0, 1) := by decide +kernel
theorem dX3_dueOn_2 : decode cX3_dueOn 2 = .ok (.putfield 66, 3) := by decide +kernel
theorem dX3_dueOn_5 : decode cX3_dueOn 5 = .ok (.aload_n 0, 1) := by decide +kernel
theorem dX3_dueOn_6 : decode cX3_dueOn 6 = .ok (.iload_n 1, 1) := by decide +kernel
theorem dX3_dueOn_7 : decode cX3_dueOn 7 = .ok (.invokevirtual 137, 3) := by decide +kernel
theorem dX3_dueOn_10 : decode cX3_dueOn 10 = .ok (.ifCond .eq 11, 3) := by decide +kernel
theorem dX3_dueOn_13 : decode cX3_dueOn 13 = .ok (.aload_n 0, 1) := by decide +kernel
theorem dX3_dueOn_14 : decode cX3_dueOn 14 = .ok (.iload_n 1, 1) := by decide +kernel
theorem dX3_dueOn_15 : decode cX3_dueOn 15 = .ok (.invokevirtual 117, 3) := by decide +kernel
theorem dX3_dueOn_18 : decode cX3_dueOn 18 = .ok (.goto 8, 3) := by decide +kernel
theorem dX3_dueOn_21 : decode cX3_dueOn 21 = .ok (.aload_n 0, 1) := by decide +kernel
theorem dX3_dueOn_22 : decode cX3_dueOn 22 = .ok (.iconst 1, 1) := by decide +kernel
theorem dX3_dueOn_23 : decode cX3_dueOn 23 = .ok (.invokevirtual 83, 3) := by decide +kernel
theorem dX3_dueOn_26 : decode cX3_dueOn 26 = .ok (.ireturn, 1) := by decide +kernel
set_option maxRecDepth 20000 in
theorem ggX3_renewal_X3_isCert : GoodIn wsX3_renewal wsX3_isCert := goodIn_r _ [7, 8, 9, 10, 6, 11, 16, 17, 18, 19, 20, 21, 22, 23, 24, 25, 26, 27, 28, 29, 30, 31, 32, 33, 34, 35, 36, 37] (by decide +kernel) (by decide +kernel)
set_option maxRecDepth 20000 in
theorem gX3_renewal_X3_isCert : GoodIn wsX3_renewal (wsV RX3 137 RX3 yX3_isCert wsX3_isCert) := goodIn_app (goodIn_of _ (by decide +kernel)) ggX3_renewal_X3_isCert
set_option maxRecDepth 20000 in
theorem ggX3_renewal_X3_fails : GoodIn wsX3_renewal wsX3_fails := goodIn_r _ [15, 1, 16, 17, 18, 19, 20, 21, 22, 23, 24, 25, 26, 27, 28, 29, 30, 31, 32, 33, 34, 35, 36, 37] (by decide +kernel) (by decide +kernel)
set_option maxRecDepth 20000 in
theorem gX3_renewal_X3_fails : GoodIn wsX3_renewal (wsV RX3 83 RX3 yX3_fails wsX3_fails) := goodIn_app (goodIn_of _ (by decide +kernel)) ggX3_renewal_X3_fails
theorem dX3_renewal_0 : decode cX3_renewal 0 = .ok (.aload_n 0, 1) := by decide +kernel
theorem dX3_renewal_1 : decode cX3_renewal 1 = .ok (.iconst 0, 1) := by decide +kernel
theorem dX3_renewal_2 : decode cX3_renewal 2 = .ok (.putfield 66, 3) := by decide +kernel
theorem dX3_renewal_5 : decode cX3_renewal 5 = .ok (.aload_n 0, 1) := by decide +kernel
theorem dX3_renewal_6 : decode cX3_renewal 6 = .ok (.iload_n 1, 1) := by decide +kernel
theorem dX3_renewal_7 : decode cX3_renewal 7 = .ok (.invokevirtual 137, 3) := by decide +kernel
theorem dX3_renewal_10 : decode cX3_renewal 10 = .ok (.ifCond .eq 12, 3) := by decide +kernel
theorem dX3_renewal_13 : decode cX3_renewal 13 = .ok (.aload_n 0, 1) := by decide +kernel
theorem dX3_renewal_14 : decode cX3_renewal 14 = .ok (.getfield 60, 3) := by decide +kernel
theorem dX3_renewal_17 : decode cX3_renewal 17 = .ok (.iload_n 1, 1) := by decide +kernel
theorem dX3_renewal_18 : decode cX3_renewal 18 = .ok (.iaload, 1) := by decide +kernel
theorem dX3_renewal_19 : decode cX3_renewal 19 = .ok (.goto 8, 3) := by decide +kernel
theorem dX3_renewal_22 : decode cX3_renewal 22 = .ok (.aload_n 0, 1) := by decide +kernel
theorem dX3_renewal_23 : decode cX3_renewal 23 = .ok (.iconst 1, 1) := by decide +kernel
theorem dX3_renewal_24 : decode cX3_renewal 24 = .ok (.invokevirtual 83, 3) := by decide +kernel
theorem dX3_renewal_27 : decode cX3_renewal 27 = .ok (.ireturn, 1) := by decide +kernel
set_option maxRecDepth 20000 in
theorem ggX3_waiting_X3_waits : GoodIn wsX3_waiting wsX3_waits := goodIn_r _ [7, 8, 9, 10, 11, 12, 6, 13, 14, 15, 16, 17, 18, 19, 20, 21, 22, 23, 24, 25, 26, 27, 28, 29, 30, 31, 32, 33, 34, 35, 36, 37, 38, 39, 40, 41, 42] (by decide +kernel) (by decide +kernel)
set_option maxRecDepth 20000 in
theorem gX3_waiting_X3_waits : GoodIn wsX3_waiting (wsV RX3 123 RX3 yX3_waits wsX3_waits) := goodIn_app (goodIn_of _ (by decide +kernel)) ggX3_waiting_X3_waits
theorem dX3_waiting_0 : decode cX3_waiting 0 = .ok (.aload_n 0, 1) := by decide +kernel
theorem dX3_waiting_1 : decode cX3_waiting 1 = .ok (.iconst 0, 1) := by decide +kernel
theorem dX3_waiting_2 : decode cX3_waiting 2 = .ok (.putfield 66, 3) := by decide +kernel
theorem dX3_waiting_5 : decode cX3_waiting 5 = .ok (.iconst 0, 1) := by decide +kernel
theorem dX3_waiting_6 : decode cX3_waiting 6 = .ok (.istore_n 1, 1) := by decide +kernel
theorem dX3_waiting_7 : decode cX3_waiting 7 = .ok (.iconst 0, 1) := by decide +kernel
theorem dX3_waiting_8 : decode cX3_waiting 8 = .ok (.istore_n 2, 1) := by decide +kernel
theorem dX3_waiting_9 : decode cX3_waiting 9 = .ok (.iload_n 2, 1) := by decide +kernel
theorem dX3_waiting_10 : decode cX3_waiting 10 = .ok (.aload_n 0, 1) := by decide +kernel
theorem dX3_waiting_11 : decode cX3_waiting 11 = .ok (.getfield 76, 3) := by decide +kernel
theorem dX3_waiting_14 : decode cX3_waiting 14 = .ok (.if_icmp .ge 25, 3) := by decide +kernel
theorem dX3_waiting_17 : decode cX3_waiting 17 = .ok (.iload_n 1, 1) := by decide +kernel
theorem dX3_waiting_18 : decode cX3_waiting 18 = .ok (.aload_n 0, 1) := by decide +kernel
theorem dX3_waiting_19 : decode cX3_waiting 19 = .ok (.iload_n 2, 1) := by decide +kernel
theorem dX3_waiting_20 : decode cX3_waiting 20 = .ok (.invokevirtual 123, 3) := by decide +kernel
theorem dX3_waiting_23 : decode cX3_waiting 23 = .ok (.ifCond .eq 7, 3) := by decide +kernel
theorem dX3_waiting_26 : decode cX3_waiting 26 = .ok (.iconst 1, 1) := by decide +kernel
theorem dX3_waiting_27 : decode cX3_waiting 27 = .ok (.goto 4, 3) := by decide +kernel
theorem dX3_waiting_30 : decode cX3_waiting 30 = .ok (.iconst 0, 1) := by decide +kernel
theorem dX3_waiting_31 : decode cX3_waiting 31 = .ok (.iadd, 1) := by decide +kernel
theorem dX3_waiting_32 : decode cX3_waiting 32 = .ok (.istore_n 1, 1) := by decide +kernel
theorem dX3_waiting_33 : decode cX3_waiting 33 = .ok (.iinc 2 1, 3) := by decide +kernel
theorem dX3_waiting_36 : decode cX3_waiting 36 = .ok (.goto (-27), 3) := by decide +kernel
theorem dX3_waiting_39 : decode cX3_waiting 39 = .ok (.iload_n 1, 1) := by decide +kernel
theorem dX3_waiting_40 : decode cX3_waiting 40 = .ok (.ireturn, 1) := by decide +kernel
set_option maxRecDepth 20000 in
theorem ggX3_waitingAt_X3_sees : GoodIn wsX3_waitingAt wsX3_sees := goodIn_r _ [8, 3, 34, 35, 36, 37, 38, 39, 40, 41, 42, 43, 44, 45, 46, 47, 48, 49, 50, 51, 52, 53, 54, 55] (by decide +kernel) (by decide +kernel)
set_option maxRecDepth 20000 in
theorem gX3_waitingAt_X3_sees : GoodIn wsX3_waitingAt (wsV RX3 126 RX3 yX3_sees wsX3_sees) := goodIn_app (goodIn_of _ (by decide +kernel)) ggX3_waitingAt_X3_sees
set_option maxRecDepth 20000 in
theorem ggX3_waitingAt_X3_nextWaiting : GoodIn wsX3_waitingAt wsX3_nextWaiting := goodIn_r _ [12, 3, 13, 14, 15, 7, 16, 17, 18, 19, 20, 21, 22, 23, 24, 25, 26, 27, 28, 29, 34, 35, 36, 37, 38, 39, 40, 41, 42, 43, 44, 45, 46, 47, 48, 49, 50, 51, 52, 53, 54, 55] (by decide +kernel) (by decide +kernel)
set_option maxRecDepth 20000 in
theorem gX3_waitingAt_X3_nextWaiting : GoodIn wsX3_waitingAt (wsV RX3 130 RX3 yX3_nextWaiting wsX3_nextWaiting) := goodIn_app (goodIn_of _ (by decide +kernel)) ggX3_waitingAt_X3_nextWaiting
set_option maxRecDepth 20000 in
theorem ggX3_waitingAt_X3_fails : GoodIn wsX3_waitingAt wsX3_fails := goodIn_r _ [33, 1, 34, 35, 36, 37, 38, 39, 40, 41, 42, 43, 44, 45, 46, 47, 48, 49, 50, 51, 52, 53, 54, 55] (by decide +kernel) (by decide +kernel)
set_option maxRecDepth 20000 in
theorem gX3_waitingAt_X3_fails : GoodIn wsX3_waitingAt (wsV RX3 83 RX3 yX3_fails wsX3_fails) := goodIn_app (goodIn_of _ (by decide +kernel)) ggX3_waitingAt_X3_fails
theorem dX3_waitingAt_0 : decode cX3_waitingAt 0 = .ok (.aload_n 0, 1) := by decide +kernel
theorem dX3_waitingAt_1 : decode cX3_waitingAt 1 = .ok (.iconst 0, 1) := by decide +kernel
theorem dX3_waitingAt_2 : decode cX3_waitingAt 2 = .ok (.putfield 66, 3) := by decide +kernel
theorem dX3_waitingAt_5 : decode cX3_waitingAt 5 = .ok (.aload_n 0, 1) := by decide +kernel
theorem dX3_waitingAt_6 : decode cX3_waitingAt 6 = .ok (.iconst 0, 1) := by decide +kernel
theorem dX3_waitingAt_7 : decode cX3_waitingAt 7 = .ok (.invokevirtual 126, 3) := by decide +kernel
theorem dX3_waitingAt_10 : decode cX3_waitingAt 10 = .ok (.iload_n 1, 1) := by decide +kernel
theorem dX3_waitingAt_11 : decode cX3_waitingAt 11 = .ok (.ifCond .ge 7, 3) := by decide +kernel
theorem dX3_waitingAt_14 : decode cX3_waitingAt 14 = .ok (.iconst (-1), 1) := by decide +kernel
theorem dX3_waitingAt_15 : decode cX3_waitingAt 15 = .ok (.goto 11, 3) := by decide +kernel
theorem dX3_waitingAt_18 : decode cX3_waitingAt 18 = .ok (.aload_n 0, 1) := by decide +kernel
theorem dX3_waitingAt_19 : decode cX3_waitingAt 19 = .ok (.aload_n 0, 1) := by decide +kernel
theorem dX3_waitingAt_20 : decode cX3_waitingAt 20 = .ok (.getfield 76, 3) := by decide +kernel
theorem dX3_waitingAt_23 : decode cX3_waitingAt 23 = .ok (.invokevirtual 130, 3) := by decide +kernel
theorem dX3_waitingAt_26 : decode cX3_waitingAt 26 = .ok (.istore_n 2, 1) := by decide +kernel
theorem dX3_waitingAt_27 : decode cX3_waitingAt 27 = .ok (.iconst 0, 1) := by decide +kernel
theorem dX3_waitingAt_28 : decode cX3_waitingAt 28 = .ok (.istore_n 3, 1) := by decide +kernel
theorem dX3_waitingAt_29 : decode cX3_waitingAt 29 = .ok (.iload_n 3, 1) := by decide +kernel
theorem dX3_waitingAt_30 : decode cX3_waitingAt 30 = .ok (.iload_n 1, 1) := by decide +kernel
theorem dX3_waitingAt_31 : decode cX3_waitingAt 31 = .ok (.if_icmp .ge 30, 3) := by decide +kernel
theorem dX3_waitingAt_34 : decode cX3_waitingAt 34 = .ok (.iload_n 2, 1) := by decide +kernel
theorem dX3_waitingAt_35 : decode cX3_waitingAt 35 = .ok (.iconst (-1), 1) := by decide +kernel
theorem dX3_waitingAt_36 : decode cX3_waitingAt 36 = .ok (.if_icmp .eq 25, 3) := by decide +kernel
theorem dX3_waitingAt_39 : decode cX3_waitingAt 39 = .ok (.aload_n 0, 1) := by decide +kernel
theorem dX3_waitingAt_40 : decode cX3_waitingAt 40 = .ok (.getfield 63, 3) := by decide +kernel
theorem dX3_waitingAt_43 : decode cX3_waitingAt 43 = .ok (.iload_n 2, 1) := by decide +kernel
theorem dX3_waitingAt_44 : decode cX3_waitingAt 44 = .ok (.iconst 1, 1) := by decide +kernel
theorem dX3_waitingAt_45 : decode cX3_waitingAt 45 = .ok (.bastore, 1) := by decide +kernel
theorem dX3_waitingAt_46 : decode cX3_waitingAt 46 = .ok (.aload_n 0, 1) := by decide +kernel
theorem dX3_waitingAt_47 : decode cX3_waitingAt 47 = .ok (.aload_n 0, 1) := by decide +kernel
theorem dX3_waitingAt_48 : decode cX3_waitingAt 48 = .ok (.getfield 76, 3) := by decide +kernel
theorem dX3_waitingAt_51 : decode cX3_waitingAt 51 = .ok (.invokevirtual 130, 3) := by decide +kernel
theorem dX3_waitingAt_54 : decode cX3_waitingAt 54 = .ok (.istore_n 2, 1) := by decide +kernel
theorem dX3_waitingAt_55 : decode cX3_waitingAt 55 = .ok (.iinc 3 1, 3) := by decide +kernel
theorem dX3_waitingAt_58 : decode cX3_waitingAt 58 = .ok (.goto (-29), 3) := by decide +kernel
theorem dX3_waitingAt_61 : decode cX3_waitingAt 61 = .ok (.iload_n 2, 1) := by decide +kernel
theorem dX3_waitingAt_62 : decode cX3_waitingAt 62 = .ok (.iconst (-1), 1) := by decide +kernel
theorem dX3_waitingAt_63 : decode cX3_waitingAt 63 = .ok (.if_icmp .ne 11, 3) := by decide +kernel
theorem dX3_waitingAt_66 : decode cX3_waitingAt 66 = .ok (.aload_n 0, 1) := by decide +kernel
theorem dX3_waitingAt_67 : decode cX3_waitingAt 67 = .ok (.iconst 1, 1) := by decide +kernel
theorem dX3_waitingAt_68 : decode cX3_waitingAt 68 = .ok (.invokevirtual 83, 3) := by decide +kernel
theorem dX3_waitingAt_71 : decode cX3_waitingAt 71 = .ok (.goto 4, 3) := by decide +kernel
theorem dX3_waitingAt_74 : decode cX3_waitingAt 74 = .ok (.iload_n 2, 1) := by decide +kernel
theorem dX3_waitingAt_75 : decode cX3_waitingAt 75 = .ok (.ireturn, 1) := by decide +kernel
set_option maxRecDepth 20000 in
theorem ggX3_room_X3_isIssuer : GoodIn wsX3_room wsX3_isIssuer := goodIn_r _ [7, 8, 9, 10, 6, 11, 24, 25, 26, 27, 28, 29, 30, 31, 32, 33, 34, 35, 36, 37, 38, 39, 40, 41, 42, 43, 44, 45] (by decide +kernel) (by decide +kernel)
set_option maxRecDepth 20000 in
theorem gX3_room_X3_isIssuer : GoodIn wsX3_room (wsV RX3 79 RX3 yX3_isIssuer wsX3_isIssuer) := goodIn_app (goodIn_of _ (by decide +kernel)) ggX3_room_X3_isIssuer
set_option maxRecDepth 20000 in
theorem ggX3_room_X3_issued : GoodIn wsX3_room wsX3_issued := goodIn_r _ [15, 16, 17, 18, 19, 24, 25, 26, 27, 28, 29, 30, 31, 32, 33, 34, 35, 36, 37, 38, 39, 40, 41, 42, 43, 44, 45] (by decide +kernel) (by decide +kernel)
set_option maxRecDepth 20000 in
theorem gX3_room_X3_issued : GoodIn wsX3_room (wsV RX3 102 RX3 yX3_issued wsX3_issued) := goodIn_app (goodIn_of _ (by decide +kernel)) ggX3_room_X3_issued
set_option maxRecDepth 20000 in
theorem ggX3_room_X3_fails : GoodIn wsX3_room wsX3_fails := goodIn_r _ [23, 1, 24, 25, 26, 27, 28, 29, 30, 31, 32, 33, 34, 35, 36, 37, 38, 39, 40, 41, 42, 43, 44, 45] (by decide +kernel) (by decide +kernel)
set_option maxRecDepth 20000 in
theorem gX3_room_X3_fails : GoodIn wsX3_room (wsV RX3 83 RX3 yX3_fails wsX3_fails) := goodIn_app (goodIn_of _ (by decide +kernel)) ggX3_room_X3_fails
theorem dX3_room_0 : decode cX3_room 0 = .ok (.aload_n 0, 1) := by decide +kernel
theorem dX3_room_1 : decode cX3_room 1 = .ok (.iconst 0, 1) := by decide +kernel
theorem dX3_room_2 : decode cX3_room 2 = .ok (.putfield 66, 3) := by decide +kernel
theorem dX3_room_5 : decode cX3_room 5 = .ok (.aload_n 0, 1) := by decide +kernel
theorem dX3_room_6 : decode cX3_room 6 = .ok (.iload_n 1, 1) := by decide +kernel
theorem dX3_room_7 : decode cX3_room 7 = .ok (.invokevirtual 79, 3) := by decide +kernel
theorem dX3_room_10 : decode cX3_room 10 = .ok (.ifCond .eq 18, 3) := by decide +kernel
theorem dX3_room_13 : decode cX3_room 13 = .ok (.aload_n 0, 1) := by decide +kernel
theorem dX3_room_14 : decode cX3_room 14 = .ok (.getfield 20, 3) := by decide +kernel
theorem dX3_room_17 : decode cX3_room 17 = .ok (.iload_n 1, 1) := by decide +kernel
theorem dX3_room_18 : decode cX3_room 18 = .ok (.iaload, 1) := by decide +kernel
theorem dX3_room_19 : decode cX3_room 19 = .ok (.aload_n 0, 1) := by decide +kernel
theorem dX3_room_20 : decode cX3_room 20 = .ok (.iload_n 1, 1) := by decide +kernel
theorem dX3_room_21 : decode cX3_room 21 = .ok (.invokevirtual 102, 3) := by decide +kernel
theorem dX3_room_24 : decode cX3_room 24 = .ok (.isub, 1) := by decide +kernel
theorem dX3_room_25 : decode cX3_room 25 = .ok (.goto 8, 3) := by decide +kernel
theorem dX3_room_28 : decode cX3_room 28 = .ok (.aload_n 0, 1) := by decide +kernel
theorem dX3_room_29 : decode cX3_room 29 = .ok (.iconst 1, 1) := by decide +kernel
theorem dX3_room_30 : decode cX3_room 30 = .ok (.invokevirtual 83, 3) := by decide +kernel
theorem dX3_room_33 : decode cX3_room 33 = .ok (.ireturn, 1) := by decide +kernel
set_option maxRecDepth 20000 in
theorem ggX3_isGood_X3_isIssuer : GoodIn wsX3_isGood wsX3_isIssuer := goodIn_r _ [6, 7, 8, 9, 5, 10, 24, 25, 26, 27, 28, 29, 30, 31, 32, 33, 34, 35, 36, 37, 38, 39, 40, 41, 42, 43, 44, 45] (by decide +kernel) (by decide +kernel)
set_option maxRecDepth 20000 in
theorem gX3_isGood_X3_isIssuer : GoodIn wsX3_isGood (wsV RX3 79 RX3 yX3_isIssuer wsX3_isIssuer) := goodIn_app (goodIn_of _ (by decide +kernel)) ggX3_isGood_X3_isIssuer
set_option maxRecDepth 20000 in
theorem ggX3_isGood_X3_isDay : GoodIn wsX3_isGood wsX3_isDay := goodIn_r _ [13, 8, 9, 5, 10] (by decide +kernel) (by decide +kernel)
set_option maxRecDepth 20000 in
theorem gX3_isGood_X3_isDay : GoodIn wsX3_isGood (va_wsS RX3 90 yX3_isDay wsX3_isDay) := goodIn_app (goodIn_of _ (by decide +kernel)) ggX3_isGood_X3_isDay
set_option maxRecDepth 20000 in
theorem ggX3_isGood_X3_holds : GoodIn wsX3_isGood wsX3_holds := goodIn_r _ [17, 18, 19, 20, 21, 22, 23, 8, 9, 5, 10, 24, 25, 26, 27, 28, 29, 30, 31, 32, 33, 34, 35, 36, 37, 38, 39, 40, 41, 42, 43, 44, 45] (by decide +kernel) (by decide +kernel)
set_option maxRecDepth 20000 in
theorem gX3_isGood_X3_holds : GoodIn wsX3_isGood (wsV RX3 99 RX3 yX3_holds wsX3_holds) := goodIn_app (goodIn_of _ (by decide +kernel)) ggX3_isGood_X3_holds
theorem dX3_isGood_0 : decode cX3_isGood 0 = .ok (.aload_n 0, 1) := by decide +kernel
theorem dX3_isGood_1 : decode cX3_isGood 1 = .ok (.aload_n 0, 1) := by decide +kernel
theorem dX3_isGood_2 : decode cX3_isGood 2 = .ok (.iload_n 1, 1) := by decide +kernel
theorem dX3_isGood_3 : decode cX3_isGood 3 = .ok (.invokevirtual 79, 3) := by decide +kernel
theorem dX3_isGood_6 : decode cX3_isGood 6 = .ok (.ifCond .ne 7, 3) := by decide +kernel
theorem dX3_isGood_9 : decode cX3_isGood 9 = .ok (.iconst 1, 1) := by decide +kernel
theorem dX3_isGood_10 : decode cX3_isGood 10 = .ok (.goto 15, 3) := by decide +kernel
theorem dX3_isGood_13 : decode cX3_isGood 13 = .ok (.iload_n 2, 1) := by decide +kernel
theorem dX3_isGood_14 : decode cX3_isGood 14 = .ok (.invokestatic 90, 3) := by decide +kernel
theorem dX3_isGood_17 : decode cX3_isGood 17 = .ok (.ifCond .eq 7, 3) := by decide +kernel
theorem dX3_isGood_20 : decode cX3_isGood 20 = .ok (.iconst 0, 1) := by decide +kernel
theorem dX3_isGood_21 : decode cX3_isGood 21 = .ok (.goto 4, 3) := by decide +kernel
theorem dX3_isGood_24 : decode cX3_isGood 24 = .ok (.iconst 2, 1) := by decide +kernel
theorem dX3_isGood_25 : decode cX3_isGood 25 = .ok (.putfield 66, 3) := by decide +kernel
theorem dX3_isGood_28 : decode cX3_isGood 28 = .ok (.aload_n 0, 1) := by decide +kernel
theorem dX3_isGood_29 : decode cX3_isGood 29 = .ok (.getfield 66, 3) := by decide +kernel
theorem dX3_isGood_32 : decode cX3_isGood 32 = .ok (.ifCond .ne 17, 3) := by decide +kernel
theorem dX3_isGood_35 : decode cX3_isGood 35 = .ok (.aload_n 0, 1) := by decide +kernel
theorem dX3_isGood_36 : decode cX3_isGood 36 = .ok (.iload_n 1, 1) := by decide +kernel
theorem dX3_isGood_37 : decode cX3_isGood 37 = .ok (.iload_n 2, 1) := by decide +kernel
theorem dX3_isGood_38 : decode cX3_isGood 38 = .ok (.iconst (-1), 1) := by decide +kernel
theorem dX3_isGood_39 : decode cX3_isGood 39 = .ok (.invokevirtual 99, 3) := by decide +kernel
theorem dX3_isGood_42 : decode cX3_isGood 42 = .ok (.ifCond .eq 7, 3) := by decide +kernel
theorem dX3_isGood_45 : decode cX3_isGood 45 = .ok (.iconst 1, 1) := by decide +kernel
theorem dX3_isGood_46 : decode cX3_isGood 46 = .ok (.goto 4, 3) := by decide +kernel
theorem dX3_isGood_49 : decode cX3_isGood 49 = .ok (.iconst 0, 1) := by decide +kernel
theorem dX3_isGood_50 : decode cX3_isGood 50 = .ok (.ireturn, 1) := by decide +kernel
set_option maxRecDepth 20000 in
theorem ggX3_chainEnd_X3_isIssuer : GoodIn wsX3_chainEnd wsX3_isIssuer := goodIn_r _ [6, 7, 8, 9, 5, 10, 23, 24, 25, 26, 27, 28, 29, 30, 31, 32, 33, 34, 35, 36, 37, 38, 39, 40, 41, 42, 43, 44] (by decide +kernel) (by decide +kernel)
set_option maxRecDepth 20000 in
theorem gX3_chainEnd_X3_isIssuer : GoodIn wsX3_chainEnd (wsV RX3 79 RX3 yX3_isIssuer wsX3_isIssuer) := goodIn_app (goodIn_of _ (by decide +kernel)) ggX3_chainEnd_X3_isIssuer
set_option maxRecDepth 20000 in
theorem ggX3_chainEnd_X3_ends : GoodIn wsX3_chainEnd wsX3_ends := goodIn_r _ [14, 15, 16, 17, 18, 23, 24, 25, 26, 27, 28, 29, 30, 31, 32, 33, 34, 35, 36, 37, 38, 39, 40, 41, 42, 43, 44] (by decide +kernel) (by decide +kernel)
set_option maxRecDepth 20000 in
theorem gX3_chainEnd_X3_ends : GoodIn wsX3_chainEnd (wsV RX3 87 RX3 yX3_ends wsX3_ends) := goodIn_app (goodIn_of _ (by decide +kernel)) ggX3_chainEnd_X3_ends
set_option maxRecDepth 20000 in
theorem ggX3_chainEnd_X3_fails : GoodIn wsX3_chainEnd wsX3_fails := goodIn_r _ [22, 1, 23, 24, 25, 26, 27, 28, 29, 30, 31, 32, 33, 34, 35, 36, 37, 38, 39, 40, 41, 42, 43, 44] (by decide +kernel) (by decide +kernel)
set_option maxRecDepth 20000 in
theorem gX3_chainEnd_X3_fails : GoodIn wsX3_chainEnd (wsV RX3 83 RX3 yX3_fails wsX3_fails) := goodIn_app (goodIn_of _ (by decide +kernel)) ggX3_chainEnd_X3_fails
theorem dX3_chainEnd_0 : decode cX3_chainEnd 0 = .ok (.aload_n 0, 1) := by decide +kernel
theorem dX3_chainEnd_1 : decode cX3_chainEnd 1 = .ok (.iconst 0, 1) := by decide +kernel
theorem dX3_chainEnd_2 : decode cX3_chainEnd 2 = .ok (.putfield 66, 3) := by decide +kernel
theorem dX3_chainEnd_5 : decode cX3_chainEnd 5 = .ok (.aload_n 0, 1) := by decide +kernel
theorem dX3_chainEnd_6 : decode cX3_chainEnd 6 = .ok (.iload_n 1, 1) := by decide +kernel
theorem dX3_chainEnd_7 : decode cX3_chainEnd 7 = .ok (.invokevirtual 79, 3) := by decide +kernel
theorem dX3_chainEnd_10 : decode cX3_chainEnd 10 = .ok (.ifCond .eq 11, 3) := by decide +kernel
theorem dX3_chainEnd_13 : decode cX3_chainEnd 13 = .ok (.aload_n 0, 1) := by decide +kernel
theorem dX3_chainEnd_14 : decode cX3_chainEnd 14 = .ok (.iload_n 1, 1) := by decide +kernel
theorem dX3_chainEnd_15 : decode cX3_chainEnd 15 = .ok (.invokevirtual 87, 3) := by decide +kernel
theorem dX3_chainEnd_18 : decode cX3_chainEnd 18 = .ok (.goto 8, 3) := by decide +kernel
theorem dX3_chainEnd_21 : decode cX3_chainEnd 21 = .ok (.aload_n 0, 1) := by decide +kernel
theorem dX3_chainEnd_22 : decode cX3_chainEnd 22 = .ok (.iconst 1, 1) := by decide +kernel
theorem dX3_chainEnd_23 : decode cX3_chainEnd 23 = .ok (.invokevirtual 83, 3) := by decide +kernel
theorem dX3_chainEnd_26 : decode cX3_chainEnd 26 = .ok (.ireturn, 1) := by decide +kernel
set_option maxRecDepth 20000 in
theorem ggX3_chains_X3_isIssuer : GoodIn wsX3_chains wsX3_isIssuer := goodIn_r _ [6, 7, 8, 9, 5, 10, 22, 23, 24, 25, 26, 27, 28, 29, 30, 31, 32, 33, 34, 35, 36, 37, 38, 39, 40, 41, 42, 43] (by decide +kernel) (by decide +kernel)
set_option maxRecDepth 20000 in
theorem gX3_chains_X3_isIssuer : GoodIn wsX3_chains (wsV RX3 79 RX3 yX3_isIssuer wsX3_isIssuer) := goodIn_app (goodIn_of _ (by decide +kernel)) ggX3_chains_X3_isIssuer
set_option maxRecDepth 20000 in
theorem ggX3_chains_X3_ways : GoodIn wsX3_chains wsX3_ways := goodIn_r _ [14, 15, 16, 17, 22, 23, 24, 25, 26, 27, 28, 29, 30, 31, 32, 33, 34, 35, 36, 37, 38, 39, 40, 41, 42, 43] (by decide +kernel) (by decide +kernel)
set_option maxRecDepth 20000 in
theorem gX3_chains_X3_ways : GoodIn wsX3_chains (wsV RX3 140 RX3 yX3_ways wsX3_ways) := goodIn_app (goodIn_of _ (by decide +kernel)) ggX3_chains_X3_ways
set_option maxRecDepth 20000 in
theorem ggX3_chains_X3_fails : GoodIn wsX3_chains wsX3_fails := goodIn_r _ [21, 1, 22, 23, 24, 25, 26, 27, 28, 29, 30, 31, 32, 33, 34, 35, 36, 37, 38, 39, 40, 41, 42, 43] (by decide +kernel) (by decide +kernel)
set_option maxRecDepth 20000 in
theorem gX3_chains_X3_fails : GoodIn wsX3_chains (wsV RX3 83 RX3 yX3_fails wsX3_fails) := goodIn_app (goodIn_of _ (by decide +kernel)) ggX3_chains_X3_fails
theorem dX3_chains_0 : decode cX3_chains 0 = .ok (.aload_n 0, 1) := by decide +kernel
theorem dX3_chains_1 : decode cX3_chains 1 = .ok (.iconst 0, 1) := by decide +kernel
theorem dX3_chains_2 : decode cX3_chains 2 = .ok (.putfield 66, 3) := by decide +kernel
theorem dX3_chains_5 : decode cX3_chains 5 = .ok (.aload_n 0, 1) := by decide +kernel
theorem dX3_chains_6 : decode cX3_chains 6 = .ok (.iload_n 1, 1) := by decide +kernel
theorem dX3_chains_7 : decode cX3_chains 7 = .ok (.invokevirtual 79, 3) := by decide +kernel
theorem dX3_chains_10 : decode cX3_chains 10 = .ok (.ifCond .eq 11, 3) := by decide +kernel
theorem dX3_chains_13 : decode cX3_chains 13 = .ok (.aload_n 0, 1) := by decide +kernel
theorem dX3_chains_14 : decode cX3_chains 14 = .ok (.iload_n 1, 1) := by decide +kernel
theorem dX3_chains_15 : decode cX3_chains 15 = .ok (.invokevirtual 140, 3) := by decide +kernel
theorem dX3_chains_18 : decode cX3_chains 18 = .ok (.goto 8, 3) := by decide +kernel
theorem dX3_chains_21 : decode cX3_chains 21 = .ok (.aload_n 0, 1) := by decide +kernel
theorem dX3_chains_22 : decode cX3_chains 22 = .ok (.iconst 1, 1) := by decide +kernel
theorem dX3_chains_23 : decode cX3_chains 23 = .ok (.invokevirtual 83, 3) := by decide +kernel
theorem dX3_chains_26 : decode cX3_chains 26 = .ok (.ireturn, 1) := by decide +kernel
set_option maxRecDepth 20000 in
theorem ggX3_names_X3_last : GoodIn wsX3_names wsX3_last := goodIn_r _ [9, 2, 10, 27, 28, 29, 30, 31, 32, 33, 34, 35, 36, 37, 38, 39, 40, 41, 42, 43, 44, 45, 46, 47, 48] (by decide +kernel) (by decide +kernel)
set_option maxRecDepth 20000 in
theorem gX3_names_X3_last : GoodIn wsX3_names (wsV RX3 120 RX3 yX3_last wsX3_last) := goodIn_app (goodIn_of _ (by decide +kernel)) ggX3_names_X3_last
set_option maxRecDepth 20000 in
theorem ggX3_names_X3_in : GoodIn wsX3_names wsX3_in := goodIn_r _ [13] (by decide +kernel) (by decide +kernel)
set_option maxRecDepth 20000 in
theorem gX3_names_X3_in : GoodIn wsX3_names (va_wsS RX3 72 yX3_in wsX3_in) := goodIn_app (goodIn_of _ (by decide +kernel)) ggX3_names_X3_in
set_option maxRecDepth 20000 in
theorem ggX3_names_X3_holds : GoodIn wsX3_names wsX3_holds := goodIn_r _ [17, 18, 19, 20, 21, 22, 23, 11, 12, 8, 13, 27, 28, 29, 30, 31, 32, 33, 34, 35, 36, 37, 38, 39, 40, 41, 42, 43, 44, 45, 46, 47, 48] (by decide +kernel) (by decide +kernel)
set_option maxRecDepth 20000 in
theorem gX3_names_X3_holds : GoodIn wsX3_names (wsV RX3 99 RX3 yX3_holds wsX3_holds) := goodIn_app (goodIn_of _ (by decide +kernel)) ggX3_names_X3_holds
set_option maxRecDepth 20000 in
theorem ggX3_names_X3_covers : GoodIn wsX3_names wsX3_covers := goodIn_r _ [26] (by decide +kernel) (by decide +kernel)
set_option maxRecDepth 20000 in
theorem gX3_names_X3_covers : GoodIn wsX3_names (va_wsS RX3 105 yX3_covers wsX3_covers) := goodIn_app (goodIn_of _ (by decide +kernel)) ggX3_names_X3_covers
theorem dX3_names_0 : decode cX3_names 0 = .ok (.iconst 0, 1) := by decide +kernel
theorem dX3_names_1 : decode cX3_names 1 = .ok (.istore_n 3, 1) := by decide +kernel
theorem dX3_names_2 : decode cX3_names 2 = .ok (.iconst 0, 1) := by decide +kernel
theorem dX3_names_3 : decode cX3_names 3 = .ok (.istore 4, 2) := by decide +kernel
theorem dX3_names_5 : decode cX3_names 5 = .ok (.iload 4, 2) := by decide +kernel
theorem dX3_names_7 : decode cX3_names 7 = .ok (.aload_n 0, 1) := by decide +kernel
theorem dX3_names_8 : decode cX3_names 8 = .ok (.getfield 76, 3) := by decide +kernel
theorem dX3_names_11 : decode cX3_names 11 = .ok (.if_icmp .ge 99, 3) := by decide +kernel
theorem dX3_names_14 : decode cX3_names 14 = .ok (.iload_n 1, 1) := by decide +kernel
theorem dX3_names_15 : decode cX3_names 15 = .ok (.aload_n 0, 1) := by decide +kernel
theorem dX3_names_16 : decode cX3_names 16 = .ok (.getfield 51, 3) := by decide +kernel
theorem dX3_names_19 : decode cX3_names 19 = .ok (.iload 4, 2) := by decide +kernel
theorem dX3_names_21 : decode cX3_names 21 = .ok (.iaload, 1) := by decide +kernel
theorem dX3_names_22 : decode cX3_names 22 = .ok (.aload_n 0, 1) := by decide +kernel
theorem dX3_names_23 : decode cX3_names 23 = .ok (.iload 4, 2) := by decide +kernel
theorem dX3_names_25 : decode cX3_names 25 = .ok (.invokevirtual 120, 3) := by decide +kernel
theorem dX3_names_28 : decode cX3_names 28 = .ok (.invokestatic 72, 3) := by decide +kernel
theorem dX3_names_31 : decode cX3_names 31 = .ok (.ifCond .eq 23, 3) := by decide +kernel
theorem dX3_names_34 : decode cX3_names 34 = .ok (.aload_n 0, 1) := by decide +kernel
theorem dX3_names_35 : decode cX3_names 35 = .ok (.aload_n 0, 1) := by decide +kernel
theorem dX3_names_36 : decode cX3_names 36 = .ok (.getfield 48, 3) := by decide +kernel
theorem dX3_names_39 : decode cX3_names 39 = .ok (.iload 4, 2) := by decide +kernel
theorem dX3_names_41 : decode cX3_names 41 = .ok (.iaload, 1) := by decide +kernel
theorem dX3_names_42 : decode cX3_names 42 = .ok (.iload_n 1, 1) := by decide +kernel
theorem dX3_names_43 : decode cX3_names 43 = .ok (.iload_n 2, 1) := by decide +kernel
theorem dX3_names_44 : decode cX3_names 44 = .ok (.invokevirtual 99, 3) := by decide +kernel
theorem dX3_names_47 : decode cX3_names 47 = .ok (.ifCond .eq 7, 3) := by decide +kernel
theorem dX3_names_50 : decode cX3_names 50 = .ok (.iconst 1, 1) := by decide +kernel
theorem dX3_names_51 : decode cX3_names 51 = .ok (.goto 4, 3) := by decide +kernel
theorem dX3_names_54 : decode cX3_names 54 = .ok (.iconst 0, 1) := by decide +kernel
theorem dX3_names_55 : decode cX3_names 55 = .ok (.istore 5, 2) := by decide +kernel
theorem dX3_names_57 : decode cX3_names 57 = .ok (.iconst 0, 1) := by decide +kernel
theorem dX3_names_58 : decode cX3_names 58 = .ok (.istore 6, 2) := by decide +kernel
theorem dX3_names_60 : decode cX3_names 60 = .ok (.iload 6, 2) := by decide +kernel
theorem dX3_names_62 : decode cX3_names 62 = .ok (.bipush 16, 2) := by decide +kernel
theorem dX3_names_64 : decode cX3_names 64 = .ok (.if_icmp .ge 40, 3) := by decide +kernel
theorem dX3_names_67 : decode cX3_names 67 = .ok (.iload 5, 2) := by decide +kernel
theorem dX3_names_69 : decode cX3_names 69 = .ok (.ifCond .eq 35, 3) := by decide +kernel
theorem dX3_names_72 : decode cX3_names 72 = .ok (.iload_n 3, 1) := by decide +kernel
theorem dX3_names_73 : decode cX3_names 73 = .ok (.aload_n 0, 1) := by decide +kernel
theorem dX3_names_74 : decode cX3_names 74 = .ok (.getfield 45, 3) := by decide +kernel
theorem dX3_names_77 : decode cX3_names 77 = .ok (.iload 4, 2) := by decide +kernel
theorem dX3_names_79 : decode cX3_names 79 = .ok (.iaload, 1) := by decide +kernel
theorem dX3_names_80 : decode cX3_names 80 = .ok (.iload 6, 2) := by decide +kernel
theorem dX3_names_82 : decode cX3_names 82 = .ok (.invokestatic 105, 3) := by decide +kernel
theorem dX3_names_85 : decode cX3_names 85 = .ok (.ifCond .eq 10, 3) := by decide +kernel
theorem dX3_names_88 : decode cX3_names 88 = .ok (.iconst 1, 1) := by decide +kernel
theorem dX3_names_89 : decode cX3_names 89 = .ok (.iload 6, 2) := by decide +kernel
theorem dX3_names_91 : decode cX3_names 91 = .ok (.ishl, 1) := by decide +kernel
theorem dX3_names_92 : decode cX3_names 92 = .ok (.goto 4, 3) := by decide +kernel
theorem dX3_names_95 : decode cX3_names 95 = .ok (.iconst 0, 1) := by decide +kernel
theorem dX3_names_96 : decode cX3_names 96 = .ok (.ior, 1) := by decide +kernel
theorem dX3_names_97 : decode cX3_names 97 = .ok (.istore_n 3, 1) := by decide +kernel
theorem dX3_names_98 : decode cX3_names 98 = .ok (.iinc 6 1, 3) := by decide +kernel
theorem dX3_names_101 : decode cX3_names 101 = .ok (.goto (-41), 3) := by decide +kernel
theorem dX3_names_104 : decode cX3_names 104 = .ok (.iinc 4 1, 3) := by decide +kernel
theorem dX3_names_107 : decode cX3_names 107 = .ok (.goto (-102), 3) := by decide +kernel
theorem dX3_names_110 : decode cX3_names 110 = .ok (.iload_n 3, 1) := by decide +kernel
theorem dX3_names_111 : decode cX3_names 111 = .ok (.ireturn, 1) := by decide +kernel
set_option maxRecDepth 20000 in
theorem ggX3_isCovered_X3_isName : GoodIn wsX3_isCovered wsX3_isName := goodIn_r _ [5, 6, 7, 4, 8] (by decide +kernel) (by decide +kernel)
set_option maxRecDepth 20000 in
theorem gX3_isCovered_X3_isName : GoodIn wsX3_isCovered (va_wsS RX3 93 yX3_isName wsX3_isName) := goodIn_app (goodIn_of _ (by decide +kernel)) ggX3_isCovered_X3_isName
set_option maxRecDepth 20000 in
theorem ggX3_isCovered_X3_isDay : GoodIn wsX3_isCovered wsX3_isDay := goodIn_r _ [11, 6, 7, 4, 8] (by decide +kernel) (by decide +kernel)
set_option maxRecDepth 20000 in
theorem gX3_isCovered_X3_isDay : GoodIn wsX3_isCovered (va_wsS RX3 90 yX3_isDay wsX3_isDay) := goodIn_app (goodIn_of _ (by decide +kernel)) ggX3_isCovered_X3_isDay
set_option maxRecDepth 20000 in
theorem ggX3_isCovered_X3_names : GoodIn wsX3_isCovered wsX3_names := goodIn_r _ [15, 16, 17, 18, 19, 20, 21, 22, 4, 23, 24, 6, 7, 8, 25, 26, 27, 28, 29, 30, 31, 32, 33, 34, 35, 36, 37, 38, 39, 40, 41, 42, 43, 44, 45, 46, 47, 48, 49, 50, 51, 52, 53, 54, 55, 56, 57, 58, 59] (by decide +kernel) (by decide +kernel)
set_option maxRecDepth 20000 in
theorem gX3_isCovered_X3_names : GoodIn wsX3_isCovered (wsV RX3 143 RX3 yX3_names wsX3_names) := goodIn_app (goodIn_of _ (by decide +kernel)) ggX3_isCovered_X3_names
theorem dX3_isCovered_0 : decode cX3_isCovered 0 = .ok (.aload_n 0, 1) := by decide +kernel
theorem dX3_isCovered_1 : decode cX3_isCovered 1 = .ok (.iload_n 1, 1) := by decide +kernel
theorem dX3_isCovered_2 : decode cX3_isCovered 2 = .ok (.invokestatic 93, 3) := by decide +kernel
theorem dX3_isCovered_5 : decode cX3_isCovered 5 = .ok (.ifCond .ne 7, 3) := by decide +kernel
theorem dX3_isCovered_8 : decode cX3_isCovered 8 = .ok (.iconst 1, 1) := by decide +kernel
theorem dX3_isCovered_9 : decode cX3_isCovered 9 = .ok (.goto 15, 3) := by decide +kernel
theorem dX3_isCovered_12 : decode cX3_isCovered 12 = .ok (.iload_n 2, 1) := by decide +kernel
theorem dX3_isCovered_13 : decode cX3_isCovered 13 = .ok (.invokestatic 90, 3) := by decide +kernel
theorem dX3_isCovered_16 : decode cX3_isCovered 16 = .ok (.ifCond .eq 7, 3) := by decide +kernel
theorem dX3_isCovered_19 : decode cX3_isCovered 19 = .ok (.iconst 0, 1) := by decide +kernel
theorem dX3_isCovered_20 : decode cX3_isCovered 20 = .ok (.goto 4, 3) := by decide +kernel
theorem dX3_isCovered_23 : decode cX3_isCovered 23 = .ok (.iconst 2, 1) := by decide +kernel
theorem dX3_isCovered_24 : decode cX3_isCovered 24 = .ok (.putfield 66, 3) := by decide +kernel
theorem dX3_isCovered_27 : decode cX3_isCovered 27 = .ok (.aload_n 0, 1) := by decide +kernel
theorem dX3_isCovered_28 : decode cX3_isCovered 28 = .ok (.getfield 66, 3) := by decide +kernel
theorem dX3_isCovered_31 : decode cX3_isCovered 31 = .ok (.ifCond .ne 21, 3) := by decide +kernel
theorem dX3_isCovered_34 : decode cX3_isCovered 34 = .ok (.aload_n 0, 1) := by decide +kernel
theorem dX3_isCovered_35 : decode cX3_isCovered 35 = .ok (.iload_n 2, 1) := by decide +kernel
theorem dX3_isCovered_36 : decode cX3_isCovered 36 = .ok (.iconst (-1), 1) := by decide +kernel
theorem dX3_isCovered_37 : decode cX3_isCovered 37 = .ok (.invokevirtual 143, 3) := by decide +kernel
theorem dX3_isCovered_40 : decode cX3_isCovered 40 = .ok (.iload_n 1, 1) := by decide +kernel
theorem dX3_isCovered_41 : decode cX3_isCovered 41 = .ok (.ishr, 1) := by decide +kernel
theorem dX3_isCovered_42 : decode cX3_isCovered 42 = .ok (.iconst 1, 1) := by decide +kernel
theorem dX3_isCovered_43 : decode cX3_isCovered 43 = .ok (.iand, 1) := by decide +kernel
theorem dX3_isCovered_44 : decode cX3_isCovered 44 = .ok (.iconst 1, 1) := by decide +kernel
theorem dX3_isCovered_45 : decode cX3_isCovered 45 = .ok (.if_icmp .ne 7, 3) := by decide +kernel
theorem dX3_isCovered_48 : decode cX3_isCovered 48 = .ok (.iconst 1, 1) := by decide +kernel
theorem dX3_isCovered_49 : decode cX3_isCovered 49 = .ok (.goto 4, 3) := by decide +kernel
theorem dX3_isCovered_52 : decode cX3_isCovered 52 = .ok (.iconst 0, 1) := by decide +kernel
theorem dX3_isCovered_53 : decode cX3_isCovered 53 = .ok (.ireturn, 1) := by decide +kernel
set_option maxRecDepth 20000 in
theorem ggX3_nextGap_X3_isName : GoodIn wsX3_nextGap wsX3_isName := goodIn_r _ [5, 6, 7, 4, 8] (by decide +kernel) (by decide +kernel)
set_option maxRecDepth 20000 in
theorem gX3_nextGap_X3_isName : GoodIn wsX3_nextGap (va_wsS RX3 93 yX3_isName wsX3_isName) := goodIn_app (goodIn_of _ (by decide +kernel)) ggX3_nextGap_X3_isName
set_option maxRecDepth 20000 in
theorem ggX3_nextGap_X3_isDay : GoodIn wsX3_nextGap wsX3_isDay := goodIn_r _ [11, 6, 7, 4, 8] (by decide +kernel) (by decide +kernel)
set_option maxRecDepth 20000 in
theorem gX3_nextGap_X3_isDay : GoodIn wsX3_nextGap (va_wsS RX3 90 yX3_isDay wsX3_isDay) := goodIn_app (goodIn_of _ (by decide +kernel)) ggX3_nextGap_X3_isDay
set_option maxRecDepth 20000 in
theorem ggX3_nextGap_X3_names : GoodIn wsX3_nextGap wsX3_names := goodIn_r _ [15, 16, 17, 18, 19, 20, 21, 22, 4, 23, 24, 6, 7, 8, 25, 26, 27, 28, 29, 30, 31, 32, 33, 34, 35, 36, 37, 38, 39, 40, 41, 42, 43, 44, 45, 46, 47, 48, 49, 50, 51, 52, 53, 54, 55, 56, 57, 58, 59] (by decide +kernel) (by decide +kernel)
set_option maxRecDepth 20000 in
theorem gX3_nextGap_X3_names : GoodIn wsX3_nextGap (wsV RX3 143 RX3 yX3_names wsX3_names) := goodIn_app (goodIn_of _ (by decide +kernel)) ggX3_nextGap_X3_names
theorem dX3_nextGap_0 : decode cX3_nextGap 0 = .ok (.aload_n 0, 1) := by decide +kernel
theorem dX3_nextGap_1 : decode cX3_nextGap 1 = .ok (.iload_n 1, 1) := by decide +kernel
theorem dX3_nextGap_2 : decode cX3_nextGap 2 = .ok (.invokestatic 93, 3) := by decide +kernel
theorem dX3_nextGap_5 : decode cX3_nextGap 5 = .ok (.ifCond .ne 7, 3) := by decide +kernel
theorem dX3_nextGap_8 : decode cX3_nextGap 8 = .ok (.iconst 1, 1) := by decide +kernel
theorem dX3_nextGap_9 : decode cX3_nextGap 9 = .ok (.goto 15, 3) := by decide +kernel
theorem dX3_nextGap_12 : decode cX3_nextGap 12 = .ok (.iload_n 2, 1) := by decide +kernel
theorem dX3_nextGap_13 : decode cX3_nextGap 13 = .ok (.invokestatic 90, 3) := by decide +kernel
theorem dX3_nextGap_16 : decode cX3_nextGap 16 = .ok (.ifCond .eq 7, 3) := by decide +kernel
theorem dX3_nextGap_19 : decode cX3_nextGap 19 = .ok (.iconst 0, 1) := by decide +kernel
theorem dX3_nextGap_20 : decode cX3_nextGap 20 = .ok (.goto 4, 3) := by decide +kernel
theorem dX3_nextGap_23 : decode cX3_nextGap 23 = .ok (.iconst 2, 1) := by decide +kernel
theorem dX3_nextGap_24 : decode cX3_nextGap 24 = .ok (.putfield 66, 3) := by decide +kernel
theorem dX3_nextGap_27 : decode cX3_nextGap 27 = .ok (.aload_n 0, 1) := by decide +kernel
theorem dX3_nextGap_28 : decode cX3_nextGap 28 = .ok (.getfield 66, 3) := by decide +kernel
theorem dX3_nextGap_31 : decode cX3_nextGap 31 = .ok (.ifCond .le 5, 3) := by decide +kernel
theorem dX3_nextGap_34 : decode cX3_nextGap 34 = .ok (.iconst 0, 1) := by decide +kernel
theorem dX3_nextGap_35 : decode cX3_nextGap 35 = .ok (.ireturn, 1) := by decide +kernel
theorem dX3_nextGap_36 : decode cX3_nextGap 36 = .ok (.iload_n 2, 1) := by decide +kernel
theorem dX3_nextGap_37 : decode cX3_nextGap 37 = .ok (.istore_n 3, 1) := by decide +kernel
theorem dX3_nextGap_38 : decode cX3_nextGap 38 = .ok (.iload_n 3, 1) := by decide +kernel
theorem dX3_nextGap_39 : decode cX3_nextGap 39 = .ok (.sipush 5000, 3) := by decide +kernel
theorem dX3_nextGap_42 : decode cX3_nextGap 42 = .ok (.if_icmp .gt 23, 3) := by decide +kernel
theorem dX3_nextGap_45 : decode cX3_nextGap 45 = .ok (.aload_n 0, 1) := by decide +kernel
theorem dX3_nextGap_46 : decode cX3_nextGap 46 = .ok (.iload_n 3, 1) := by decide +kernel
theorem dX3_nextGap_47 : decode cX3_nextGap 47 = .ok (.iconst (-1), 1) := by decide +kernel
theorem dX3_nextGap_48 : decode cX3_nextGap 48 = .ok (.invokevirtual 143, 3) := by decide +kernel
theorem dX3_nextGap_51 : decode cX3_nextGap 51 = .ok (.iload_n 1, 1) := by decide +kernel
theorem dX3_nextGap_52 : decode cX3_nextGap 52 = .ok (.ishr, 1) := by decide +kernel
theorem dX3_nextGap_53 : decode cX3_nextGap 53 = .ok (.iconst 1, 1) := by decide +kernel
theorem dX3_nextGap_54 : decode cX3_nextGap 54 = .ok (.iand, 1) := by decide +kernel
theorem dX3_nextGap_55 : decode cX3_nextGap 55 = .ok (.iconst 1, 1) := by decide +kernel
theorem dX3_nextGap_56 : decode cX3_nextGap 56 = .ok (.if_icmp .ne 9, 3) := by decide +kernel
theorem dX3_nextGap_59 : decode cX3_nextGap 59 = .ok (.iinc 3 1, 3) := by decide +kernel
theorem dX3_nextGap_62 : decode cX3_nextGap 62 = .ok (.goto (-24), 3) := by decide +kernel
theorem dX3_nextGap_65 : decode cX3_nextGap 65 = .ok (.iload_n 3, 1) := by decide +kernel
theorem dX3_nextGap_66 : decode cX3_nextGap 66 = .ok (.sipush 5000, 3) := by decide +kernel
theorem dX3_nextGap_69 : decode cX3_nextGap 69 = .ok (.if_icmp .le 7, 3) := by decide +kernel
theorem dX3_nextGap_72 : decode cX3_nextGap 72 = .ok (.iconst (-1), 1) := by decide +kernel
theorem dX3_nextGap_73 : decode cX3_nextGap 73 = .ok (.goto 4, 3) := by decide +kernel
theorem dX3_nextGap_76 : decode cX3_nextGap 76 = .ok (.iload_n 3, 1) := by decide +kernel
theorem dX3_nextGap_77 : decode cX3_nextGap 77 = .ok (.ireturn, 1) := by decide +kernel
set_option maxRecDepth 20000 in
theorem ggX3_covered_X3_isDay : GoodIn wsX3_covered wsX3_isDay := goodIn_r _ [5, 6, 7, 4, 8] (by decide +kernel) (by decide +kernel)
set_option maxRecDepth 20000 in
theorem gX3_covered_X3_isDay : GoodIn wsX3_covered (va_wsS RX3 90 yX3_isDay wsX3_isDay) := goodIn_app (goodIn_of _ (by decide +kernel)) ggX3_covered_X3_isDay
set_option maxRecDepth 20000 in
theorem ggX3_covered_X3_names : GoodIn wsX3_covered wsX3_names := goodIn_r _ [12, 13, 14, 15, 16, 17, 18, 19, 4, 20, 21, 6, 7, 8, 22, 23, 24, 25, 26, 27, 28, 29, 30, 31, 32, 33, 34, 35, 36, 37, 38, 39, 40, 41, 42, 43, 44, 45, 46, 47, 48, 49, 50, 51, 52, 53, 54, 55, 56] (by decide +kernel) (by decide +kernel)
set_option maxRecDepth 20000 in
theorem gX3_covered_X3_names : GoodIn wsX3_covered (wsV RX3 143 RX3 yX3_names wsX3_names) := goodIn_app (goodIn_of _ (by decide +kernel)) ggX3_covered_X3_names
theorem dX3_covered_0 : decode cX3_covered 0 = .ok (.aload_n 0, 1) := by decide +kernel
theorem dX3_covered_1 : decode cX3_covered 1 = .ok (.iload_n 1, 1) := by decide +kernel
theorem dX3_covered_2 : decode cX3_covered 2 = .ok (.invokestatic 90, 3) := by decide +kernel
theorem dX3_covered_5 : decode cX3_covered 5 = .ok (.ifCond .eq 7, 3) := by decide +kernel
theorem dX3_covered_8 : decode cX3_covered 8 = .ok (.iconst 0, 1) := by decide +kernel
theorem dX3_covered_9 : decode cX3_covered 9 = .ok (.goto 4, 3) := by decide +kernel
theorem dX3_covered_12 : decode cX3_covered 12 = .ok (.iconst 1, 1) := by decide +kernel
theorem dX3_covered_13 : decode cX3_covered 13 = .ok (.putfield 66, 3) := by decide +kernel
theorem dX3_covered_16 : decode cX3_covered 16 = .ok (.aload_n 0, 1) := by decide +kernel
theorem dX3_covered_17 : decode cX3_covered 17 = .ok (.getfield 66, 3) := by decide +kernel
theorem dX3_covered_20 : decode cX3_covered 20 = .ok (.ifCond .le 7, 3) := by decide +kernel
theorem dX3_covered_23 : decode cX3_covered 23 = .ok (.iconst 0, 1) := by decide +kernel
theorem dX3_covered_24 : decode cX3_covered 24 = .ok (.goto 9, 3) := by decide +kernel
theorem dX3_covered_27 : decode cX3_covered 27 = .ok (.aload_n 0, 1) := by decide +kernel
theorem dX3_covered_28 : decode cX3_covered 28 = .ok (.iload_n 1, 1) := by decide +kernel
theorem dX3_covered_29 : decode cX3_covered 29 = .ok (.iconst (-1), 1) := by decide +kernel
theorem dX3_covered_30 : decode cX3_covered 30 = .ok (.invokevirtual 143, 3) := by decide +kernel
theorem dX3_covered_33 : decode cX3_covered 33 = .ok (.ireturn, 1) := by decide +kernel
set_option maxRecDepth 20000 in
theorem ggX3_breaks_X3_isIssuer : GoodIn wsX3_breaks wsX3_isIssuer := goodIn_r _ [6, 7, 8, 9, 5, 10, 40, 41, 42, 43, 44, 45, 46, 47, 48, 49, 50, 51, 52, 53, 54, 55, 56, 57, 58, 59, 60, 61] (by decide +kernel) (by decide +kernel)
set_option maxRecDepth 20000 in
theorem gX3_breaks_X3_isIssuer : GoodIn wsX3_breaks (wsV RX3 79 RX3 yX3_isIssuer wsX3_isIssuer) := goodIn_app (goodIn_of _ (by decide +kernel)) ggX3_breaks_X3_isIssuer
set_option maxRecDepth 20000 in
theorem ggX3_breaks_X3_isDay : GoodIn wsX3_breaks wsX3_isDay := goodIn_r _ [13, 8, 9, 5, 10] (by decide +kernel) (by decide +kernel)
set_option maxRecDepth 20000 in
theorem gX3_breaks_X3_isDay : GoodIn wsX3_breaks (va_wsS RX3 90 yX3_isDay wsX3_isDay) := goodIn_app (goodIn_of _ (by decide +kernel)) ggX3_breaks_X3_isDay
set_option maxRecDepth 20000 in
theorem ggX3_breaks_X3_names : GoodIn wsX3_breaks wsX3_names := goodIn_r _ [17, 18, 19, 20, 21, 22, 23, 24, 5, 25, 26, 8, 9, 10, 27, 28, 29, 30, 31, 32, 33, 34, 35, 36, 37, 38, 39, 40, 41, 42, 43, 44, 45, 46, 47, 48, 49, 50, 51, 52, 53, 54, 55, 56, 57, 58, 59, 60, 61] (by decide +kernel) (by decide +kernel)
set_option maxRecDepth 20000 in
theorem gX3_breaks_X3_names : GoodIn wsX3_breaks (wsV RX3 143 RX3 yX3_names wsX3_names) := goodIn_app (goodIn_of _ (by decide +kernel)) ggX3_breaks_X3_names
theorem dX3_breaks_0 : decode cX3_breaks 0 = .ok (.aload_n 0, 1) := by decide +kernel
theorem dX3_breaks_1 : decode cX3_breaks 1 = .ok (.aload_n 0, 1) := by decide +kernel
theorem dX3_breaks_2 : decode cX3_breaks 2 = .ok (.iload_n 1, 1) := by decide +kernel
theorem dX3_breaks_3 : decode cX3_breaks 3 = .ok (.invokevirtual 79, 3) := by decide +kernel
theorem dX3_breaks_6 : decode cX3_breaks 6 = .ok (.ifCond .ne 7, 3) := by decide +kernel
theorem dX3_breaks_9 : decode cX3_breaks 9 = .ok (.iconst 1, 1) := by decide +kernel
theorem dX3_breaks_10 : decode cX3_breaks 10 = .ok (.goto 15, 3) := by decide +kernel
theorem dX3_breaks_13 : decode cX3_breaks 13 = .ok (.iload_n 2, 1) := by decide +kernel
theorem dX3_breaks_14 : decode cX3_breaks 14 = .ok (.invokestatic 90, 3) := by decide +kernel
theorem dX3_breaks_17 : decode cX3_breaks 17 = .ok (.ifCond .eq 7, 3) := by decide +kernel
theorem dX3_breaks_20 : decode cX3_breaks 20 = .ok (.iconst 0, 1) := by decide +kernel
theorem dX3_breaks_21 : decode cX3_breaks 21 = .ok (.goto 4, 3) := by decide +kernel
theorem dX3_breaks_24 : decode cX3_breaks 24 = .ok (.iconst 2, 1) := by decide +kernel
theorem dX3_breaks_25 : decode cX3_breaks 25 = .ok (.putfield 66, 3) := by decide +kernel
theorem dX3_breaks_28 : decode cX3_breaks 28 = .ok (.aload_n 0, 1) := by decide +kernel
theorem dX3_breaks_29 : decode cX3_breaks 29 = .ok (.getfield 66, 3) := by decide +kernel
theorem dX3_breaks_32 : decode cX3_breaks 32 = .ok (.ifCond .le 7, 3) := by decide +kernel
theorem dX3_breaks_35 : decode cX3_breaks 35 = .ok (.iconst 0, 1) := by decide +kernel
theorem dX3_breaks_36 : decode cX3_breaks 36 = .ok (.goto 18, 3) := by decide +kernel
theorem dX3_breaks_39 : decode cX3_breaks 39 = .ok (.aload_n 0, 1) := by decide +kernel
theorem dX3_breaks_40 : decode cX3_breaks 40 = .ok (.iload_n 2, 1) := by decide +kernel
theorem dX3_breaks_41 : decode cX3_breaks 41 = .ok (.iconst (-1), 1) := by decide +kernel
theorem dX3_breaks_42 : decode cX3_breaks 42 = .ok (.invokevirtual 143, 3) := by decide +kernel
theorem dX3_breaks_45 : decode cX3_breaks 45 = .ok (.aload_n 0, 1) := by decide +kernel
theorem dX3_breaks_46 : decode cX3_breaks 46 = .ok (.iload_n 2, 1) := by decide +kernel
theorem dX3_breaks_47 : decode cX3_breaks 47 = .ok (.iload_n 1, 1) := by decide +kernel
theorem dX3_breaks_48 : decode cX3_breaks 48 = .ok (.invokevirtual 143, 3) := by decide +kernel
theorem dX3_breaks_51 : decode cX3_breaks 51 = .ok (.iconst (-1), 1) := by decide +kernel
theorem dX3_breaks_52 : decode cX3_breaks 52 = .ok (.ixor, 1) := by decide +kernel
theorem dX3_breaks_53 : decode cX3_breaks 53 = .ok (.iand, 1) := by decide +kernel
theorem dX3_breaks_54 : decode cX3_breaks 54 = .ok (.ireturn, 1) := by decide +kernel
set_option maxRecDepth 20000 in
theorem ggX3_weakest_X3_isDay : GoodIn wsX3_weakest wsX3_isDay := goodIn_r _ [6, 7, 8, 5, 9] (by decide +kernel) (by decide +kernel)
set_option maxRecDepth 20000 in
theorem gX3_weakest_X3_isDay : GoodIn wsX3_weakest (va_wsS RX3 90 yX3_isDay wsX3_isDay) := goodIn_app (goodIn_of _ (by decide +kernel)) ggX3_weakest_X3_isDay
set_option maxRecDepth 20000 in
theorem ggX3_weakest_X3_names : GoodIn wsX3_weakest wsX3_names := goodIn_r _ [13, 14, 15, 16, 17, 18, 19, 20, 5, 21, 22, 7, 8, 9, 23, 24, 25, 26, 27, 28, 29, 30, 31, 32, 33, 34, 35, 36, 37, 38, 39, 40, 41, 42, 43, 44, 45, 46, 47, 48, 49, 50, 51, 52, 53, 54, 55, 56, 57] (by decide +kernel) (by decide +kernel)
set_option maxRecDepth 20000 in
theorem gX3_weakest_X3_names : GoodIn wsX3_weakest (wsV RX3 143 RX3 yX3_names wsX3_names) := goodIn_app (goodIn_of _ (by decide +kernel)) ggX3_weakest_X3_names
theorem dX3_weakest_0 : decode cX3_weakest 0 = .ok (.aload_n 0, 1) := by decide +kernel
theorem dX3_weakest_1 : decode cX3_weakest 1 = .ok (.iload_n 1, 1) := by decide +kernel
theorem dX3_weakest_2 : decode cX3_weakest 2 = .ok (.invokestatic 90, 3) := by decide +kernel
theorem dX3_weakest_5 : decode cX3_weakest 5 = .ok (.ifCond .eq 7, 3) := by decide +kernel
theorem dX3_weakest_8 : decode cX3_weakest 8 = .ok (.iconst 0, 1) := by decide +kernel
theorem dX3_weakest_9 : decode cX3_weakest 9 = .ok (.goto 4, 3) := by decide +kernel
theorem dX3_weakest_12 : decode cX3_weakest 12 = .ok (.iconst 1, 1) := by decide +kernel
theorem dX3_weakest_13 : decode cX3_weakest 13 = .ok (.putfield 66, 3) := by decide +kernel
theorem dX3_weakest_16 : decode cX3_weakest 16 = .ok (.iconst (-1), 1) := by decide +kernel
theorem dX3_weakest_17 : decode cX3_weakest 17 = .ok (.istore_n 2, 1) := by decide +kernel
theorem dX3_weakest_18 : decode cX3_weakest 18 = .ok (.iconst 0, 1) := by decide +kernel
theorem dX3_weakest_19 : decode cX3_weakest 19 = .ok (.istore_n 3, 1) := by decide +kernel
theorem dX3_weakest_20 : decode cX3_weakest 20 = .ok (.iconst 0, 1) := by decide +kernel
theorem dX3_weakest_21 : decode cX3_weakest 21 = .ok (.istore 4, 2) := by decide +kernel
theorem dX3_weakest_23 : decode cX3_weakest 23 = .ok (.iload 4, 2) := by decide +kernel
theorem dX3_weakest_25 : decode cX3_weakest 25 = .ok (.aload_n 0, 1) := by decide +kernel
theorem dX3_weakest_26 : decode cX3_weakest 26 = .ok (.getfield 69, 3) := by decide +kernel
theorem dX3_weakest_29 : decode cX3_weakest 29 = .ok (.if_icmp .ge 91, 3) := by decide +kernel
theorem dX3_weakest_32 : decode cX3_weakest 32 = .ok (.aload_n 0, 1) := by decide +kernel
theorem dX3_weakest_33 : decode cX3_weakest 33 = .ok (.getfield 66, 3) := by decide +kernel
theorem dX3_weakest_36 : decode cX3_weakest 36 = .ok (.ifCond .ne 84, 3) := by decide +kernel
theorem dX3_weakest_39 : decode cX3_weakest 39 = .ok (.aload_n 0, 1) := by decide +kernel
theorem dX3_weakest_40 : decode cX3_weakest 40 = .ok (.iload_n 1, 1) := by decide +kernel
theorem dX3_weakest_41 : decode cX3_weakest 41 = .ok (.iconst (-1), 1) := by decide +kernel
theorem dX3_weakest_42 : decode cX3_weakest 42 = .ok (.invokevirtual 143, 3) := by decide +kernel
theorem dX3_weakest_45 : decode cX3_weakest 45 = .ok (.aload_n 0, 1) := by decide +kernel
theorem dX3_weakest_46 : decode cX3_weakest 46 = .ok (.iload_n 1, 1) := by decide +kernel
theorem dX3_weakest_47 : decode cX3_weakest 47 = .ok (.iload 4, 2) := by decide +kernel
theorem dX3_weakest_49 : decode cX3_weakest 49 = .ok (.invokevirtual 143, 3) := by decide +kernel
theorem dX3_weakest_52 : decode cX3_weakest 52 = .ok (.iconst (-1), 1) := by decide +kernel
theorem dX3_weakest_53 : decode cX3_weakest 53 = .ok (.ixor, 1) := by decide +kernel
theorem dX3_weakest_54 : decode cX3_weakest 54 = .ok (.iand, 1) := by decide +kernel
theorem dX3_weakest_55 : decode cX3_weakest 55 = .ok (.istore 5, 2) := by decide +kernel
theorem dX3_weakest_57 : decode cX3_weakest 57 = .ok (.iconst 0, 1) := by decide +kernel
theorem dX3_weakest_58 : decode cX3_weakest 58 = .ok (.istore 6, 2) := by decide +kernel
theorem dX3_weakest_60 : decode cX3_weakest 60 = .ok (.iconst 0, 1) := by decide +kernel
theorem dX3_weakest_61 : decode cX3_weakest 61 = .ok (.istore 7, 2) := by decide +kernel
theorem dX3_weakest_63 : decode cX3_weakest 63 = .ok (.iload 7, 2) := by decide +kernel
theorem dX3_weakest_65 : decode cX3_weakest 65 = .ok (.bipush 16, 2) := by decide +kernel
theorem dX3_weakest_67 : decode cX3_weakest 67 = .ok (.if_icmp .ge 21, 3) := by decide +kernel
theorem dX3_weakest_70 : decode cX3_weakest 70 = .ok (.iload 6, 2) := by decide +kernel
theorem dX3_weakest_72 : decode cX3_weakest 72 = .ok (.iload 5, 2) := by decide +kernel
theorem dX3_weakest_74 : decode cX3_weakest 74 = .ok (.iload 7, 2) := by decide +kernel
theorem dX3_weakest_76 : decode cX3_weakest 76 = .ok (.ishr, 1) := by decide +kernel
theorem dX3_weakest_77 : decode cX3_weakest 77 = .ok (.iconst 1, 1) := by decide +kernel
theorem dX3_weakest_78 : decode cX3_weakest 78 = .ok (.iand, 1) := by decide +kernel
theorem dX3_weakest_79 : decode cX3_weakest 79 = .ok (.iadd, 1) := by decide +kernel
theorem dX3_weakest_80 : decode cX3_weakest 80 = .ok (.istore 6, 2) := by decide +kernel
theorem dX3_weakest_82 : decode cX3_weakest 82 = .ok (.iinc 7 1, 3) := by decide +kernel
theorem dX3_weakest_85 : decode cX3_weakest 85 = .ok (.goto (-22), 3) := by decide +kernel
theorem dX3_weakest_88 : decode cX3_weakest 88 = .ok (.iload 6, 2) := by decide +kernel
theorem dX3_weakest_90 : decode cX3_weakest 90 = .ok (.iload_n 3, 1) := by decide +kernel
theorem dX3_weakest_91 : decode cX3_weakest 91 = .ok (.if_icmp .le 8, 3) := by decide +kernel
theorem dX3_weakest_94 : decode cX3_weakest 94 = .ok (.iload 4, 2) := by decide +kernel
theorem dX3_weakest_96 : decode cX3_weakest 96 = .ok (.goto 4, 3) := by decide +kernel
theorem dX3_weakest_99 : decode cX3_weakest 99 = .ok (.iload_n 2, 1) := by decide +kernel
theorem dX3_weakest_100 : decode cX3_weakest 100 = .ok (.istore_n 2, 1) := by decide +kernel
theorem dX3_weakest_101 : decode cX3_weakest 101 = .ok (.iload 6, 2) := by decide +kernel
theorem dX3_weakest_103 : decode cX3_weakest 103 = .ok (.iload_n 3, 1) := by decide +kernel
theorem dX3_weakest_104 : decode cX3_weakest 104 = .ok (.if_icmp .le 8, 3) := by decide +kernel
theorem dX3_weakest_107 : decode cX3_weakest 107 = .ok (.iload 6, 2) := by decide +kernel
theorem dX3_weakest_109 : decode cX3_weakest 109 = .ok (.goto 4, 3) := by decide +kernel
theorem dX3_weakest_112 : decode cX3_weakest 112 = .ok (.iload_n 3, 1) := by decide +kernel
theorem dX3_weakest_113 : decode cX3_weakest 113 = .ok (.istore_n 3, 1) := by decide +kernel
theorem dX3_weakest_114 : decode cX3_weakest 114 = .ok (.iinc 4 1, 3) := by decide +kernel
theorem dX3_weakest_117 : decode cX3_weakest 117 = .ok (.goto (-94), 3) := by decide +kernel
theorem dX3_weakest_120 : decode cX3_weakest 120 = .ok (.aload_n 0, 1) := by decide +kernel
theorem dX3_weakest_121 : decode cX3_weakest 121 = .ok (.getfield 66, 3) := by decide +kernel
theorem dX3_weakest_124 : decode cX3_weakest 124 = .ok (.ifCond .le 7, 3) := by decide +kernel
theorem dX3_weakest_127 : decode cX3_weakest 127 = .ok (.iconst 0, 1) := by decide +kernel
theorem dX3_weakest_128 : decode cX3_weakest 128 = .ok (.goto 4, 3) := by decide +kernel
theorem dX3_weakest_131 : decode cX3_weakest 131 = .ok (.iload_n 2, 1) := by decide +kernel
theorem dX3_weakest_132 : decode cX3_weakest 132 = .ok (.ireturn, 1) := by decide +kernel
theorem dJ6_bitCount_0f7a4_0 : decode cJ6_bitCount_0f7a4 0 = .ok (.iload_n 0, 1) := by decide +kernel
theorem dJ6_bitCount_0f7a4_1 : decode cJ6_bitCount_0f7a4 1 = .ok (.iload_n 0, 1) := by decide +kernel
theorem dJ6_bitCount_0f7a4_2 : decode cJ6_bitCount_0f7a4 2 = .ok (.iconst 1, 1) := by decide +kernel
theorem dJ6_bitCount_0f7a4_3 : decode cJ6_bitCount_0f7a4 3 = .ok (.iushr, 1) := by decide +kernel
theorem dJ6_bitCount_0f7a4_4 : decode cJ6_bitCount_0f7a4 4 = .ok (.ldc_w 265, 3) := by decide +kernel
theorem dJ6_bitCount_0f7a4_7 : decode cJ6_bitCount_0f7a4 7 = .ok (.iand, 1) := by decide +kernel
theorem dJ6_bitCount_0f7a4_8 : decode cJ6_bitCount_0f7a4 8 = .ok (.isub, 1) := by decide +kernel
theorem dJ6_bitCount_0f7a4_9 : decode cJ6_bitCount_0f7a4 9 = .ok (.istore_n 0, 1) := by decide +kernel
theorem dJ6_bitCount_0f7a4_10 : decode cJ6_bitCount_0f7a4 10 = .ok (.iload_n 0, 1) := by decide +kernel
theorem dJ6_bitCount_0f7a4_11 : decode cJ6_bitCount_0f7a4 11 = .ok (.ldc_w 266, 3) := by decide +kernel
theorem dJ6_bitCount_0f7a4_14 : decode cJ6_bitCount_0f7a4 14 = .ok (.iand, 1) := by decide +kernel
theorem dJ6_bitCount_0f7a4_15 : decode cJ6_bitCount_0f7a4 15 = .ok (.iload_n 0, 1) := by decide +kernel
theorem dJ6_bitCount_0f7a4_16 : decode cJ6_bitCount_0f7a4 16 = .ok (.iconst 2, 1) := by decide +kernel
theorem dJ6_bitCount_0f7a4_17 : decode cJ6_bitCount_0f7a4 17 = .ok (.iushr, 1) := by decide +kernel
theorem dJ6_bitCount_0f7a4_18 : decode cJ6_bitCount_0f7a4 18 = .ok (.ldc_w 266, 3) := by decide +kernel
theorem dJ6_bitCount_0f7a4_21 : decode cJ6_bitCount_0f7a4 21 = .ok (.iand, 1) := by decide +kernel
theorem dJ6_bitCount_0f7a4_22 : decode cJ6_bitCount_0f7a4 22 = .ok (.iadd, 1) := by decide +kernel
theorem dJ6_bitCount_0f7a4_23 : decode cJ6_bitCount_0f7a4 23 = .ok (.istore_n 0, 1) := by decide +kernel
theorem dJ6_bitCount_0f7a4_24 : decode cJ6_bitCount_0f7a4 24 = .ok (.iload_n 0, 1) := by decide +kernel
theorem dJ6_bitCount_0f7a4_25 : decode cJ6_bitCount_0f7a4 25 = .ok (.iload_n 0, 1) := by decide +kernel
theorem dJ6_bitCount_0f7a4_26 : decode cJ6_bitCount_0f7a4 26 = .ok (.iconst 4, 1) := by decide +kernel
theorem dJ6_bitCount_0f7a4_27 : decode cJ6_bitCount_0f7a4 27 = .ok (.iushr, 1) := by decide +kernel
theorem dJ6_bitCount_0f7a4_28 : decode cJ6_bitCount_0f7a4 28 = .ok (.iadd, 1) := by decide +kernel
theorem dJ6_bitCount_0f7a4_29 : decode cJ6_bitCount_0f7a4 29 = .ok (.ldc_w 267, 3) := by decide +kernel
theorem dJ6_bitCount_0f7a4_32 : decode cJ6_bitCount_0f7a4 32 = .ok (.iand, 1) := by decide +kernel
theorem dJ6_bitCount_0f7a4_33 : decode cJ6_bitCount_0f7a4 33 = .ok (.istore_n 0, 1) := by decide +kernel
theorem dJ6_bitCount_0f7a4_34 : decode cJ6_bitCount_0f7a4 34 = .ok (.iload_n 0, 1) := by decide +kernel
theorem dJ6_bitCount_0f7a4_35 : decode cJ6_bitCount_0f7a4 35 = .ok (.iload_n 0, 1) := by decide +kernel
theorem dJ6_bitCount_0f7a4_36 : decode cJ6_bitCount_0f7a4 36 = .ok (.bipush 8, 2) := by decide +kernel
theorem dJ6_bitCount_0f7a4_38 : decode cJ6_bitCount_0f7a4 38 = .ok (.iushr, 1) := by decide +kernel
theorem dJ6_bitCount_0f7a4_39 : decode cJ6_bitCount_0f7a4 39 = .ok (.iadd, 1) := by decide +kernel
theorem dJ6_bitCount_0f7a4_40 : decode cJ6_bitCount_0f7a4 40 = .ok (.istore_n 0, 1) := by decide +kernel
theorem dJ6_bitCount_0f7a4_41 : decode cJ6_bitCount_0f7a4 41 = .ok (.iload_n 0, 1) := by decide +kernel
theorem dJ6_bitCount_0f7a4_42 : decode cJ6_bitCount_0f7a4 42 = .ok (.iload_n 0, 1) := by decide +kernel
theorem dJ6_bitCount_0f7a4_43 : decode cJ6_bitCount_0f7a4 43 = .ok (.bipush 16, 2) := by decide +kernel
theorem dJ6_bitCount_0f7a4_45 : decode cJ6_bitCount_0f7a4 45 = .ok (.iushr, 1) := by decide +kernel
theorem dJ6_bitCount_0f7a4_46 : decode cJ6_bitCount_0f7a4 46 = .ok (.iadd, 1) := by decide +kernel
theorem dJ6_bitCount_0f7a4_47 : decode cJ6_bitCount_0f7a4 47 = .ok (.istore_n 0, 1) := by decide +kernel
theorem dJ6_bitCount_0f7a4_48 : decode cJ6_bitCount_0f7a4 48 = .ok (.iload_n 0, 1) := by decide +kernel
theorem dJ6_bitCount_0f7a4_49 : decode cJ6_bitCount_0f7a4 49 = .ok (.bipush 63, 2) := by decide +kernel
theorem dJ6_bitCount_0f7a4_51 : decode cJ6_bitCount_0f7a4 51 = .ok (.iand, 1) := by decide +kernel
theorem dJ6_bitCount_0f7a4_52 : decode cJ6_bitCount_0f7a4 52 = .ok (.ireturn, 1) := by decide +kernel
theorem dJ9_max_7cf53_0 : decode cJ9_max_7cf53 0 = .ok (.iload_n 0, 1) := by decide +kernel
theorem dJ9_max_7cf53_1 : decode cJ9_max_7cf53 1 = .ok (.iload_n 1, 1) := by decide +kernel
theorem dJ9_max_7cf53_2 : decode cJ9_max_7cf53 2 = .ok (.if_icmp .lt 7, 3) := by decide +kernel
theorem dJ9_max_7cf53_5 : decode cJ9_max_7cf53 5 = .ok (.iload_n 0, 1) := by decide +kernel
theorem dJ9_max_7cf53_6 : decode cJ9_max_7cf53 6 = .ok (.goto 4, 3) := by decide +kernel
theorem dJ9_max_7cf53_9 : decode cJ9_max_7cf53 9 = .ok (.iload_n 1, 1) := by decide +kernel
theorem dJ9_max_7cf53_10 : decode cJ9_max_7cf53 10 = .ok (.ireturn, 1) := by decide +kernel
theorem dJ9_min_7cf53_0 : decode cJ9_min_7cf53 0 = .ok (.iload_n 0, 1) := by decide +kernel
theorem dJ9_min_7cf53_1 : decode cJ9_min_7cf53 1 = .ok (.iload_n 1, 1) := by decide +kernel
theorem dJ9_min_7cf53_2 : decode cJ9_min_7cf53 2 = .ok (.if_icmp .gt 7, 3) := by decide +kernel
theorem dJ9_min_7cf53_5 : decode cJ9_min_7cf53 5 = .ok (.iload_n 0, 1) := by decide +kernel
theorem dJ9_min_7cf53_6 : decode cJ9_min_7cf53 6 = .ok (.goto 4, 3) := by decide +kernel
theorem dJ9_min_7cf53_9 : decode cJ9_min_7cf53 9 = .ok (.iload_n 1, 1) := by decide +kernel
theorem dJ9_min_7cf53_10 : decode cJ9_min_7cf53 10 = .ok (.ireturn, 1) := by decide +kernel
