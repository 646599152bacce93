set_option maxRecDepth 20000 in
theorem ggL_addIssuer_X2_addIssuer : GoodIn wsL_addIssuer wsX2_addIssuer := goodIn_ca (goodIn_ca (goodIn_ca (goodIn_r _ [8, 9, 10, 11, 12, 13, 14, 15, 16, 7, 17, 18, 19, 20, 21, 22, 23, 24, 25, 26, 27, 28, 29, 30, 31, 32, 33, 34, 35, 36, 37, 38, 39, 40, 41, 42, 43, 44, 45, 46, 47, 48, 49, 50, 51, 52, 53, 54, 55, 56, 57, 58, 59, 60, 61, 62, 63, 64, 65, 66, 67, 68, 69, 70] (by decide +kernel) (by decide +kernel)) (goodIn_sub (fun _ h => List.mem_cons_of_mem _ (List.mem_append_left _ (List.mem_append_left _ (List.mem_append_right _ h)))) (by decide +kernel))) (goodIn_sub (fun _ h => List.mem_cons_of_mem _ (List.mem_append_left _ (List.mem_append_right _ h))) (by decide +kernel))) (goodIn_sub (fun _ h => List.mem_cons_of_mem _ (List.mem_append_right _ h)) (by decide +kernel))
set_option maxRecDepth 20000 in
theorem gL_addIssuer_X2_addIssuer : GoodIn wsL_addIssuer (wsV RL 7 RX2 yX2_addIssuer wsX2_addIssuer) := goodIn_app (goodIn_of _ (by decide +kernel)) ggL_addIssuer_X2_addIssuer
theorem dL_addIssuer_0 : decode cL_addIssuer 0 = .ok (.aload 5, 2) := by decide +kernel
theorem dL_addIssuer_2 : decode cL_addIssuer 2 = .ok (.iconst 0, 1) := by decide +kernel
theorem dL_addIssuer_3 : decode cL_addIssuer 3 = .ok (.aload_n 0, 1) := by decide +kernel
theorem dL_addIssuer_4 : decode cL_addIssuer 4 = .ok (.iload_n 1, 1) := by decide +kernel
theorem dL_addIssuer_5 : decode cL_addIssuer 5 = .ok (.iload_n 2, 1) := by decide +kernel
theorem dL_addIssuer_6 : decode cL_addIssuer 6 = .ok (.iload_n 3, 1) := by decide +kernel
theorem dL_addIssuer_7 : decode cL_addIssuer 7 = .ok (.iload 4, 2) := by decide +kernel
theorem dL_addIssuer_9 : decode cL_addIssuer 9 = .ok (.invokevirtual 7, 3) := by decide +kernel
theorem dL_addIssuer_12 : decode cL_addIssuer 12 = .ok (.i2l, 1) := by decide +kernel
theorem dL_addIssuer_13 : decode cL_addIssuer 13 = .ok (.lastore, 1) := by decide +kernel
theorem dL_addIssuer_14 : decode cL_addIssuer 14 = .ok (.goto 15, 3) := by decide +kernel
theorem dL_addIssuer_17 : decode cL_addIssuer 17 = .ok (.astore 6, 2) := by decide +kernel
theorem dL_addIssuer_19 : decode cL_addIssuer 19 = .ok (.iconst 1, 1) := by decide +kernel
theorem dL_addIssuer_20 : decode cL_addIssuer 20 = .ok (.ireturn, 1) := by decide +kernel
theorem dL_addIssuer_21 : decode cL_addIssuer 21 = .ok (.astore 6, 2) := by decide +kernel
theorem dL_addIssuer_23 : decode cL_addIssuer 23 = .ok (.iconst 2, 1) := by decide +kernel
theorem dL_addIssuer_24 : decode cL_addIssuer 24 = .ok (.ireturn, 1) := by decide +kernel
theorem dL_addIssuer_25 : decode cL_addIssuer 25 = .ok (.astore 6, 2) := by decide +kernel
theorem dL_addIssuer_27 : decode cL_addIssuer 27 = .ok (.iconst 3, 1) := by decide +kernel
theorem dL_addIssuer_28 : decode cL_addIssuer 28 = .ok (.ireturn, 1) := by decide +kernel
theorem dL_addIssuer_29 : decode cL_addIssuer 29 = .ok (.iconst 0, 1) := by decide +kernel
theorem dL_addIssuer_30 : decode cL_addIssuer 30 = .ok (.ireturn, 1) := by decide +kernel
set_option maxRecDepth 20000 in
theorem ggL_cross_X2_cross : GoodIn wsL_cross wsX2_cross := goodIn_ca (goodIn_ca (goodIn_ca (goodIn_r _ [8, 9, 10, 11, 12, 13, 14, 15, 16, 17, 7, 18, 19, 20, 21, 22, 23, 24, 25, 26, 27, 28, 29, 30, 31, 32, 33, 34, 35, 36, 37, 38, 39, 40, 41, 42, 43, 44, 45, 46, 47, 48, 49, 50, 51, 52, 53, 54, 55, 56, 57, 58, 59, 60, 61, 62, 63, 64, 65] (by decide +kernel) (by decide +kernel)) (goodIn_sub (fun _ h => List.mem_cons_of_mem _ (List.mem_append_left _ (List.mem_append_left _ (List.mem_append_right _ h)))) (by decide +kernel))) (goodIn_sub (fun _ h => List.mem_cons_of_mem _ (List.mem_append_left _ (List.mem_append_right _ h))) (by decide +kernel))) (goodIn_sub (fun _ h => List.mem_cons_of_mem _ (List.mem_append_right _ h)) (by decide +kernel))
set_option maxRecDepth 20000 in
theorem gL_cross_X2_cross : GoodIn wsL_cross (wsV RL 19 RX2 yX2_cross wsX2_cross) := goodIn_app (goodIn_of _ (by decide +kernel)) ggL_cross_X2_cross
theorem dL_cross_0 : decode cL_cross 0 = .ok (.aload_n 3, 1) := by decide +kernel
theorem dL_cross_1 : decode cL_cross 1 = .ok (.iconst 0, 1) := by decide +kernel
theorem dL_cross_2 : decode cL_cross 2 = .ok (.aload_n 0, 1) := by decide +kernel
theorem dL_cross_3 : decode cL_cross 3 = .ok (.iload_n 1, 1) := by decide +kernel
theorem dL_cross_4 : decode cL_cross 4 = .ok (.iload_n 2, 1) := by decide +kernel
theorem dL_cross_5 : decode cL_cross 5 = .ok (.invokevirtual 19, 3) := by decide +kernel
theorem dL_cross_8 : decode cL_cross 8 = .ok (.i2l, 1) := by decide +kernel
theorem dL_cross_9 : decode cL_cross 9 = .ok (.lastore, 1) := by decide +kernel
theorem dL_cross_10 : decode cL_cross 10 = .ok (.goto 15, 3) := by decide +kernel
theorem dL_cross_13 : decode cL_cross 13 = .ok (.astore 4, 2) := by decide +kernel
theorem dL_cross_15 : decode cL_cross 15 = .ok (.iconst 1, 1) := by decide +kernel
theorem dL_cross_16 : decode cL_cross 16 = .ok (.ireturn, 1) := by decide +kernel
theorem dL_cross_17 : decode cL_cross 17 = .ok (.astore 4, 2) := by decide +kernel
theorem dL_cross_19 : decode cL_cross 19 = .ok (.iconst 2, 1) := by decide +kernel
theorem dL_cross_20 : decode cL_cross 20 = .ok (.ireturn, 1) := by decide +kernel
theorem dL_cross_21 : decode cL_cross 21 = .ok (.astore 4, 2) := by decide +kernel
theorem dL_cross_23 : decode cL_cross 23 = .ok (.iconst 3, 1) := by decide +kernel
theorem dL_cross_24 : decode cL_cross 24 = .ok (.ireturn, 1) := by decide +kernel
theorem dL_cross_25 : decode cL_cross 25 = .ok (.iconst 0, 1) := by decide +kernel
theorem dL_cross_26 : decode cL_cross 26 = .ok (.ireturn, 1) := by decide +kernel
set_option maxRecDepth 20000 in
theorem ggL_distrust_X2_distrust : GoodIn wsL_distrust wsX2_distrust := goodIn_ca (goodIn_ca (goodIn_r _ [7, 8, 9, 10, 11, 12, 6, 13, 14, 15, 16, 17, 18, 19, 20, 21, 22, 23, 24, 25, 26, 27, 28, 29, 30, 31, 32, 33, 34, 35] (by decide +kernel) (by decide +kernel)) (goodIn_sub (fun _ h => List.mem_cons_of_mem _ (List.mem_append_left _ (List.mem_append_right _ h))) (by decide +kernel))) (goodIn_sub (fun _ h => List.mem_cons_of_mem _ (List.mem_append_right _ h)) (by decide +kernel))
set_option maxRecDepth 20000 in
theorem gL_distrust_X2_distrust : GoodIn wsL_distrust (wsV RL 23 RX2 yX2_distrust wsX2_distrust) := goodIn_app (goodIn_of _ (by decide +kernel)) ggL_distrust_X2_distrust
theorem dL_distrust_0 : decode cL_distrust 0 = .ok (.aload_n 3, 1) := by decide +kernel
theorem dL_distrust_1 : decode cL_distrust 1 = .ok (.iconst 0, 1) := by decide +kernel
theorem dL_distrust_2 : decode cL_distrust 2 = .ok (.aload_n 0, 1) := by decide +kernel
theorem dL_distrust_3 : decode cL_distrust 3 = .ok (.iload_n 1, 1) := by decide +kernel
theorem dL_distrust_4 : decode cL_distrust 4 = .ok (.iload_n 2, 1) := by decide +kernel
theorem dL_distrust_5 : decode cL_distrust 5 = .ok (.invokevirtual 23, 3) := by decide +kernel
theorem dL_distrust_8 : decode cL_distrust 8 = .ok (.i2l, 1) := by decide +kernel
theorem dL_distrust_9 : decode cL_distrust 9 = .ok (.lastore, 1) := by decide +kernel
theorem dL_distrust_10 : decode cL_distrust 10 = .ok (.goto 11, 3) := by decide +kernel
theorem dL_distrust_13 : decode cL_distrust 13 = .ok (.astore 4, 2) := by decide +kernel
theorem dL_distrust_15 : decode cL_distrust 15 = .ok (.iconst 1, 1) := by decide +kernel
theorem dL_distrust_16 : decode cL_distrust 16 = .ok (.ireturn, 1) := by decide +kernel
theorem dL_distrust_17 : decode cL_distrust 17 = .ok (.astore 4, 2) := by decide +kernel
theorem dL_distrust_19 : decode cL_distrust 19 = .ok (.iconst 2, 1) := by decide +kernel
theorem dL_distrust_20 : decode cL_distrust 20 = .ok (.ireturn, 1) := by decide +kernel
theorem dL_distrust_21 : decode cL_distrust 21 = .ok (.iconst 0, 1) := by decide +kernel
theorem dL_distrust_22 : decode cL_distrust 22 = .ok (.ireturn, 1) := by decide +kernel
set_option maxRecDepth 20000 in
theorem ggL_pin_X2_pin : GoodIn wsL_pin wsX2_pin := goodIn_ca (goodIn_ca (goodIn_r _ [7, 8, 9, 10, 11, 12, 6, 13, 14, 15, 16, 17, 18, 19, 20] (by decide +kernel) (by decide +kernel)) (goodIn_sub (fun _ h => List.mem_cons_of_mem _ (List.mem_append_left _ (List.mem_append_right _ h))) (by decide +kernel))) (goodIn_sub (fun _ h => List.mem_cons_of_mem _ (List.mem_append_right _ h)) (by decide +kernel))
set_option maxRecDepth 20000 in
theorem gL_pin_X2_pin : GoodIn wsL_pin (wsV RL 26 RX2 yX2_pin wsX2_pin) := goodIn_app (goodIn_of _ (by decide +kernel)) ggL_pin_X2_pin
theorem dL_pin_0 : decode cL_pin 0 = .ok (.aload_n 3, 1) := by decide +kernel
theorem dL_pin_1 : decode cL_pin 1 = .ok (.iconst 0, 1) := by decide +kernel
theorem dL_pin_2 : decode cL_pin 2 = .ok (.aload_n 0, 1) := by decide +kernel
theorem dL_pin_3 : decode cL_pin 3 = .ok (.iload_n 1, 1) := by decide +kernel
theorem dL_pin_4 : decode cL_pin 4 = .ok (.iload_n 2, 1) := by decide +kernel
theorem dL_pin_5 : decode cL_pin 5 = .ok (.invokevirtual 26, 3) := by decide +kernel
theorem dL_pin_8 : decode cL_pin 8 = .ok (.i2l, 1) := by decide +kernel
theorem dL_pin_9 : decode cL_pin 9 = .ok (.lastore, 1) := by decide +kernel
theorem dL_pin_10 : decode cL_pin 10 = .ok (.goto 11, 3) := by decide +kernel
theorem dL_pin_13 : decode cL_pin 13 = .ok (.astore 4, 2) := by decide +kernel
theorem dL_pin_15 : decode cL_pin 15 = .ok (.iconst 1, 1) := by decide +kernel
theorem dL_pin_16 : decode cL_pin 16 = .ok (.ireturn, 1) := by decide +kernel
theorem dL_pin_17 : decode cL_pin 17 = .ok (.astore 4, 2) := by decide +kernel
theorem dL_pin_19 : decode cL_pin 19 = .ok (.iconst 2, 1) := by decide +kernel
theorem dL_pin_20 : decode cL_pin 20 = .ok (.ireturn, 1) := by decide +kernel
theorem dL_pin_21 : decode cL_pin 21 = .ok (.iconst 0, 1) := by decide +kernel
theorem dL_pin_22 : decode cL_pin 22 = .ok (.ireturn, 1) := by decide +kernel
set_option maxRecDepth 20000 in
theorem ggL_issue_X2_issue : GoodIn wsL_issue wsX2_issue := goodIn_ca (goodIn_ca (goodIn_ca (goodIn_r _ [8, 9, 10, 11, 12, 13, 14, 15, 7, 16, 17, 18, 19, 20, 21, 22, 23, 24, 25, 26, 27, 28, 29, 30, 31, 32, 33, 34, 35, 36, 37, 38, 39, 40, 41, 42, 43, 44, 45, 46, 47, 48, 49, 50, 51, 52, 53, 54, 55, 56, 57, 58, 59, 60, 61, 62, 63, 64, 65, 66, 67, 68, 69, 70, 71, 72, 73, 74, 75, 76, 77, 78, 79, 80, 81, 82, 83, 84, 85, 86, 87, 88, 89, 90, 91, 92, 93, 94, 95, 96, 97, 98, 99, 100, 101, 102, 103, 104, 105, 106, 107, 108, 109, 110, 111, 112, 113, 114, 115, 116, 117, 118, 119, 120] (by decide +kernel) (by decide +kernel)) (goodIn_sub (fun _ h => List.mem_cons_of_mem _ (List.mem_append_left _ (List.mem_append_left _ (List.mem_append_right _ h)))) (by decide +kernel))) (goodIn_sub (fun _ h => List.mem_cons_of_mem _ (List.mem_append_left _ (List.mem_append_right _ h))) (by decide +kernel))) (goodIn_sub (fun _ h => List.mem_cons_of_mem _ (List.mem_append_right _ h)) (by decide +kernel))
set_option maxRecDepth 20000 in
theorem gL_issue_X2_issue : GoodIn wsL_issue (wsV RL 29 RX2 yX2_issue wsX2_issue) := goodIn_app (goodIn_of _ (by decide +kernel)) ggL_issue_X2_issue
theorem dL_issue_0 : decode cL_issue 0 = .ok (.aload 4, 2) := by decide +kernel
theorem dL_issue_2 : decode cL_issue 2 = .ok (.iconst 0, 1) := by decide +kernel
theorem dL_issue_3 : decode cL_issue 3 = .ok (.aload_n 0, 1) := by decide +kernel
theorem dL_issue_4 : decode cL_issue 4 = .ok (.iload_n 1, 1) := by decide +kernel
theorem dL_issue_5 : decode cL_issue 5 = .ok (.iload_n 2, 1) := by decide +kernel
theorem dL_issue_6 : decode cL_issue 6 = .ok (.iload_n 3, 1) := by decide +kernel
theorem dL_issue_7 : decode cL_issue 7 = .ok (.invokevirtual 29, 3) := by decide +kernel
theorem dL_issue_10 : decode cL_issue 10 = .ok (.i2l, 1) := by decide +kernel
theorem dL_issue_11 : decode cL_issue 11 = .ok (.lastore, 1) := by decide +kernel
theorem dL_issue_12 : decode cL_issue 12 = .ok (.goto 15, 3) := by decide +kernel
theorem dL_issue_15 : decode cL_issue 15 = .ok (.astore 5, 2) := by decide +kernel
theorem dL_issue_17 : decode cL_issue 17 = .ok (.iconst 1, 1) := by decide +kernel
theorem dL_issue_18 : decode cL_issue 18 = .ok (.ireturn, 1) := by decide +kernel
theorem dL_issue_19 : decode cL_issue 19 = .ok (.astore 5, 2) := by decide +kernel
theorem dL_issue_21 : decode cL_issue 21 = .ok (.iconst 2, 1) := by decide +kernel
theorem dL_issue_22 : decode cL_issue 22 = .ok (.ireturn, 1) := by decide +kernel
theorem dL_issue_23 : decode cL_issue 23 = .ok (.astore 5, 2) := by decide +kernel
theorem dL_issue_25 : decode cL_issue 25 = .ok (.iconst 3, 1) := by decide +kernel
theorem dL_issue_26 : decode cL_issue 26 = .ok (.ireturn, 1) := by decide +kernel
theorem dL_issue_27 : decode cL_issue 27 = .ok (.iconst 0, 1) := by decide +kernel
theorem dL_issue_28 : decode cL_issue 28 = .ok (.ireturn, 1) := by decide +kernel
set_option maxRecDepth 20000 in
theorem ggL_pass_X2_pass : GoodIn wsL_pass wsX2_pass := goodIn_ca (goodIn_ca (goodIn_r _ [7, 8, 9, 10, 11, 12, 13, 14, 15, 6, 16, 17, 18, 19, 20, 21, 22, 23, 24, 25, 26, 27, 28, 29, 30, 31, 32, 33, 34, 35, 36, 37, 38, 39, 40, 41, 42, 43, 44, 45, 46, 47, 48, 49, 50, 51, 52, 53, 54, 55, 56, 57, 58, 59, 60, 61, 62, 63, 64, 65, 66, 67, 68, 69, 70, 71, 72, 73, 74, 75, 76, 77, 78, 79, 80, 81, 82, 83, 84, 85, 86, 87, 88, 89, 90, 91, 92, 93, 94, 95, 96, 97, 98, 99, 100, 101, 102, 103, 104, 105, 106, 107, 108, 109, 110, 111, 112, 113, 114, 115, 116, 117, 118, 119, 120, 121, 122, 123, 124, 125, 126, 127, 128, 129, 130, 131, 132, 133, 134, 135, 136, 137, 138, 139, 140, 141, 142] (by decide +kernel) (by decide +kernel)) (goodIn_sub (fun _ h => List.mem_cons_of_mem _ (List.mem_append_left _ (List.mem_append_right _ h))) (by decide +kernel))) (goodIn_sub (fun _ h => List.mem_cons_of_mem _ (List.mem_append_right _ h)) (by decide +kernel))
set_option maxRecDepth 20000 in
theorem gL_pass_X2_pass : GoodIn wsL_pass (wsV RL 33 RX2 yX2_pass wsX2_pass) := goodIn_app (goodIn_of _ (by decide +kernel)) ggL_pass_X2_pass
theorem dL_pass_0 : decode cL_pass 0 = .ok (.aload_n 2, 1) := by decide +kernel
theorem dL_pass_1 : decode cL_pass 1 = .ok (.iconst 0, 1) := by decide +kernel
theorem dL_pass_2 : decode cL_pass 2 = .ok (.aload_n 0, 1) := by decide +kernel
theorem dL_pass_3 : decode cL_pass 3 = .ok (.iload_n 1, 1) := by decide +kernel
theorem dL_pass_4 : decode cL_pass 4 = .ok (.invokevirtual 33, 3) := by decide +kernel
theorem dL_pass_7 : decode cL_pass 7 = .ok (.i2l, 1) := by decide +kernel
theorem dL_pass_8 : decode cL_pass 8 = .ok (.lastore, 1) := by decide +kernel
theorem dL_pass_9 : decode cL_pass 9 = .ok (.goto 9, 3) := by decide +kernel
theorem dL_pass_12 : decode cL_pass 12 = .ok (.astore_n 3, 1) := by decide +kernel
theorem dL_pass_13 : decode cL_pass 13 = .ok (.iconst 1, 1) := by decide +kernel
theorem dL_pass_14 : decode cL_pass 14 = .ok (.ireturn, 1) := by decide +kernel
theorem dL_pass_15 : decode cL_pass 15 = .ok (.astore_n 3, 1) := by decide +kernel
theorem dL_pass_16 : decode cL_pass 16 = .ok (.iconst 2, 1) := by decide +kernel
theorem dL_pass_17 : decode cL_pass 17 = .ok (.ireturn, 1) := by decide +kernel
theorem dL_pass_18 : decode cL_pass 18 = .ok (.iconst 0, 1) := by decide +kernel
theorem dL_pass_19 : decode cL_pass 19 = .ok (.ireturn, 1) := by decide +kernel
set_option maxRecDepth 20000 in
theorem ggL_issuerOf_X2_issuerOf : GoodIn wsL_issuerOf wsX2_issuerOf := goodIn_ca (goodIn_r _ [6, 7, 8, 9, 10, 11, 5, 12, 13, 14, 15, 16, 17, 18, 19, 20, 21, 22, 23, 24, 25, 26, 27, 28] (by decide +kernel) (by decide +kernel)) (goodIn_sub (fun _ h => List.mem_cons_of_mem _ (List.mem_append_right _ h)) (by decide +kernel))
set_option maxRecDepth 20000 in
theorem gL_issuerOf_X2_issuerOf : GoodIn wsL_issuerOf (wsV RL 37 RX2 yX2_issuerOf wsX2_issuerOf) := goodIn_app (goodIn_of _ (by decide +kernel)) ggL_issuerOf_X2_issuerOf
theorem dL_issuerOf_0 : decode cL_issuerOf 0 = .ok (.aload_n 2, 1) := by decide +kernel
theorem dL_issuerOf_1 : decode cL_issuerOf 1 = .ok (.iconst 0, 1) := by decide +kernel
theorem dL_issuerOf_2 : decode cL_issuerOf 2 = .ok (.aload_n 0, 1) := by decide +kernel
theorem dL_issuerOf_3 : decode cL_issuerOf 3 = .ok (.iload_n 1, 1) := by decide +kernel
theorem dL_issuerOf_4 : decode cL_issuerOf 4 = .ok (.invokevirtual 37, 3) := by decide +kernel
theorem dL_issuerOf_7 : decode cL_issuerOf 7 = .ok (.i2l, 1) := by decide +kernel
theorem dL_issuerOf_8 : decode cL_issuerOf 8 = .ok (.lastore, 1) := by decide +kernel
theorem dL_issuerOf_9 : decode cL_issuerOf 9 = .ok (.goto 6, 3) := by decide +kernel
theorem dL_issuerOf_12 : decode cL_issuerOf 12 = .ok (.astore_n 3, 1) := by decide +kernel
theorem dL_issuerOf_13 : decode cL_issuerOf 13 = .ok (.iconst 1, 1) := by decide +kernel
theorem dL_issuerOf_14 : decode cL_issuerOf 14 = .ok (.ireturn, 1) := by decide +kernel
theorem dL_issuerOf_15 : decode cL_issuerOf 15 = .ok (.iconst 0, 1) := by decide +kernel
theorem dL_issuerOf_16 : decode cL_issuerOf 16 = .ok (.ireturn, 1) := by decide +kernel
set_option maxRecDepth 20000 in
theorem ggL_lastDay_X2_lastDay : GoodIn wsL_lastDay wsX2_lastDay := goodIn_ca (goodIn_r _ [6, 7, 8, 9, 10, 5, 11, 12, 13, 14, 15, 16, 17, 18, 19, 20, 21, 22, 23, 24, 25, 26, 27, 28, 29, 30, 31, 32, 33, 34] (by decide +kernel) (by decide +kernel)) (goodIn_sub (fun _ h => List.mem_cons_of_mem _ (List.mem_append_right _ h)) (by decide +kernel))
set_option maxRecDepth 20000 in
theorem gL_lastDay_X2_lastDay : GoodIn wsL_lastDay (wsV RL 40 RX2 yX2_lastDay wsX2_lastDay) := goodIn_app (goodIn_of _ (by decide +kernel)) ggL_lastDay_X2_lastDay
theorem dL_lastDay_0 : decode cL_lastDay 0 = .ok (.aload_n 2, 1) := by decide +kernel
theorem dL_lastDay_1 : decode cL_lastDay 1 = .ok (.iconst 0, 1) := by decide +kernel
theorem dL_lastDay_2 : decode cL_lastDay 2 = .ok (.aload_n 0, 1) := by decide +kernel
theorem dL_lastDay_3 : decode cL_lastDay 3 = .ok (.iload_n 1, 1) := by decide +kernel
theorem dL_lastDay_4 : decode cL_lastDay 4 = .ok (.invokevirtual 40, 3) := by decide +kernel
theorem dL_lastDay_7 : decode cL_lastDay 7 = .ok (.i2l, 1) := by decide +kernel
theorem dL_lastDay_8 : decode cL_lastDay 8 = .ok (.lastore, 1) := by decide +kernel
theorem dL_lastDay_9 : decode cL_lastDay 9 = .ok (.goto 6, 3) := by decide +kernel
theorem dL_lastDay_12 : decode cL_lastDay 12 = .ok (.astore_n 3, 1) := by decide +kernel
theorem dL_lastDay_13 : decode cL_lastDay 13 = .ok (.iconst 1, 1) := by decide +kernel
theorem dL_lastDay_14 : decode cL_lastDay 14 = .ok (.ireturn, 1) := by decide +kernel
theorem dL_lastDay_15 : decode cL_lastDay 15 = .ok (.iconst 0, 1) := by decide +kernel
theorem dL_lastDay_16 : decode cL_lastDay 16 = .ok (.ireturn, 1) := by decide +kernel
set_option maxRecDepth 20000 in
theorem ggL_dueOn_X2_dueOn : GoodIn wsL_dueOn wsX2_dueOn := goodIn_ca (goodIn_r _ [6, 7, 8, 9, 10, 5, 11, 12, 13, 14, 15, 16, 17, 18, 19, 20, 21, 22, 23, 24, 25, 26, 27, 28, 29, 30, 31, 32, 33, 34, 35] (by decide +kernel) (by decide +kernel)) (goodIn_sub (fun _ h => List.mem_cons_of_mem _ (List.mem_append_right _ h)) (by decide +kernel))
set_option maxRecDepth 20000 in
theorem gL_dueOn_X2_dueOn : GoodIn wsL_dueOn (wsV RL 43 RX2 yX2_dueOn wsX2_dueOn) := goodIn_app (goodIn_of _ (by decide +kernel)) ggL_dueOn_X2_dueOn
theorem dL_dueOn_0 : decode cL_dueOn 0 = .ok (.aload_n 2, 1) := by decide +kernel
theorem dL_dueOn_1 : decode cL_dueOn 1 = .ok (.iconst 0, 1) := by decide +kernel
theorem dL_dueOn_2 : decode cL_dueOn 2 = .ok (.aload_n 0, 1) := by decide +kernel
theorem dL_dueOn_3 : decode cL_dueOn 3 = .ok (.iload_n 1, 1) := by decide +kernel
theorem dL_dueOn_4 : decode cL_dueOn 4 = .ok (.invokevirtual 43, 3) := by decide +kernel
theorem dL_dueOn_7 : decode cL_dueOn 7 = .ok (.i2l, 1) := by decide +kernel
theorem dL_dueOn_8 : decode cL_dueOn 8 = .ok (.lastore, 1) := by decide +kernel
theorem dL_dueOn_9 : decode cL_dueOn 9 = .ok (.goto 6, 3) := by decide +kernel
theorem dL_dueOn_12 : decode cL_dueOn 12 = .ok (.astore_n 3, 1) := by decide +kernel
theorem dL_dueOn_13 : decode cL_dueOn 13 = .ok (.iconst 1, 1) := by decide +kernel
theorem dL_dueOn_14 : decode cL_dueOn 14 = .ok (.ireturn, 1) := by decide +kernel
theorem dL_dueOn_15 : decode cL_dueOn 15 = .ok (.iconst 0, 1) := by decide +kernel
theorem dL_dueOn_16 : decode cL_dueOn 16 = .ok (.ireturn, 1) := by decide +kernel
set_option maxRecDepth 20000 in
theorem ggL_renewal_X2_renewal : GoodIn wsL_renewal wsX2_renewal := goodIn_ca (goodIn_r _ [6, 7, 8, 9, 10, 11, 5, 12, 13, 14, 15, 16, 17, 18, 19, 20, 21, 22, 23, 24, 25, 26, 27, 28] (by decide +kernel) (by decide +kernel)) (goodIn_sub (fun _ h => List.mem_cons_of_mem _ (List.mem_append_right _ h)) (by decide +kernel))
set_option maxRecDepth 20000 in
theorem gL_renewal_X2_renewal : GoodIn wsL_renewal (wsV RL 46 RX2 yX2_renewal wsX2_renewal) := goodIn_app (goodIn_of _ (by decide +kernel)) ggL_renewal_X2_renewal
theorem dL_renewal_0 : decode cL_renewal 0 = .ok (.aload_n 2, 1) := by decide +kernel
theorem dL_renewal_1 : decode cL_renewal 1 = .ok (.iconst 0, 1) := by decide +kernel
theorem dL_renewal_2 : decode cL_renewal 2 = .ok (.aload_n 0, 1) := by decide +kernel
theorem dL_renewal_3 : decode cL_renewal 3 = .ok (.iload_n 1, 1) := by decide +kernel
theorem dL_renewal_4 : decode cL_renewal 4 = .ok (.invokevirtual 46, 3) := by decide +kernel
theorem dL_renewal_7 : decode cL_renewal 7 = .ok (.i2l, 1) := by decide +kernel
theorem dL_renewal_8 : decode cL_renewal 8 = .ok (.lastore, 1) := by decide +kernel
theorem dL_renewal_9 : decode cL_renewal 9 = .ok (.goto 6, 3) := by decide +kernel
theorem dL_renewal_12 : decode cL_renewal 12 = .ok (.astore_n 3, 1) := by decide +kernel
theorem dL_renewal_13 : decode cL_renewal 13 = .ok (.iconst 1, 1) := by decide +kernel
theorem dL_renewal_14 : decode cL_renewal 14 = .ok (.ireturn, 1) := by decide +kernel
theorem dL_renewal_15 : decode cL_renewal 15 = .ok (.iconst 0, 1) := by decide +kernel
theorem dL_renewal_16 : decode cL_renewal 16 = .ok (.ireturn, 1) := by decide +kernel
set_option maxRecDepth 20000 in
theorem ggL_waitingAt_X2_waitingAt : GoodIn wsL_waitingAt wsX2_waitingAt := goodIn_ca (goodIn_r _ [6, 7, 8, 9, 10, 11, 12, 13, 14, 15, 16, 17, 18, 19, 20, 21, 22, 23, 24, 25, 26, 27, 28, 29, 30, 31, 32, 33, 34, 35, 36, 37, 38, 39, 40, 41, 42, 43, 44, 45, 46, 47, 48, 49, 50, 51] (by decide +kernel) (by decide +kernel)) (goodIn_sub (fun _ h => List.mem_cons_of_mem _ (List.mem_append_right _ h)) (by decide +kernel))
set_option maxRecDepth 20000 in
theorem gL_waitingAt_X2_waitingAt : GoodIn wsL_waitingAt (wsV RL 49 RX2 yX2_waitingAt wsX2_waitingAt) := goodIn_app (goodIn_of _ (by decide +kernel)) ggL_waitingAt_X2_waitingAt
theorem dL_waitingAt_0 : decode cL_waitingAt 0 = .ok (.aload_n 2, 1) := by decide +kernel
theorem dL_waitingAt_1 : decode cL_waitingAt 1 = .ok (.iconst 0, 1) := by decide +kernel
theorem dL_waitingAt_2 : decode cL_waitingAt 2 = .ok (.aload_n 0, 1) := by decide +kernel
theorem dL_waitingAt_3 : decode cL_waitingAt 3 = .ok (.iload_n 1, 1) := by decide +kernel
theorem dL_waitingAt_4 : decode cL_waitingAt 4 = .ok (.invokevirtual 49, 3) := by decide +kernel
theorem dL_waitingAt_7 : decode cL_waitingAt 7 = .ok (.i2l, 1) := by decide +kernel
theorem dL_waitingAt_8 : decode cL_waitingAt 8 = .ok (.lastore, 1) := by decide +kernel
theorem dL_waitingAt_9 : decode cL_waitingAt 9 = .ok (.goto 6, 3) := by decide +kernel
theorem dL_waitingAt_12 : decode cL_waitingAt 12 = .ok (.astore_n 3, 1) := by decide +kernel
theorem dL_waitingAt_13 : decode cL_waitingAt 13 = .ok (.iconst 1, 1) := by decide +kernel
theorem dL_waitingAt_14 : decode cL_waitingAt 14 = .ok (.ireturn, 1) := by decide +kernel
theorem dL_waitingAt_15 : decode cL_waitingAt 15 = .ok (.iconst 0, 1) := by decide +kernel
theorem dL_waitingAt_16 : decode cL_waitingAt 16 = .ok (.ireturn, 1) := by decide +kernel
set_option maxRecDepth 20000 in
theorem ggL_room_X2_room : GoodIn wsL_room wsX2_room := goodIn_ca (goodIn_r _ [6, 7, 8, 9, 5, 10, 11, 12, 13, 14, 15, 16, 17, 18, 19, 20, 21, 22, 23, 24, 25, 26, 27, 28, 29, 30, 31, 32, 33, 34, 35, 36, 37, 38, 39, 40, 41, 42, 43, 44, 45, 46, 47, 48, 49, 50, 51, 52, 53, 54] (by decide +kernel) (by decide +kernel)) (goodIn_sub (fun _ h => List.mem_cons_of_mem _ (List.mem_append_right _ h)) (by decide +kernel))
set_option maxRecDepth 20000 in
theorem gL_room_X2_room : GoodIn wsL_room (wsV RL 52 RX2 yX2_room wsX2_room) := goodIn_app (goodIn_of _ (by decide +kernel)) ggL_room_X2_room
theorem dL_room_0 : decode cL_room 0 = .ok (.aload_n 2, 1) := by decide +kernel
theorem dL_room_1 : decode cL_room 1 = .ok (.iconst 0, 1) := by decide +kernel
theorem dL_room_2 : decode cL_room 2 = .ok (.aload_n 0, 1) := by decide +kernel
theorem dL_room_3 : decode cL_room 3 = .ok (.iload_n 1, 1) := by decide +kernel
theorem dL_room_4 : decode cL_room 4 = .ok (.invokevirtual 52, 3) := by decide +kernel
theorem dL_room_7 : decode cL_room 7 = .ok (.i2l, 1) := by decide +kernel
theorem dL_room_8 : decode cL_room 8 = .ok (.lastore, 1) := by decide +kernel
theorem dL_room_9 : decode cL_room 9 = .ok (.goto 6, 3) := by decide +kernel
theorem dL_room_12 : decode cL_room 12 = .ok (.astore_n 3, 1) := by decide +kernel
theorem dL_room_13 : decode cL_room 13 = .ok (.iconst 1, 1) := by decide +kernel
theorem dL_room_14 : decode cL_room 14 = .ok (.ireturn, 1) := by decide +kernel
theorem dL_room_15 : decode cL_room 15 = .ok (.iconst 0, 1) := by decide +kernel
theorem dL_room_16 : decode cL_room 16 = .ok (.ireturn, 1) := by decide +kernel
set_option maxRecDepth 20000 in
theorem ggL_isGood_X2_isGood : GoodIn wsL_isGood wsX2_isGood := goodIn_ca (goodIn_ca (goodIn_r _ [7, 8, 9, 10, 11, 6, 12, 13, 14, 15, 16, 17, 18, 19, 20, 21, 22, 23, 24, 25, 26, 27, 28, 29, 30, 31, 32, 33, 34, 35, 36, 37, 38, 39, 40, 41, 42, 43, 44, 45, 46, 47, 48, 49, 50, 51, 52, 53, 54, 55, 56, 57, 58, 59, 60] (by decide +kernel) (by decide +kernel)) (goodIn_sub (fun _ h => List.mem_cons_of_mem _ (List.mem_append_left _ (List.mem_append_right _ h))) (by decide +kernel))) (goodIn_sub (fun _ h => List.mem_cons_of_mem _ (List.mem_append_right _ h)) (by decide +kernel))
set_option maxRecDepth 20000 in
theorem gL_isGood_X2_isGood : GoodIn wsL_isGood (wsV RL 55 RX2 yX2_isGood wsX2_isGood) := goodIn_app (goodIn_of _ (by decide +kernel)) ggL_isGood_X2_isGood
theorem dL_isGood_0 : decode cL_isGood 0 = .ok (.aload_n 3, 1) := by decide +kernel
theorem dL_isGood_1 : decode cL_isGood 1 = .ok (.iconst 0, 1) := by decide +kernel
theorem dL_isGood_2 : decode cL_isGood 2 = .ok (.aload_n 0, 1) := by decide +kernel
theorem dL_isGood_3 : decode cL_isGood 3 = .ok (.iload_n 1, 1) := by decide +kernel
theorem dL_isGood_4 : decode cL_isGood 4 = .ok (.iload_n 2, 1) := by decide +kernel
theorem dL_isGood_5 : decode cL_isGood 5 = .ok (.invokevirtual 55, 3) := by decide +kernel
theorem dL_isGood_8 : decode cL_isGood 8 = .ok (.ifCond .eq 7, 3) := by decide +kernel
theorem dL_isGood_11 : decode cL_isGood 11 = .ok (.lconst 1, 1) := by decide +kernel
theorem dL_isGood_12 : decode cL_isGood 12 = .ok (.goto 4, 3) := by decide +kernel
theorem dL_isGood_15 : decode cL_isGood 15 = .ok (.lconst 0, 1) := by decide +kernel
theorem dL_isGood_16 : decode cL_isGood 16 = .ok (.lastore, 1) := by decide +kernel
theorem dL_isGood_17 : decode cL_isGood 17 = .ok (.goto 11, 3) := by decide +kernel
theorem dL_isGood_20 : decode cL_isGood 20 = .ok (.astore 4, 2) := by decide +kernel
theorem dL_isGood_22 : decode cL_isGood 22 = .ok (.iconst 1, 1) := by decide +kernel
theorem dL_isGood_23 : decode cL_isGood 23 = .ok (.ireturn, 1) := by decide +kernel
theorem dL_isGood_24 : decode cL_isGood 24 = .ok (.astore 4, 2) := by decide +kernel
theorem dL_isGood_26 : decode cL_isGood 26 = .ok (.iconst 2, 1) := by decide +kernel
theorem dL_isGood_27 : decode cL_isGood 27 = .ok (.ireturn, 1) := by decide +kernel
theorem dL_isGood_28 : decode cL_isGood 28 = .ok (.iconst 0, 1) := by decide +kernel
theorem dL_isGood_29 : decode cL_isGood 29 = .ok (.ireturn, 1) := by decide +kernel
set_option maxRecDepth 20000 in
theorem ggL_chainEnd_X2_chainEnd : GoodIn wsL_chainEnd wsX2_chainEnd := goodIn_ca (goodIn_r _ [6, 7, 8, 9, 10, 11, 5, 12, 13, 14, 15, 16, 17, 18, 19, 20, 21, 22, 23, 24, 25, 26, 27, 28, 29] (by decide +kernel) (by decide +kernel)) (goodIn_sub (fun _ h => List.mem_cons_of_mem _ (List.mem_append_right _ h)) (by decide +kernel))
set_option maxRecDepth 20000 in
theorem gL_chainEnd_X2_chainEnd : GoodIn wsL_chainEnd (wsV RL 59 RX2 yX2_chainEnd wsX2_chainEnd) := goodIn_app (goodIn_of _ (by decide +kernel)) ggL_chainEnd_X2_chainEnd
theorem dL_chainEnd_0 : decode cL_chainEnd 0 = .ok (.aload_n 2, 1) := by decide +kernel
theorem dL_chainEnd_1 : decode cL_chainEnd 1 = .ok (.iconst 0, 1) := by decide +kernel
theorem dL_chainEnd_2 : decode cL_chainEnd 2 = .ok (.aload_n 0, 1) := by decide +kernel
theorem dL_chainEnd_3 : decode cL_chainEnd 3 = .ok (.iload_n 1, 1) := by decide +kernel
theorem dL_chainEnd_4 : decode cL_chainEnd 4 = .ok (.invokevirtual 59, 3) := by decide +kernel
theorem dL_chainEnd_7 : decode cL_chainEnd 7 = .ok (.i2l, 1) := by decide +kernel
theorem dL_chainEnd_8 : decode cL_chainEnd 8 = .ok (.lastore, 1) := by decide +kernel
theorem dL_chainEnd_9 : decode cL_chainEnd 9 = .ok (.goto 6, 3) := by decide +kernel
theorem dL_chainEnd_12 : decode cL_chainEnd 12 = .ok (.astore_n 3, 1) := by decide +kernel
theorem dL_chainEnd_13 : decode cL_chainEnd 13 = .ok (.iconst 1, 1) := by decide +kernel
theorem dL_chainEnd_14 : decode cL_chainEnd 14 = .ok (.ireturn, 1) := by decide +kernel
theorem dL_chainEnd_15 : decode cL_chainEnd 15 = .ok (.iconst 0, 1) := by decide +kernel
theorem dL_chainEnd_16 : decode cL_chainEnd 16 = .ok (.ireturn, 1) := by decide +kernel
set_option maxRecDepth 20000 in
theorem ggL_chains_X2_chains : GoodIn wsL_chains wsX2_chains := goodIn_ca (goodIn_r _ [6, 7, 8, 9, 10, 11, 5, 12, 13, 14, 15, 16, 17, 18, 19, 20, 21, 22, 23, 24, 25, 26, 27, 28, 29] (by decide +kernel) (by decide +kernel)) (goodIn_sub (fun _ h => List.mem_cons_of_mem _ (List.mem_append_right _ h)) (by decide +kernel))
set_option maxRecDepth 20000 in
theorem gL_chains_X2_chains : GoodIn wsL_chains (wsV RL 62 RX2 yX2_chains wsX2_chains) := goodIn_app (goodIn_of _ (by decide +kernel)) ggL_chains_X2_chains
theorem dL_chains_0 : decode cL_chains 0 = .ok (.aload_n 2, 1) := by decide +kernel
theorem dL_chains_1 : decode cL_chains 1 = .ok (.iconst 0, 1) := by decide +kernel
theorem dL_chains_2 : decode cL_chains 2 = .ok (.aload_n 0, 1) := by decide +kernel
theorem dL_chains_3 : decode cL_chains 3 = .ok (.iload_n 1, 1) := by decide +kernel
theorem dL_chains_4 : decode cL_chains 4 = .ok (.invokevirtual 62, 3) := by decide +kernel
theorem dL_chains_7 : decode cL_chains 7 = .ok (.i2l, 1) := by decide +kernel
theorem dL_chains_8 : decode cL_chains 8 = .ok (.lastore, 1) := by decide +kernel
theorem dL_chains_9 : decode cL_chains 9 = .ok (.goto 6, 3) := by decide +kernel
theorem dL_chains_12 : decode cL_chains 12 = .ok (.astore_n 3, 1) := by decide +kernel
theorem dL_chains_13 : decode cL_chains 13 = .ok (.iconst 1, 1) := by decide +kernel
theorem dL_chains_14 : decode cL_chains 14 = .ok (.ireturn, 1) := by decide +kernel
theorem dL_chains_15 : decode cL_chains 15 = .ok (.iconst 0, 1) := by decide +kernel
theorem dL_chains_16 : decode cL_chains 16 = .ok (.ireturn, 1) := by decide +kernel
set_option maxRecDepth 20000 in
theorem ggL_isCovered_X2_isCovered : GoodIn wsL_isCovered wsX2_isCovered := goodIn_ca (goodIn_ca (goodIn_r _ [7, 8, 9, 6, 10, 11, 12, 13, 14, 15, 16, 17, 18, 19, 20, 21, 22, 23, 24, 25, 26, 27, 28, 29, 30, 31, 32, 33, 34, 35, 36, 37, 38, 39, 40, 41, 42, 43, 44, 45, 46, 47, 48, 49, 50, 51, 52, 53, 54, 55, 56, 57, 58, 59, 60, 61, 62, 63, 64, 65, 66, 67, 68, 69, 70, 71, 72, 73, 74, 75, 76, 77, 78, 79, 80, 81, 82, 83, 84, 85, 86, 87] (by decide +kernel) (by decide +kernel)) (goodIn_sub (fun _ h => List.mem_cons_of_mem _ (List.mem_append_left _ (List.mem_append_right _ h))) (by decide +kernel))) (goodIn_sub (fun _ h => List.mem_cons_of_mem _ (List.mem_append_right _ h)) (by decide +kernel))
set_option maxRecDepth 20000 in
theorem gL_isCovered_X2_isCovered : GoodIn wsL_isCovered (wsV RL 65 RX2 yX2_isCovered wsX2_isCovered) := goodIn_app (goodIn_of _ (by decide +kernel)) ggL_isCovered_X2_isCovered
theorem dL_isCovered_0 : decode cL_isCovered 0 = .ok (.aload_n 3, 1) := by decide +kernel
theorem dL_isCovered_1 : decode cL_isCovered 1 = .ok (.iconst 0, 1) := by decide +kernel
theorem dL_isCovered_2 : decode cL_isCovered 2 = .ok (.aload_n 0, 1) := by decide +kernel
theorem dL_isCovered_3 : decode cL_isCovered 3 = .ok (.iload_n 1, 1) := by decide +kernel
theorem dL_isCovered_4 : decode cL_isCovered 4 = .ok (.iload_n 2, 1) := by decide +kernel
theorem dL_isCovered_5 : decode cL_isCovered 5 = .ok (.invokevirtual 65, 3) := by decide +kernel
theorem dL_isCovered_8 : decode cL_isCovered 8 = .ok (.ifCond .eq 7, 3) := by decide +kernel
theorem dL_isCovered_11 : decode cL_isCovered 11 = .ok (.lconst 1, 1) := by decide +kernel
theorem dL_isCovered_12 : decode cL_isCovered 12 = .ok (.goto 4, 3) := by decide +kernel
theorem dL_isCovered_15 : decode cL_isCovered 15 = .ok (.lconst 0, 1) := by decide +kernel
theorem dL_isCovered_16 : decode cL_isCovered 16 = .ok (.lastore, 1) := by decide +kernel
theorem dL_isCovered_17 : decode cL_isCovered 17 = .ok (.goto 11, 3) := by decide +kernel
theorem dL_isCovered_20 : decode cL_isCovered 20 = .ok (.astore 4, 2) := by decide +kernel
theorem dL_isCovered_22 : decode cL_isCovered 22 = .ok (.iconst 1, 1) := by decide +kernel
theorem dL_isCovered_23 : decode cL_isCovered 23 = .ok (.ireturn, 1) := by decide +kernel
theorem dL_isCovered_24 : decode cL_isCovered 24 = .ok (.astore 4, 2) := by decide +kernel
theorem dL_isCovered_26 : decode cL_isCovered 26 = .ok (.iconst 2, 1) := by decide +kernel
theorem dL_isCovered_27 : decode cL_isCovered 27 = .ok (.ireturn, 1) := by decide +kernel
theorem dL_isCovered_28 : decode cL_isCovered 28 = .ok (.iconst 0, 1) := by decide +kernel
theorem dL_isCovered_29 : decode cL_isCovered 29 = .ok (.ireturn, 1) := by decide +kernel
set_option maxRecDepth 20000 in
theorem ggL_nextGap_X2_nextGap : GoodIn wsL_nextGap wsX2_nextGap := goodIn_ca (goodIn_ca (goodIn_r _ [7, 8, 9, 6, 10, 11, 12, 13, 14, 15, 16, 17, 18, 19, 20, 21, 22, 23, 24, 25, 26, 27, 28, 29, 30, 31, 32, 33, 34, 35, 36, 37, 38, 39, 40, 41, 42, 43, 44, 45, 46, 47, 48, 49, 50, 51, 52, 53, 54, 55, 56, 57, 58, 59, 60, 61, 62, 63, 64, 65, 66, 67, 68, 69, 70, 71, 72, 73, 74, 75, 76, 77, 78, 79, 80, 81, 82, 83, 84, 85, 86, 87] (by decide +kernel) (by decide +kernel)) (goodIn_sub (fun _ h => List.mem_cons_of_mem _ (List.mem_append_left _ (List.mem_append_right _ h))) (by decide +kernel))) (goodIn_sub (fun _ h => List.mem_cons_of_mem _ (List.mem_append_right _ h)) (by decide +kernel))
set_option maxRecDepth 20000 in
theorem gL_nextGap_X2_nextGap : GoodIn wsL_nextGap (wsV RL 68 RX2 yX2_nextGap wsX2_nextGap) := goodIn_app (goodIn_of _ (by decide +kernel)) ggL_nextGap_X2_nextGap
theorem dL_nextGap_0 : decode cL_nextGap 0 = .ok (.aload_n 3, 1) := by decide +kernel
theorem dL_nextGap_1 : decode cL_nextGap 1 = .ok (.iconst 0, 1) := by decide +kernel
theorem dL_nextGap_2 : decode cL_nextGap 2 = .ok (.aload_n 0, 1) := by decide +kernel
theorem dL_nextGap_3 : decode cL_nextGap 3 = .ok (.iload_n 1, 1) := by decide +kernel
theorem dL_nextGap_4 : decode cL_nextGap 4 = .ok (.iload_n 2, 1) := by decide +kernel
theorem dL_nextGap_5 : decode cL_nextGap 5 = .ok (.invokevirtual 68, 3) := by decide +kernel
theorem dL_nextGap_8 : decode cL_nextGap 8 = .ok (.i2l, 1) := by decide +kernel
theorem dL_nextGap_9 : decode cL_nextGap 9 = .ok (.lastore, 1) := by decide +kernel
theorem dL_nextGap_10 : decode cL_nextGap 10 = .ok (.goto 11, 3) := by decide +kernel
theorem dL_nextGap_13 : decode cL_nextGap 13 = .ok (.astore 4, 2) := by decide +kernel
theorem dL_nextGap_15 : decode cL_nextGap 15 = .ok (.iconst 1, 1) := by decide +kernel
theorem dL_nextGap_16 : decode cL_nextGap 16 = .ok (.ireturn, 1) := by decide +kernel
theorem dL_nextGap_17 : decode cL_nextGap 17 = .ok (.astore 4, 2) := by decide +kernel
theorem dL_nextGap_19 : decode cL_nextGap 19 = .ok (.iconst 2, 1) := by decide +kernel
theorem dL_nextGap_20 : decode cL_nextGap 20 = .ok (.ireturn, 1) := by decide +kernel
theorem dL_nextGap_21 : decode cL_nextGap 21 = .ok (.iconst 0, 1) := by decide +kernel
theorem dL_nextGap_22 : decode cL_nextGap 22 = .ok (.ireturn, 1) := by decide +kernel
set_option maxRecDepth 20000 in
theorem ggL_covered_X2_covered : GoodIn wsL_covered wsX2_covered := goodIn_ca (goodIn_r _ [6, 7, 8, 5, 9, 10, 11, 12, 13, 14, 15, 16, 17, 18, 19, 20, 21, 22, 23, 24, 25, 26, 27, 28, 29, 30, 31, 32, 33, 34, 35, 36, 37, 38, 39, 40, 41, 42, 43, 44, 45, 46, 47, 48, 49, 50, 51, 52, 53, 54, 55, 56, 57, 58, 59, 60, 61, 62, 63, 64, 65, 66, 67, 68, 69, 70, 71, 72, 73, 74, 75, 76, 77, 78, 79, 80] (by decide +kernel) (by decide +kernel)) (goodIn_sub (fun _ h => List.mem_cons_of_mem _ (List.mem_append_right _ h)) (by decide +kernel))
set_option maxRecDepth 20000 in
theorem gL_covered_X2_covered : GoodIn wsL_covered (wsV RL 71 RX2 yX2_covered wsX2_covered) := goodIn_app (goodIn_of _ (by decide +kernel)) ggL_covered_X2_covered
theorem dL_covered_0 : decode cL_covered 0 = .ok (.aload_n 2, 1) := by decide +kernel
theorem dL_covered_1 : decode cL_covered 1 = .ok (.iconst 0, 1) := by decide +kernel
theorem dL_covered_2 : decode cL_covered 2 = .ok (.aload_n 0, 1) := by decide +kernel
theorem dL_covered_3 : decode cL_covered 3 = .ok (.iload_n 1, 1) := by decide +kernel
theorem dL_covered_4 : decode cL_covered 4 = .ok (.invokevirtual 71, 3) := by decide +kernel
theorem dL_covered_7 : decode cL_covered 7 = .ok (.i2l, 1) := by decide +kernel
theorem dL_covered_8 : decode cL_covered 8 = .ok (.lastore, 1) := by decide +kernel
theorem dL_covered_9 : decode cL_covered 9 = .ok (.goto 6, 3) := by decide +kernel
theorem dL_covered_12 : decode cL_covered 12 = .ok (.astore_n 3, 1) := by decide +kernel
theorem dL_covered_13 : decode cL_covered 13 = .ok (.iconst 1, 1) := by decide +kernel
theorem dL_covered_14 : decode cL_covered 14 = .ok (.ireturn, 1) := by decide +kernel
theorem dL_covered_15 : decode cL_covered 15 = .ok (.iconst 0, 1) := by decide +kernel
theorem dL_covered_16 : decode cL_covered 16 = .ok (.ireturn, 1) := by decide +kernel
set_option maxRecDepth 20000 in
theorem ggL_breaks_X2_breaks : GoodIn wsL_breaks wsX2_breaks := goodIn_ca (goodIn_ca (goodIn_r _ [7, 8, 9, 10, 6, 11, 12, 13, 14, 15, 16, 17, 18, 19, 20, 21, 22, 23, 24, 25, 26, 27, 28, 29, 30, 31, 32, 33, 34, 35, 36, 37, 38, 39, 40, 41, 42, 43, 44, 45, 46, 47, 48, 49, 50, 51, 52, 53, 54, 55, 56, 57, 58, 59, 60, 61, 62, 63, 64, 65, 66, 67, 68, 69, 70, 71, 72, 73, 74, 75, 76, 77, 78, 79, 80, 81, 82, 83, 84, 85, 86, 87, 88, 89, 90, 91, 92] (by decide +kernel) (by decide +kernel)) (goodIn_sub (fun _ h => List.mem_cons_of_mem _ (List.mem_append_left _ (List.mem_append_right _ h))) (by decide +kernel))) (goodIn_sub (fun _ h => List.mem_cons_of_mem _ (List.mem_append_right _ h)) (by decide +kernel))
set_option maxRecDepth 20000 in
theorem gL_breaks_X2_breaks : GoodIn wsL_breaks (wsV RL 74 RX2 yX2_breaks wsX2_breaks) := goodIn_app (goodIn_of _ (by decide +kernel)) ggL_breaks_X2_breaks
theorem dL_breaks_0 : decode cL_breaks 0 = .ok (.aload_n 3, 1) := by decide +kernel
theorem dL_breaks_1 : decode cL_breaks 1 = .ok (.iconst 0, 1) := by decide +kernel
theorem dL_breaks_2 : decode cL_breaks 2 = .ok (.aload_n 0, 1) := by decide +kernel
theorem dL_breaks_3 : decode cL_breaks 3 = .ok (.iload_n 1, 1) := by decide +kernel
theorem dL_breaks_4 : decode cL_breaks 4 = .ok (.iload_n 2, 1) := by decide +kernel
theorem dL_breaks_5 : decode cL_breaks 5 = .ok (.invokevirtual 74, 3) := by decide +kernel
theorem dL_breaks_8 : decode cL_breaks 8 = .ok (.i2l, 1) := by decide +kernel
theorem dL_breaks_9 : decode cL_breaks 9 = .ok (.lastore, 1) := by decide +kernel
theorem dL_breaks_10 : decode cL_breaks 10 = .ok (.goto 11, 3) := by decide +kernel
theorem dL_breaks_13 : decode cL_breaks 13 = .ok (.astore 4, 2) := by decide +kernel
theorem dL_breaks_15 : decode cL_breaks 15 = .ok (.iconst 1, 1) := by decide +kernel
theorem dL_breaks_16 : decode cL_breaks 16 = .ok (.ireturn, 1) := by decide +kernel
theorem dL_breaks_17 : decode cL_breaks 17 = .ok (.astore 4, 2) := by decide +kernel
theorem dL_breaks_19 : decode cL_breaks 19 = .ok (.iconst 2, 1) := by decide +kernel
theorem dL_breaks_20 : decode cL_breaks 20 = .ok (.ireturn, 1) := by decide +kernel
theorem dL_breaks_21 : decode cL_breaks 21 = .ok (.iconst 0, 1) := by decide +kernel
theorem dL_breaks_22 : decode cL_breaks 22 = .ok (.ireturn, 1) := by decide +kernel
set_option maxRecDepth 20000 in
theorem ggL_weakest_X2_weakest : GoodIn wsL_weakest wsX2_weakest := goodIn_ca (goodIn_r _ [6, 7, 8, 9, 10, 5, 11, 12, 13, 14, 15, 16, 17, 18, 19, 20, 21, 22, 23, 24, 25, 26, 27, 28, 29, 30, 31, 32, 33, 34, 35, 36, 37, 38, 39, 40, 41, 42, 43, 44, 45, 46, 47, 48, 49, 50, 51, 52, 53, 54, 55, 56, 57, 58, 59, 60, 61, 62, 63, 64, 65, 66, 67, 68, 69, 70, 71, 72, 73, 74, 75, 76, 77, 78, 79, 80, 81, 82, 83, 84, 85, 86, 87, 88, 89, 90, 91, 92] (by decide +kernel) (by decide +kernel)) (goodIn_sub (fun _ h => List.mem_cons_of_mem _ (List.mem_append_right _ h)) (by decide +kernel))
set_option maxRecDepth 20000 in
theorem gL_weakest_X2_weakest : GoodIn wsL_weakest (wsV RL 77 RX2 yX2_weakest wsX2_weakest) := goodIn_app (goodIn_of _ (by decide +kernel)) ggL_weakest_X2_weakest
theorem dL_weakest_0 : decode cL_weakest 0 = .ok (.aload_n 2, 1) := by decide +kernel
theorem dL_weakest_1 : decode cL_weakest 1 = .ok (.iconst 0, 1) := by decide +kernel
theorem dL_weakest_2 : decode cL_weakest 2 = .ok (.aload_n 0, 1) := by decide +kernel
theorem dL_weakest_3 : decode cL_weakest 3 = .ok (.iload_n 1, 1) := by decide +kernel
theorem dL_weakest_4 : decode cL_weakest 4 = .ok (.invokevirtual 77, 3) := by decide +kernel
theorem dL_weakest_7 : decode cL_weakest 7 = .ok (.i2l, 1) := by decide +kernel
theorem dL_weakest_8 : decode cL_weakest 8 = .ok (.lastore, 1) := by decide +kernel
theorem dL_weakest_9 : decode cL_weakest 9 = .ok (.goto 6, 3) := by decide +kernel
theorem dL_weakest_12 : decode cL_weakest 12 = .ok (.astore_n 3, 1) := by decide +kernel
theorem dL_weakest_13 : decode cL_weakest 13 = .ok (.iconst 1, 1) := by decide +kernel
theorem dL_weakest_14 : decode cL_weakest 14 = .ok (.ireturn, 1) := by decide +kernel
theorem dL_weakest_15 : decode cL_weakest 15 = .ok (.iconst 0, 1) := by decide +kernel
theorem dL_weakest_16 : decode cL_weakest 16 = .ok (.ireturn, 1) := by decide +kernel
set_option maxRecDepth 20000 in
theorem ggL_law_X2_init : GoodIn wsL_law wsX2_init := goodIn_r _ [9, 10, 11, 12, 13, 14, 15, 16, 17, 18, 19, 20, 21, 22, 23, 24, 25, 26, 27, 28, 29, 30, 31, 32, 33, 34, 35, 36, 37, 38, 39, 40, 41, 42, 43, 44, 45, 46, 47, 608, 609, 610, 611, 612, 613, 614, 615, 616, 581, 582, 583, 584, 585, 617, 618, 619, 620, 621, 622, 623, 624] (by decide +kernel) (by decide +kernel)
set_option maxRecDepth 20000 in
theorem gL_law_X2_init : GoodIn wsL_law (wsX2_init) := ggL_law_X2_init
set_option maxRecDepth 20000 in
theorem ggL_law_X3_init : GoodIn wsL_law wsX3_init := goodIn_r _ [50, 51, 11, 12, 52, 21, 53, 54, 55, 56, 57, 58, 59, 60, 61, 62, 63, 64, 65, 66, 67, 68, 69, 70, 71, 586, 587, 588, 589, 590, 591, 592, 593, 594, 595, 596, 597, 598, 599, 600, 601, 602, 603, 604, 605, 606, 607] (by decide +kernel) (by decide +kernel)
set_option maxRecDepth 20000 in
theorem gL_law_X3_init : GoodIn wsL_law (wsX3_init) := ggL_law_X3_init
set_option maxRecDepth 20000 in
theorem ggL_law_L_addIssuer : GoodIn wsL_law wsL_addIssuer := goodIn_ca (goodIn_ca (goodIn_ca (goodIn_r _ [75, 76, 77, 78, 79, 80, 81, 2, 82, 83, 84, 85, 86, 16, 87, 88, 89, 90, 91, 92, 93, 94, 95, 96, 97, 98, 99, 15, 100, 36, 101, 102, 103, 104, 28, 29, 30, 31, 32, 33, 105, 106, 107, 108, 34, 35, 109, 110, 111, 112, 113, 114, 115, 116, 117, 118, 119, 581, 582, 583, 584, 585, 608, 609, 610, 611, 612, 613, 614, 615, 616] (by decide +kernel) (by decide +kernel)) (goodIn_sub (fun _ h => List.mem_append_left _ (List.mem_append_left _ (List.mem_append_right _ h))) (by decide +kernel))) (goodIn_sub (fun _ h => List.mem_append_left _ (List.mem_append_right _ h)) (by decide +kernel))) (goodIn_sub (fun _ h => List.mem_append_right _ h) (by decide +kernel))
set_option maxRecDepth 20000 in
theorem gL_law_L_addIssuer : GoodIn wsL_law (va_wsS RL 84 yL_addIssuer wsL_addIssuer) := goodIn_app (goodIn_of _ (by decide +kernel)) ggL_law_L_addIssuer
set_option maxRecDepth 20000 in
theorem ggL_law_X3_addIssuer : GoodIn wsL_law wsX3_addIssuer := goodIn_r _ [123, 124, 71, 53, 54, 55, 56, 57, 58, 125, 126, 5, 127, 128, 129, 130, 131, 586, 587, 588, 589, 590, 591, 592, 593, 594, 595, 596, 597, 598, 599, 600, 601, 602, 603, 604, 605, 606, 607] (by decide +kernel) (by decide +kernel)
set_option maxRecDepth 20000 in
theorem gL_law_X3_addIssuer : GoodIn wsL_law (wsV RL 89 RX3 yX3_addIssuer wsX3_addIssuer) := goodIn_app (goodIn_of _ (by decide +kernel)) ggL_law_X3_addIssuer
set_option maxRecDepth 20000 in
theorem ggL_law_X3_thrown : GoodIn wsL_law wsX3_thrown := goodIn_r _ [135, 71, 586, 587, 588, 589, 590, 591, 592, 593, 594, 595, 596, 597, 598, 599, 600, 601, 602, 603, 604, 605, 606, 607] (by decide +kernel) (by decide +kernel)
set_option maxRecDepth 20000 in
theorem gL_law_X3_thrown : GoodIn wsL_law (wsV RL 90 RX3 yX3_thrown wsX3_thrown) := goodIn_app (goodIn_of _ (by decide +kernel)) ggL_law_X3_thrown
set_option maxRecDepth 20000 in
theorem ggL_law_L_cross : GoodIn wsL_law wsL_cross := goodIn_ca (goodIn_ca (goodIn_ca (goodIn_r _ [138, 76, 77, 78, 139, 140, 141, 2, 142, 83, 84, 85, 86, 16, 143, 87, 88, 89, 90, 91, 92, 93, 144, 145, 146, 15, 147, 29, 28, 116, 117, 118, 119, 148, 149, 150, 151, 105, 106, 107, 108, 36, 34, 35, 109, 110, 111, 112, 31, 113, 114, 115, 581, 582, 583, 584, 585, 608, 609, 610, 611, 612, 613, 614, 615, 616] (by decide +kernel) (by decide +kernel)) (goodIn_sub (fun _ h => List.mem_append_left _ (List.mem_append_left _ (List.mem_append_right _ h))) (by decide +kernel))) (goodIn_sub (fun _ h => List.mem_append_left _ (List.mem_append_right _ h)) (by decide +kernel))) (goodIn_sub (fun _ h => List.mem_append_right _ h) (by decide +kernel))
set_option maxRecDepth 20000 in
theorem gL_law_L_cross : GoodIn wsL_law (va_wsS RL 94 yL_cross wsL_cross) := goodIn_app (goodIn_of _ (by decide +kernel)) ggL_law_L_cross
set_option maxRecDepth 20000 in
theorem ggL_law_X3_cross : GoodIn wsL_law wsX3_cross := goodIn_r _ [155, 71, 56, 57, 128, 129, 130, 5, 131, 124, 125, 126, 127, 156, 157, 158, 159, 160, 161, 162, 163, 62, 54, 586, 587, 588, 589, 590, 591, 592, 593, 594, 595, 596, 597, 598, 599, 600, 601, 602, 603, 604, 605, 606, 607] (by decide +kernel) (by decide +kernel)
set_option maxRecDepth 20000 in
theorem gL_law_X3_cross : GoodIn wsL_law (wsV RL 97 RX3 yX3_cross wsX3_cross) := goodIn_app (goodIn_of _ (by decide +kernel)) ggL_law_X3_cross
set_option maxRecDepth 20000 in
theorem ggL_law_L_distrust : GoodIn wsL_law wsL_distrust := goodIn_ca (goodIn_ca (goodIn_r _ [166, 76, 77, 167, 168, 169, 2, 170, 16, 171, 87, 88, 89, 90, 91, 92, 93, 94, 95, 96, 83, 84, 581, 582, 583, 584, 585, 608, 609, 610, 611, 612, 613, 614, 615, 616] (by decide +kernel) (by decide +kernel)) (goodIn_sub (fun _ h => List.mem_append_right _ h) (by decide +kernel))) (goodIn_sub (fun _ h => List.mem_append_left _ (List.mem_append_left _ (List.mem_append_right _ h))) (by decide +kernel))
set_option maxRecDepth 20000 in
theorem gL_law_L_distrust : GoodIn wsL_law (va_wsS RL 98 yL_distrust wsL_distrust) := goodIn_app (goodIn_of _ (by decide +kernel)) ggL_law_L_distrust
set_option maxRecDepth 20000 in
theorem ggL_law_X3_distrust : GoodIn wsL_law wsX3_distrust := goodIn_r _ [175, 71, 58, 128, 129, 130, 5, 131, 124, 125, 126, 127, 176, 177, 178, 586, 587, 588, 589, 590, 591, 592, 593, 594, 595, 596, 597, 598, 599, 600, 601, 602, 603, 604, 605, 606, 607] (by decide +kernel) (by decide +kernel)
set_option maxRecDepth 20000 in
theorem gL_law_X3_distrust : GoodIn wsL_law (wsV RL 100 RX3 yX3_distrust wsX3_distrust) := goodIn_app (goodIn_of _ (by decide +kernel)) ggL_law_X3_distrust
set_option maxRecDepth 20000 in
theorem ggL_law_L_pin : GoodIn wsL_law wsL_pin := goodIn_ca (goodIn_ca (goodIn_r _ [181, 76, 77, 182, 183, 184, 2, 185, 83, 84, 22, 186, 187, 188, 91, 92, 581, 582, 583, 584, 585] (by decide +kernel) (by decide +kernel)) (goodIn_sub (fun _ h => List.mem_append_left _ (List.mem_append_left _ (List.mem_append_right _ h))) (by decide +kernel))) (goodIn_sub (fun _ h => List.mem_append_right _ h) (by decide +kernel))
set_option maxRecDepth 20000 in
theorem gL_law_L_pin : GoodIn wsL_law (va_wsS RL 101 yL_pin wsL_pin) := goodIn_app (goodIn_of _ (by decide +kernel)) ggL_law_L_pin
set_option maxRecDepth 20000 in
theorem ggL_law_X3_pin : GoodIn wsL_law wsX3_pin := goodIn_r _ [192, 71, 59, 193, 194, 5, 195, 125, 126, 127, 586, 587, 588, 589, 590, 591, 592, 593, 594, 595, 596, 597, 598, 599, 600, 601, 602, 603, 604, 605, 606, 607] (by decide +kernel) (by decide +kernel)
set_option maxRecDepth 20000 in
theorem gL_law_X3_pin : GoodIn wsL_law (wsV RL 103 RX3 yX3_pin wsX3_pin) := goodIn_app (goodIn_of _ (by decide +kernel)) ggL_law_X3_pin
set_option maxRecDepth 20000 in
theorem ggL_law_X2_setSeed : GoodIn wsL_law wsX2_setSeed := goodIn_r _ [199, 23, 581, 582, 583, 584, 585] (by decide +kernel) (by decide +kernel)
set_option maxRecDepth 20000 in
theorem gL_law_X2_setSeed : GoodIn wsL_law (wsV RL 104 RX2 yX2_setSeed wsX2_setSeed) := goodIn_app (goodIn_of _ (by decide +kernel)) ggL_law_X2_setSeed
set_option maxRecDepth 20000 in
theorem ggL_law_X3_setSeed : GoodIn wsL_law wsX3_setSeed := goodIn_r _ [203, 71, 52, 586, 587, 588, 589, 590, 591, 592, 593, 594, 595, 596, 597, 598, 599, 600, 601, 602, 603, 604, 605, 606, 607] (by decide +kernel) (by decide +kernel)
set_option maxRecDepth 20000 in
theorem gL_law_X3_setSeed : GoodIn wsL_law (wsV RL 108 RX3 yX3_setSeed wsX3_setSeed) := goodIn_app (goodIn_of _ (by decide +kernel)) ggL_law_X3_setSeed
set_option maxRecDepth 20000 in
theorem ggL_law_L_issue : GoodIn wsL_law wsL_issue := goodIn_ca (goodIn_ca (goodIn_ca (goodIn_r _ [206, 76, 77, 78, 207, 208, 209, 2, 210, 83, 84, 85, 86, 87, 88, 89, 90, 91, 92, 16, 93, 211, 212, 213, 214, 20, 24, 215, 216, 217, 19, 218, 47, 219, 220, 221, 222, 223, 224, 225, 226, 227, 228, 229, 230, 40, 42, 231, 232, 233, 234, 22, 235, 236, 237, 238, 239, 240, 241, 242, 243, 15, 244, 36, 245, 246, 247, 248, 33, 30, 31, 249, 250, 251, 252, 28, 29, 116, 117, 118, 119, 253, 254, 255, 256, 257, 258, 259, 260, 23, 261, 262, 263, 264, 265, 41, 43, 44, 45, 581, 582, 583, 584, 585, 608, 609, 610, 611, 612, 613, 614, 615, 616, 617, 618, 619, 620, 621, 622, 623, 624] (by decide +kernel) (by decide +kernel)) (goodIn_sub (fun _ h => List.mem_append_left _ (List.mem_append_left _ (List.mem_append_right _ h))) (by decide +kernel))) (goodIn_sub (fun _ h => List.mem_append_left _ (List.mem_append_right _ h)) (by decide +kernel))) (goodIn_sub (fun _ h => List.mem_append_right _ h) (by decide +kernel))
set_option maxRecDepth 20000 in
theorem gL_law_L_issue : GoodIn wsL_law (va_wsS RL 109 yL_issue wsL_issue) := goodIn_app (goodIn_of _ (by decide +kernel)) ggL_law_L_issue
set_option maxRecDepth 20000 in
theorem ggL_law_X3_issue : GoodIn wsL_law wsX3_issue := goodIn_r _ [269, 71, 128, 129, 130, 5, 131, 124, 125, 126, 127, 270, 271, 272, 273, 274, 55, 275, 59, 276, 277, 278, 279, 53, 54, 58, 56, 57, 61, 280, 281, 282, 283, 65, 66, 284, 285, 286, 287, 288, 289, 290, 52, 291, 64, 67, 68, 69, 586, 587, 588, 589, 590, 591, 592, 593, 594, 595, 596, 597, 598, 599, 600, 601, 602, 603, 604, 605, 606, 607] (by decide +kernel) (by decide +kernel)
set_option maxRecDepth 20000 in
theorem gL_law_X3_issue : GoodIn wsL_law (wsV RL 112 RX3 yX3_issue wsX3_issue) := goodIn_app (goodIn_of _ (by decide +kernel)) ggL_law_X3_issue
set_option maxRecDepth 20000 in
theorem ggL_law_L_pass : GoodIn wsL_law wsL_pass := goodIn_ca (goodIn_ca (goodIn_r _ [294, 77, 78, 295, 296, 297, 2, 298, 83, 84, 85, 86, 24, 299, 300, 301, 302, 20, 303, 304, 305, 306, 307, 308, 309, 310, 19, 311, 47, 312, 313, 314, 315, 45, 316, 317, 318, 319, 42, 43, 44, 320, 321, 322, 323, 324, 325, 326, 327, 46, 211, 212, 213, 214, 16, 215, 216, 217, 218, 219, 220, 221, 222, 223, 224, 225, 226, 227, 228, 229, 230, 40, 231, 232, 233, 234, 22, 235, 236, 237, 238, 239, 240, 241, 242, 243, 15, 244, 36, 245, 246, 247, 248, 33, 30, 31, 249, 250, 251, 252, 28, 29, 116, 117, 118, 119, 253, 254, 255, 256, 257, 258, 259, 260, 23, 261, 262, 263, 264, 265, 41, 581, 582, 583, 584, 585, 617, 618, 619, 620, 621, 622, 623, 624, 608, 609, 610, 611, 612, 613, 614, 615, 616] (by decide +kernel) (by decide +kernel)) (goodIn_sub (fun _ h => List.mem_append_left _ (List.mem_append_left _ (List.mem_append_right _ h))) (by decide +kernel))) (goodIn_sub (fun _ h => List.mem_append_left _ (List.mem_append_right _ h)) (by decide +kernel))
set_option maxRecDepth 20000 in
theorem gL_law_L_pass : GoodIn wsL_law (va_wsS RL 113 yL_pass wsL_pass) := goodIn_app (goodIn_of _ (by decide +kernel)) ggL_law_L_pass
set_option maxRecDepth 20000 in
theorem ggL_law_X3_pass : GoodIn wsL_law wsX3_pass := goodIn_r _ [331, 274, 71, 125, 126, 5, 127, 332, 333, 334, 335, 275, 70, 65, 64, 69, 67, 336, 337, 338, 339, 340, 341, 342, 343, 344, 345, 346, 347, 348, 349, 350, 351, 66, 68, 352, 353, 354, 355, 270, 271, 272, 273, 55, 59, 276, 277, 278, 279, 53, 54, 58, 56, 57, 61, 280, 281, 282, 283, 284, 285, 286, 287, 288, 289, 290, 52, 291, 586, 587, 588, 589, 590, 591, 592, 593, 594, 595, 596, 597, 598, 599, 600, 601, 602, 603, 604, 605, 606, 607] (by decide +kernel) (by decide +kernel)
set_option maxRecDepth 20000 in
theorem gL_law_X3_pass : GoodIn wsL_law (wsV RL 116 RX3 yX3_pass wsX3_pass) := goodIn_app (goodIn_of _ (by decide +kernel)) ggL_law_X3_pass
set_option maxRecDepth 20000 in
theorem ggL_law_X2_today : GoodIn wsL_law wsX2_today := goodIn_r _ [359, 24, 581, 582, 583, 584, 585] (by decide +kernel) (by decide +kernel)
set_option maxRecDepth 20000 in
theorem gL_law_X2_today : GoodIn wsL_law (wsV RL 117 RX2 yX2_today wsX2_today) := goodIn_app (goodIn_of _ (by decide +kernel)) ggL_law_X2_today
set_option maxRecDepth 20000 in
theorem ggL_law_X3_today : GoodIn wsL_law wsX3_today := goodIn_r _ [363, 71, 274, 586, 587, 588, 589, 590, 591, 592, 593, 594, 595, 596, 597, 598, 599, 600, 601, 602, 603, 604, 605, 606, 607] (by decide +kernel) (by decide +kernel)
set_option maxRecDepth 20000 in
theorem gL_law_X3_today : GoodIn wsL_law (wsV RL 120 RX3 yX3_today wsX3_today) := goodIn_app (goodIn_of _ (by decide +kernel)) ggL_law_X3_today
set_option maxRecDepth 20000 in
theorem ggL_law_X2_issuers : GoodIn wsL_law wsX2_issuers := goodIn_r _ [367, 16, 93, 581, 582, 583, 584, 585, 608, 609, 610, 611, 612, 613, 614, 615, 616] (by decide +kernel) (by decide +kernel)
set_option maxRecDepth 20000 in
theorem gL_law_X2_issuers : GoodIn wsL_law (wsV RL 121 RX2 yX2_issuers wsX2_issuers) := goodIn_app (goodIn_of _ (by decide +kernel)) ggL_law_X2_issuers
set_option maxRecDepth 20000 in
theorem ggL_law_X3_issuers : GoodIn wsL_law wsX3_issuers := goodIn_r _ [371, 71, 124, 586, 587, 588, 589, 590, 591, 592, 593, 594, 595, 596, 597, 598, 599, 600, 601, 602, 603, 604, 605, 606, 607] (by decide +kernel) (by decide +kernel)
set_option maxRecDepth 20000 in
theorem gL_law_X3_issuers : GoodIn wsL_law (wsV RL 124 RX3 yX3_issuers wsX3_issuers) := goodIn_app (goodIn_of _ (by decide +kernel)) ggL_law_X3_issuers
set_option maxRecDepth 20000 in
theorem ggL_law_X2_certificates : GoodIn wsL_law wsX2_certificates := goodIn_r _ [375, 20, 376, 581, 582, 583, 584, 585, 617, 618, 619, 620, 621, 622, 623, 624] (by decide +kernel) (by decide +kernel)
set_option maxRecDepth 20000 in
theorem gL_law_X2_certificates : GoodIn wsL_law (wsV RL 125 RX2 yX2_certificates wsX2_certificates) := goodIn_app (goodIn_of _ (by decide +kernel)) ggL_law_X2_certificates
set_option maxRecDepth 20000 in
theorem ggL_law_X3_certificates : GoodIn wsL_law wsX3_certificates := goodIn_r _ [380, 71, 275, 586, 587, 588, 589, 590, 591, 592, 593, 594, 595, 596, 597, 598, 599, 600, 601, 602, 603, 604, 605, 606, 607] (by decide +kernel) (by decide +kernel)
set_option maxRecDepth 20000 in
theorem gL_law_X3_certificates : GoodIn wsL_law (wsV RL 128 RX3 yX3_certificates wsX3_certificates) := goodIn_app (goodIn_of _ (by decide +kernel)) ggL_law_X3_certificates
set_option maxRecDepth 20000 in
theorem ggL_law_L_issuerOf : GoodIn wsL_law wsL_issuerOf := goodIn_ca (goodIn_r _ [383, 76, 384, 385, 386, 2, 387, 20, 304, 388, 389, 390, 391, 91, 92, 376, 581, 582, 583, 584, 585, 617, 618, 619, 620, 621, 622, 623, 624] (by decide +kernel) (by decide +kernel)) (goodIn_sub (fun _ h => List.mem_append_right _ h) (by decide +kernel))
set_option maxRecDepth 20000 in
theorem gL_law_L_issuerOf : GoodIn wsL_law (va_wsS RL 129 yL_issuerOf wsL_issuerOf) := goodIn_app (goodIn_of _ (by decide +kernel)) ggL_law_L_issuerOf
set_option maxRecDepth 20000 in
theorem ggL_law_X3_issuerOf : GoodIn wsL_law wsX3_issuerOf := goodIn_r _ [395, 71, 65, 396, 397, 398, 5, 399, 275, 125, 126, 127, 156, 157, 158, 159, 586, 587, 588, 589, 590, 591, 592, 593, 594, 595, 596, 597, 598, 599, 600, 601, 602, 603, 604, 605, 606, 607] (by decide +kernel) (by decide +kernel)
set_option maxRecDepth 20000 in
theorem gL_law_X3_issuerOf : GoodIn wsL_law (wsV RL 131 RX3 yX3_issuerOf wsX3_issuerOf) := goodIn_app (goodIn_of _ (by decide +kernel)) ggL_law_X3_issuerOf
set_option maxRecDepth 20000 in
theorem ggL_law_L_lastDay : GoodIn wsL_law wsL_lastDay := goodIn_ca (goodIn_r _ [402, 76, 403, 404, 405, 2, 406, 20, 388, 389, 390, 391, 91, 92, 376, 407, 321, 322, 19, 323, 42, 43, 581, 582, 583, 584, 585, 617, 618, 619, 620, 621, 622, 623, 624] (by decide +kernel) (by decide +kernel)) (goodIn_sub (fun _ h => List.mem_append_right _ h) (by decide +kernel))
set_option maxRecDepth 20000 in
theorem gL_law_L_lastDay : GoodIn wsL_law (va_wsS RL 132 yL_lastDay wsL_lastDay) := goodIn_app (goodIn_of _ (by decide +kernel)) ggL_law_L_lastDay
set_option maxRecDepth 20000 in
theorem ggL_law_X3_lastDay : GoodIn wsL_law wsX3_lastDay := goodIn_r _ [411, 71, 396, 397, 398, 5, 399, 275, 125, 126, 127, 352, 353, 354, 355, 66, 67, 156, 157, 158, 159, 586, 587, 588, 589, 590, 591, 592, 593, 594, 595, 596, 597, 598, 599, 600, 601, 602, 603, 604, 605, 606, 607] (by decide +kernel) (by decide +kernel)
set_option maxRecDepth 20000 in
theorem gL_law_X3_lastDay : GoodIn wsL_law (wsV RL 134 RX3 yX3_lastDay wsX3_lastDay) := goodIn_app (goodIn_of _ (by decide +kernel)) ggL_law_X3_lastDay
set_option maxRecDepth 20000 in
theorem ggL_law_L_dueOn : GoodIn wsL_law wsL_dueOn := goodIn_ca (goodIn_r _ [414, 76, 415, 416, 417, 2, 418, 20, 388, 389, 390, 391, 91, 92, 376, 419, 317, 318, 19, 319, 42, 43, 44, 581, 582, 583, 584, 585, 617, 618, 619, 620, 621, 622, 623, 624] (by decide +kernel) (by decide +kernel)) (goodIn_sub (fun _ h => List.mem_append_right _ h) (by decide +kernel))
set_option maxRecDepth 20000 in
theorem gL_law_L_dueOn : GoodIn wsL_law (va_wsS RL 135 yL_dueOn wsL_dueOn) := goodIn_app (goodIn_of _ (by decide +kernel)) ggL_law_L_dueOn
set_option maxRecDepth 20000 in
theorem ggL_law_X3_dueOn : GoodIn wsL_law wsX3_dueOn := goodIn_r _ [423, 71, 396, 397, 398, 5, 399, 275, 125, 126, 127, 348, 349, 350, 351, 66, 67, 68, 156, 157, 158, 159, 586, 587, 588, 589, 590, 591, 592, 593, 594, 595, 596, 597, 598, 599, 600, 601, 602, 603, 604, 605, 606, 607] (by decide +kernel) (by decide +kernel)
set_option maxRecDepth 20000 in
theorem gL_law_X3_dueOn : GoodIn wsL_law (wsV RL 137 RX3 yX3_dueOn wsX3_dueOn) := goodIn_app (goodIn_of _ (by decide +kernel)) ggL_law_X3_dueOn
set_option maxRecDepth 20000 in
theorem ggL_law_L_renewal : GoodIn wsL_law wsL_renewal := goodIn_ca (goodIn_r _ [426, 76, 427, 428, 429, 2, 430, 20, 306, 388, 389, 390, 391, 91, 92, 376, 581, 582, 583, 584, 585, 617, 618, 619, 620, 621, 622, 623, 624] (by decide +kernel) (by decide +kernel)) (goodIn_sub (fun _ h => List.mem_append_right _ h) (by decide +kernel))
set_option maxRecDepth 20000 in
theorem gL_law_L_renewal : GoodIn wsL_law (va_wsS RL 138 yL_renewal wsL_renewal) := goodIn_app (goodIn_of _ (by decide +kernel)) ggL_law_L_renewal
set_option maxRecDepth 20000 in
theorem ggL_law_X3_renewal : GoodIn wsL_law wsX3_renewal := goodIn_r _ [434, 71, 69, 396, 397, 398, 5, 399, 275, 125, 126, 127, 156, 157, 158, 159, 586, 587, 588, 589, 590, 591, 592, 593, 594, 595, 596, 597, 598, 599, 600, 601, 602, 603, 604, 605, 606, 607] (by decide +kernel) (by decide +kernel)
set_option maxRecDepth 20000 in
theorem gL_law_X3_renewal : GoodIn wsL_law (wsV RL 140 RX3 yX3_renewal wsX3_renewal) := goodIn_app (goodIn_of _ (by decide +kernel)) ggL_law_X3_renewal
set_option maxRecDepth 20000 in
theorem ggL_law_X2_waiting : GoodIn wsL_law wsX2_waiting := goodIn_r _ [438, 20, 24, 308, 309, 310, 19, 311, 47, 312, 313, 314, 315, 45, 316, 317, 318, 319, 42, 43, 44, 320, 321, 322, 323, 324, 325, 326, 327, 46, 581, 582, 583, 584, 585, 617, 618, 619, 620, 621, 622, 623, 624] (by decide +kernel) (by decide +kernel)
set_option maxRecDepth 20000 in
theorem gL_law_X2_waiting : GoodIn wsL_law (wsV RL 141 RX2 yX2_waiting wsX2_waiting) := goodIn_app (goodIn_of _ (by decide +kernel)) ggL_law_X2_waiting
set_option maxRecDepth 20000 in
theorem ggL_law_X3_waiting : GoodIn wsL_law wsX3_waiting := goodIn_r _ [442, 71, 275, 344, 345, 346, 5, 347, 274, 69, 348, 349, 350, 351, 66, 67, 68, 352, 353, 354, 355, 586, 587, 588, 589, 590, 591, 592, 593, 594, 595, 596, 597, 598, 599, 600, 601, 602, 603, 604, 605, 606, 607] (by decide +kernel) (by decide +kernel)
set_option maxRecDepth 20000 in
theorem gL_law_X3_waiting : GoodIn wsL_law (wsV RL 144 RX3 yX3_waiting wsX3_waiting) := goodIn_app (goodIn_of _ (by decide +kernel)) ggL_law_X3_waiting
set_option maxRecDepth 20000 in
theorem ggL_law_L_waitingAt : GoodIn wsL_law wsL_waitingAt := goodIn_ca (goodIn_r _ [445, 76, 446, 447, 448, 2, 449, 91, 92, 20, 24, 303, 308, 309, 310, 19, 311, 47, 312, 313, 314, 315, 45, 316, 317, 318, 319, 42, 43, 44, 320, 321, 322, 323, 324, 325, 326, 327, 46, 581, 582, 583, 584, 585, 617, 618, 619, 620, 621, 622, 623, 624] (by decide +kernel) (by decide +kernel)) (goodIn_sub (fun _ h => List.mem_append_right _ h) (by decide +kernel))
set_option maxRecDepth 20000 in
theorem gL_law_L_waitingAt : GoodIn wsL_law (va_wsS RL 145 yL_waitingAt wsL_waitingAt) := goodIn_app (goodIn_of _ (by decide +kernel)) ggL_law_L_waitingAt
set_option maxRecDepth 20000 in
theorem ggL_law_X3_waitingAt : GoodIn wsL_law wsX3_waitingAt := goodIn_r _ [453, 71, 275, 70, 336, 337, 338, 5, 339, 340, 341, 342, 343, 344, 345, 346, 347, 274, 69, 348, 349, 350, 351, 66, 67, 68, 352, 353, 354, 355, 156, 157, 158, 159, 586, 587, 588, 589, 590, 591, 592, 593, 594, 595, 596, 597, 598, 599, 600, 601, 602, 603, 604, 605, 606, 607] (by decide +kernel) (by decide +kernel)
set_option maxRecDepth 20000 in
theorem gL_law_X3_waitingAt : GoodIn wsL_law (wsV RL 147 RX3 yX3_waitingAt wsX3_waitingAt) := goodIn_app (goodIn_of _ (by decide +kernel)) ggL_law_X3_waitingAt
set_option maxRecDepth 20000 in
theorem ggL_law_L_room : GoodIn wsL_law wsL_room := goodIn_ca (goodIn_r _ [456, 76, 457, 458, 459, 2, 460, 87, 88, 89, 90, 91, 92, 16, 93, 219, 220, 221, 222, 223, 20, 24, 224, 225, 226, 227, 228, 229, 19, 230, 47, 40, 42, 581, 582, 583, 584, 585, 608, 609, 610, 611, 612, 613, 614, 615, 616, 617, 618, 619, 620, 621, 622, 623, 624] (by decide +kernel) (by decide +kernel)) (goodIn_sub (fun _ h => List.mem_append_right _ h) (by decide +kernel))
set_option maxRecDepth 20000 in
theorem gL_law_L_room : GoodIn wsL_law (va_wsS RL 148 yL_room wsL_room) := goodIn_app (goodIn_of _ (by decide +kernel)) ggL_law_L_room
set_option maxRecDepth 20000 in
theorem ggL_law_X3_room : GoodIn wsL_law wsX3_room := goodIn_r _ [464, 71, 55, 128, 129, 130, 5, 131, 124, 125, 126, 127, 280, 281, 282, 283, 275, 65, 66, 274, 156, 157, 158, 159, 586, 587, 588, 589, 590, 591, 592, 593, 594, 595, 596, 597, 598, 599, 600, 601, 602, 603, 604, 605, 606, 607] (by decide +kernel) (by decide +kernel)
set_option maxRecDepth 20000 in
theorem gL_law_X3_room : GoodIn wsL_law (wsV RL 150 RX3 yX3_room wsX3_room) := goodIn_app (goodIn_of _ (by decide +kernel)) ggL_law_X3_room
set_option maxRecDepth 20000 in
theorem ggL_law_L_isGood : GoodIn wsL_law wsL_isGood := goodIn_ca (goodIn_ca (goodIn_r _ [467, 76, 77, 468, 469, 470, 2, 471, 16, 87, 88, 89, 90, 91, 92, 93, 94, 95, 96, 83, 84, 241, 242, 243, 15, 244, 36, 245, 246, 247, 248, 33, 30, 31, 249, 250, 251, 252, 28, 29, 116, 117, 118, 119, 239, 240, 238, 581, 582, 583, 584, 585, 608, 609, 610, 611, 612, 613, 614, 615, 616] (by decide +kernel) (by decide +kernel)) (goodIn_sub (fun _ h => List.mem_append_right _ h) (by decide +kernel))) (goodIn_sub (fun _ h => List.mem_append_left _ (List.mem_append_left _ (List.mem_append_right _ h))) (by decide +kernel))
set_option maxRecDepth 20000 in
theorem gL_law_L_isGood : GoodIn wsL_law (va_wsS RL 151 yL_isGood wsL_isGood) := goodIn_app (goodIn_of _ (by decide +kernel)) ggL_law_L_isGood
set_option maxRecDepth 20000 in
theorem ggL_law_X3_isGood : GoodIn wsL_law wsX3_isGood := goodIn_r _ [475, 71, 128, 129, 130, 5, 131, 124, 125, 126, 127, 176, 177, 178, 276, 277, 278, 279, 53, 54, 58, 56, 57, 61, 586, 587, 588, 589, 590, 591, 592, 593, 594, 595, 596, 597, 598, 599, 600, 601, 602, 603, 604, 605, 606, 607] (by decide +kernel) (by decide +kernel)
set_option maxRecDepth 20000 in
theorem gL_law_X3_isGood : GoodIn wsL_law (wsV RL 153 RX3 yX3_isGood wsX3_isGood) := goodIn_app (goodIn_of _ (by decide +kernel)) ggL_law_X3_isGood
set_option maxRecDepth 20000 in
theorem ggL_law_L_chainEnd : GoodIn wsL_law wsL_chainEnd := goodIn_ca (goodIn_r _ [478, 76, 479, 480, 481, 2, 482, 16, 143, 87, 88, 89, 90, 91, 92, 93, 581, 582, 583, 584, 585, 608, 609, 610, 611, 612, 613, 614, 615, 616] (by decide +kernel) (by decide +kernel)) (goodIn_sub (fun _ h => List.mem_append_right _ h) (by decide +kernel))
set_option maxRecDepth 20000 in
theorem gL_law_L_chainEnd : GoodIn wsL_law (va_wsS RL 154 yL_chainEnd wsL_chainEnd) := goodIn_app (goodIn_of _ (by decide +kernel)) ggL_law_L_chainEnd
set_option maxRecDepth 20000 in
theorem ggL_law_X3_chainEnd : GoodIn wsL_law wsX3_chainEnd := goodIn_r _ [486, 71, 128, 129, 130, 5, 131, 124, 125, 126, 127, 160, 161, 162, 163, 56, 57, 62, 54, 156, 157, 158, 159, 586, 587, 588, 589, 590, 591, 592, 593, 594, 595, 596, 597, 598, 599, 600, 601, 602, 603, 604, 605, 606, 607] (by decide +kernel) (by decide +kernel)
set_option maxRecDepth 20000 in
theorem gL_law_X3_chainEnd : GoodIn wsL_law (wsV RL 156 RX3 yX3_chainEnd wsX3_chainEnd) := goodIn_app (goodIn_of _ (by decide +kernel)) ggL_law_X3_chainEnd
set_option maxRecDepth 20000 in
theorem ggL_law_L_chains : GoodIn wsL_law wsL_chains := goodIn_ca (goodIn_r _ [489, 76, 490, 491, 492, 2, 493, 16, 494, 87, 88, 89, 90, 91, 92, 93, 581, 582, 583, 584, 585, 608, 609, 610, 611, 612, 613, 614, 615, 616] (by decide +kernel) (by decide +kernel)) (goodIn_sub (fun _ h => List.mem_append_right _ h) (by decide +kernel))
set_option maxRecDepth 20000 in
theorem gL_law_L_chains : GoodIn wsL_law (va_wsS RL 157 yL_chains wsL_chains) := goodIn_app (goodIn_of _ (by decide +kernel)) ggL_law_L_chains
set_option maxRecDepth 20000 in
theorem ggL_law_X3_chains : GoodIn wsL_law wsX3_chains := goodIn_r _ [498, 71, 128, 129, 130, 5, 131, 124, 125, 126, 127, 499, 500, 501, 502, 56, 57, 63, 156, 157, 158, 159, 586, 587, 588, 589, 590, 591, 592, 593, 594, 595, 596, 597, 598, 599, 600, 601, 602, 603, 604, 605, 606, 607] (by decide +kernel) (by decide +kernel)
set_option maxRecDepth 20000 in
theorem gL_law_X3_chains : GoodIn wsL_law (wsV RL 159 RX3 yX3_chains wsX3_chains) := goodIn_app (goodIn_of _ (by decide +kernel)) ggL_law_X3_chains
set_option maxRecDepth 20000 in
theorem ggL_law_L_isCovered : GoodIn wsL_law wsL_isCovered := goodIn_ca (goodIn_ca (goodIn_r _ [505, 76, 77, 506, 507, 508, 2, 509, 186, 187, 188, 91, 92, 94, 95, 96, 83, 84, 510, 511, 512, 513, 20, 16, 241, 242, 243, 15, 244, 36, 245, 246, 247, 248, 33, 30, 31, 249, 250, 251, 252, 28, 29, 116, 117, 118, 119, 239, 240, 514, 515, 516, 19, 517, 47, 42, 40, 41, 320, 321, 322, 323, 43, 236, 237, 238, 581, 582, 583, 584, 585, 608, 609, 610, 611, 612, 613, 614, 615, 616, 617, 618, 619, 620, 621, 622, 623, 624] (by decide +kernel) (by decide +kernel)) (goodIn_sub (fun _ h => List.mem_append_right _ h) (by decide +kernel))) (goodIn_sub (fun _ h => List.mem_append_left _ (List.mem_append_left _ (List.mem_append_right _ h))) (by decide +kernel))
set_option maxRecDepth 20000 in
theorem gL_law_L_isCovered : GoodIn wsL_law (va_wsS RL 160 yL_isCovered wsL_isCovered) := goodIn_app (goodIn_of _ (by decide +kernel)) ggL_law_L_isCovered
set_option maxRecDepth 20000 in
theorem ggL_law_X3_isCovered : GoodIn wsL_law wsX3_isCovered := goodIn_r _ [521, 71, 193, 194, 5, 195, 125, 126, 127, 176, 177, 178, 522, 523, 524, 525, 275, 66, 65, 64, 352, 353, 354, 355, 67, 276, 277, 278, 279, 53, 54, 58, 56, 57, 61, 284, 285, 286, 586, 587, 588, 589, 590, 591, 592, 593, 594, 595, 596, 597, 598, 599, 600, 601, 602, 603, 604, 605, 606, 607] (by decide +kernel) (by decide +kernel)
set_option maxRecDepth 20000 in
theorem gL_law_X3_isCovered : GoodIn wsL_law (wsV RL 162 RX3 yX3_isCovered wsX3_isCovered) := goodIn_app (goodIn_of _ (by decide +kernel)) ggL_law_X3_isCovered
set_option maxRecDepth 20000 in
theorem ggL_law_L_nextGap : GoodIn wsL_law wsL_nextGap := goodIn_ca (goodIn_ca (goodIn_r _ [528, 76, 77, 529, 530, 531, 2, 532, 186, 187, 188, 91, 92, 94, 95, 96, 83, 84, 510, 511, 512, 513, 20, 16, 241, 242, 243, 15, 244, 36, 245, 246, 247, 248, 33, 30, 31, 249, 250, 251, 252, 28, 29, 116, 117, 118, 119, 239, 240, 514, 515, 516, 19, 517, 47, 42, 40, 41, 320, 321, 322, 323, 43, 236, 237, 238, 581, 582, 583, 584, 585, 608, 609, 610, 611, 612, 613, 614, 615, 616, 617, 618, 619, 620, 621, 622, 623, 624] (by decide +kernel) (by decide +kernel)) (goodIn_sub (fun _ h => List.mem_append_right _ h) (by decide +kernel))) (goodIn_sub (fun _ h => List.mem_append_left _ (List.mem_append_left _ (List.mem_append_right _ h))) (by decide +kernel))
set_option maxRecDepth 20000 in
theorem gL_law_L_nextGap : GoodIn wsL_law (va_wsS RL 163 yL_nextGap wsL_nextGap) := goodIn_app (goodIn_of _ (by decide +kernel)) ggL_law_L_nextGap
set_option maxRecDepth 20000 in
theorem ggL_law_X3_nextGap : GoodIn wsL_law wsX3_nextGap := goodIn_r _ [536, 71, 193, 194, 5, 195, 125, 126, 127, 176, 177, 178, 522, 523, 524, 525, 275, 66, 65, 64, 352, 353, 354, 355, 67, 276, 277, 278, 279, 53, 54, 58, 56, 57, 61, 284, 285, 286, 586, 587, 588, 589, 590, 591, 592, 593, 594, 595, 596, 597, 598, 599, 600, 601, 602, 603, 604, 605, 606, 607] (by decide +kernel) (by decide +kernel)
set_option maxRecDepth 20000 in
theorem gL_law_X3_nextGap : GoodIn wsL_law (wsV RL 165 RX3 yX3_nextGap wsX3_nextGap) := goodIn_app (goodIn_of _ (by decide +kernel)) ggL_law_X3_nextGap
set_option maxRecDepth 20000 in
theorem ggL_law_L_covered : GoodIn wsL_law wsL_covered := goodIn_ca (goodIn_r _ [539, 77, 540, 541, 542, 2, 543, 94, 95, 96, 83, 84, 510, 511, 512, 513, 20, 16, 241, 242, 243, 15, 244, 36, 245, 246, 247, 248, 33, 30, 31, 249, 250, 251, 252, 28, 29, 116, 117, 118, 119, 239, 240, 514, 515, 516, 19, 517, 47, 42, 40, 41, 320, 321, 322, 323, 43, 236, 237, 581, 582, 583, 584, 585, 608, 609, 610, 611, 612, 613, 614, 615, 616, 617, 618, 619, 620, 621, 622, 623, 624] (by decide +kernel) (by decide +kernel)) (goodIn_sub (fun _ h => List.mem_append_left _ (List.mem_append_left _ (List.mem_append_right _ h))) (by decide +kernel))
set_option maxRecDepth 20000 in
theorem gL_law_L_covered : GoodIn wsL_law (va_wsS RL 166 yL_covered wsL_covered) := goodIn_app (goodIn_of _ (by decide +kernel)) ggL_law_L_covered
set_option maxRecDepth 20000 in
theorem ggL_law_X3_covered : GoodIn wsL_law wsX3_covered := goodIn_r _ [547, 71, 176, 177, 5, 178, 125, 126, 127, 522, 523, 524, 525, 275, 66, 65, 64, 352, 353, 354, 355, 67, 276, 277, 278, 279, 53, 54, 58, 56, 57, 61, 284, 285, 286, 586, 587, 588, 589, 590, 591, 592, 593, 594, 595, 596, 597, 598, 599, 600, 601, 602, 603, 604, 605, 606, 607] (by decide +kernel) (by decide +kernel)
set_option maxRecDepth 20000 in
theorem gL_law_X3_covered : GoodIn wsL_law (wsV RL 168 RX3 yX3_covered wsX3_covered) := goodIn_app (goodIn_of _ (by decide +kernel)) ggL_law_X3_covered
set_option maxRecDepth 20000 in
theorem ggL_law_L_breaks : GoodIn wsL_law wsL_breaks := goodIn_ca (goodIn_ca (goodIn_r _ [550, 76, 77, 551, 552, 553, 2, 554, 87, 88, 89, 90, 91, 92, 16, 93, 94, 95, 96, 83, 84, 555, 556, 557, 558, 510, 511, 512, 513, 20, 241, 242, 243, 15, 244, 36, 245, 246, 247, 248, 33, 30, 31, 249, 250, 251, 252, 28, 29, 116, 117, 118, 119, 239, 240, 514, 515, 516, 19, 517, 47, 42, 40, 41, 320, 321, 322, 323, 43, 236, 237, 581, 582, 583, 584, 585, 608, 609, 610, 611, 612, 613, 614, 615, 616, 617, 618, 619, 620, 621, 622, 623, 624] (by decide +kernel) (by decide +kernel)) (goodIn_sub (fun _ h => List.mem_append_right _ h) (by decide +kernel))) (goodIn_sub (fun _ h => List.mem_append_left _ (List.mem_append_left _ (List.mem_append_right _ h))) (by decide +kernel))
set_option maxRecDepth 20000 in
theorem gL_law_L_breaks : GoodIn wsL_law (va_wsS RL 169 yL_breaks wsL_breaks) := goodIn_app (goodIn_of _ (by decide +kernel)) ggL_law_L_breaks
set_option maxRecDepth 20000 in
theorem ggL_law_X3_breaks : GoodIn wsL_law wsX3_breaks := goodIn_r _ [562, 71, 128, 129, 130, 5, 131, 124, 125, 126, 127, 176, 177, 178, 522, 523, 524, 525, 275, 66, 65, 64, 352, 353, 354, 355, 67, 276, 277, 278, 279, 53, 54, 58, 56, 57, 61, 284, 285, 286, 586, 587, 588, 589, 590, 591, 592, 593, 594, 595, 596, 597, 598, 599, 600, 601, 602, 603, 604, 605, 606, 607] (by decide +kernel) (by decide +kernel)
set_option maxRecDepth 20000 in
theorem gL_law_X3_breaks : GoodIn wsL_law (wsV RL 171 RX3 yX3_breaks wsX3_breaks) := goodIn_app (goodIn_of _ (by decide +kernel)) ggL_law_X3_breaks
set_option maxRecDepth 20000 in
theorem ggL_law_L_weakest : GoodIn wsL_law wsL_weakest := goodIn_ca (goodIn_r _ [565, 77, 566, 567, 568, 2, 569, 16, 93, 94, 95, 96, 83, 84, 555, 556, 557, 558, 510, 511, 512, 513, 20, 241, 242, 243, 15, 244, 36, 245, 246, 247, 248, 33, 30, 31, 249, 250, 251, 252, 28, 29, 116, 117, 118, 119, 239, 240, 514, 515, 516, 19, 517, 47, 42, 40, 41, 320, 321, 322, 323, 43, 236, 237, 570, 571, 572, 573, 574, 575, 576, 581, 582, 583, 584, 585, 608, 609, 610, 611, 612, 613, 614, 615, 616, 617, 618, 619, 620, 621, 622, 623, 624] (by decide +kernel) (by decide +kernel)) (goodIn_sub (fun _ h => List.mem_append_left _ (List.mem_append_left _ (List.mem_append_right _ h))) (by decide +kernel))
set_option maxRecDepth 20000 in
theorem gL_law_L_weakest : GoodIn wsL_law (va_wsS RL 172 yL_weakest wsL_weakest) := goodIn_app (goodIn_of _ (by decide +kernel)) ggL_law_L_weakest
set_option maxRecDepth 20000 in
theorem ggL_law_X3_weakest : GoodIn wsL_law wsX3_weakest := goodIn_r _ [580, 71, 124, 176, 177, 5, 178, 125, 126, 127, 522, 523, 524, 525, 275, 66, 65, 64, 352, 353, 354, 355, 67, 276, 277, 278, 279, 53, 54, 58, 56, 57, 61, 284, 285, 286, 586, 587, 588, 589, 590, 591, 592, 593, 594, 595, 596, 597, 598, 599, 600, 601, 602, 603, 604, 605, 606, 607] (by decide +kernel) (by decide +kernel)
set_option maxRecDepth 20000 in
theorem gL_law_X3_weakest : GoodIn wsL_law (wsV RL 174 RX3 yX3_weakest wsX3_weakest) := goodIn_app (goodIn_of _ (by decide +kernel)) ggL_law_X3_weakest
theorem dL_law_0 : decode cL_law 0 = .ok (.new 8, 3) := by decide +kernel
theorem dL_law_3 : decode cL_law 3 = .ok (.dup, 1) := by decide +kernel
theorem dL_law_4 : decode cL_law 4 = .ok (.invokespecial 80, 3) := by decide +kernel
theorem dL_law_7 : decode cL_law 7 = .ok (.astore_n 1, 1) := by decide +kernel
theorem dL_law_8 : decode cL_law 8 = .ok (.new 81, 3) := by decide +kernel
theorem dL_law_11 : decode cL_law 11 = .ok (.dup, 1) := by decide +kernel
theorem dL_law_12 : decode cL_law 12 = .ok (.invokespecial 83, 3) := by decide +kernel
theorem dL_law_15 : decode cL_law 15 = .ok (.astore_n 2, 1) := by decide +kernel
theorem dL_law_16 : decode cL_law 16 = .ok (.iconst 1, 1) := by decide +kernel
theorem dL_law_17 : decode cL_law 17 = .ok (.newarray .long, 2) := by decide +kernel
theorem dL_law_19 : decode cL_law 19 = .ok (.astore_n 3, 1) := by decide +kernel
theorem dL_law_20 : decode cL_law 20 = .ok (.iconst 0, 1) := by decide +kernel
theorem dL_law_21 : decode cL_law 21 = .ok (.istore 4, 2) := by decide +kernel
theorem dL_law_23 : decode cL_law 23 = .ok (.iload 4, 2) := by decide +kernel
theorem dL_law_25 : decode cL_law 25 = .ok (.aload_n 0, 1) := by decide +kernel
theorem dL_law_26 : decode cL_law 26 = .ok (.arraylength, 1) := by decide +kernel
theorem dL_law_27 : decode cL_law 27 = .ok (.iconst 5, 1) := by decide +kernel
theorem dL_law_28 : decode cL_law 28 = .ok (.isub, 1) := by decide +kernel
theorem dL_law_29 : decode cL_law 29 = .ok (.if_icmp .gt 1482, 3) := by decide +kernel
theorem dL_law_32 : decode cL_law 32 = .ok (.aload_n 0, 1) := by decide +kernel
theorem dL_law_33 : decode cL_law 33 = .ok (.iload 4, 2) := by decide +kernel
theorem dL_law_35 : decode cL_law 35 = .ok (.iaload, 1) := by decide +kernel
theorem dL_law_36 : decode cL_law 36 = .ok (.bipush 31, 2) := by decide +kernel
theorem dL_law_38 : decode cL_law 38 = .ok (.iand, 1) := by decide +kernel
theorem dL_law_39 : decode cL_law 39 = .ok (.tableswitch 1466 0 24 #[113, 205, 273, 341, 409, 432, 512, 568, 581, 594, 607, 663, 719, 775, 831, 844, 900, 956, 1031, 1087, 1143, 1218, 1286, 1342, 1410], 113) := by decide +kernel
theorem dL_law_152 : decode cL_law 152 = .ok (.aload_n 1, 1) := by decide +kernel
theorem dL_law_153 : decode cL_law 153 = .ok (.aload_n 0, 1) := by decide +kernel
theorem dL_law_154 : decode cL_law 154 = .ok (.iload 4, 2) := by decide +kernel
theorem dL_law_156 : decode cL_law 156 = .ok (.iconst 1, 1) := by decide +kernel
theorem dL_law_157 : decode cL_law 157 = .ok (.iadd, 1) := by decide +kernel
theorem dL_law_158 : decode cL_law 158 = .ok (.iaload, 1) := by decide +kernel
theorem dL_law_159 : decode cL_law 159 = .ok (.aload_n 0, 1) := by decide +kernel
theorem dL_law_160 : decode cL_law 160 = .ok (.iload 4, 2) := by decide +kernel
theorem dL_law_162 : decode cL_law 162 = .ok (.iconst 2, 1) := by decide +kernel
theorem dL_law_163 : decode cL_law 163 = .ok (.iadd, 1) := by decide +kernel
theorem dL_law_164 : decode cL_law 164 = .ok (.iaload, 1) := by decide +kernel
theorem dL_law_165 : decode cL_law 165 = .ok (.aload_n 0, 1) := by decide +kernel
theorem dL_law_166 : decode cL_law 166 = .ok (.iload 4, 2) := by decide +kernel
theorem dL_law_168 : decode cL_law 168 = .ok (.iconst 3, 1) := by decide +kernel
theorem dL_law_169 : decode cL_law 169 = .ok (.iadd, 1) := by decide +kernel
theorem dL_law_170 : decode cL_law 170 = .ok (.iaload, 1) := by decide +kernel
theorem dL_law_171 : decode cL_law 171 = .ok (.aload_n 0, 1) := by decide +kernel
theorem dL_law_172 : decode cL_law 172 = .ok (.iload 4, 2) := by decide +kernel
theorem dL_law_174 : decode cL_law 174 = .ok (.iconst 4, 1) := by decide +kernel
theorem dL_law_175 : decode cL_law 175 = .ok (.iadd, 1) := by decide +kernel
theorem dL_law_176 : decode cL_law 176 = .ok (.iaload, 1) := by decide +kernel
theorem dL_law_177 : decode cL_law 177 = .ok (.aload_n 3, 1) := by decide +kernel
theorem dL_law_178 : decode cL_law 178 = .ok (.invokestatic 84, 3) := by decide +kernel
theorem dL_law_181 : decode cL_law 181 = .ok (.istore 5, 2) := by decide +kernel
theorem dL_law_183 : decode cL_law 183 = .ok (.aload_n 2, 1) := by decide +kernel
theorem dL_law_184 : decode cL_law 184 = .ok (.aload_n 0, 1) := by decide +kernel
theorem dL_law_185 : decode cL_law 185 = .ok (.iload 4, 2) := by decide +kernel
theorem dL_law_187 : decode cL_law 187 = .ok (.iconst 1, 1) := by decide +kernel
theorem dL_law_188 : decode cL_law 188 = .ok (.iadd, 1) := by decide +kernel
theorem dL_law_189 : decode cL_law 189 = .ok (.iaload, 1) := by decide +kernel
theorem dL_law_190 : decode cL_law 190 = .ok (.aload_n 0, 1) := by decide +kernel
theorem dL_law_191 : decode cL_law 191 = .ok (.iload 4, 2) := by decide +kernel
theorem dL_law_193 : decode cL_law 193 = .ok (.iconst 2, 1) := by decide +kernel
theorem dL_law_194 : decode cL_law 194 = .ok (.iadd, 1) := by decide +kernel
theorem dL_law_195 : decode cL_law 195 = .ok (.iaload, 1) := by decide +kernel
theorem dL_law_196 : decode cL_law 196 = .ok (.aload_n 0, 1) := by decide +kernel
theorem dL_law_197 : decode cL_law 197 = .ok (.iload 4, 2) := by decide +kernel
theorem dL_law_199 : decode cL_law 199 = .ok (.iconst 3, 1) := by decide +kernel
theorem dL_law_200 : decode cL_law 200 = .ok (.iadd, 1) := by decide +kernel
theorem dL_law_201 : decode cL_law 201 = .ok (.iaload, 1) := by decide +kernel
theorem dL_law_202 : decode cL_law 202 = .ok (.aload_n 0, 1) := by decide +kernel
theorem dL_law_203 : decode cL_law 203 = .ok (.iload 4, 2) := by decide +kernel
theorem dL_law_205 : decode cL_law 205 = .ok (.iconst 4, 1) := by decide +kernel
theorem dL_law_206 : decode cL_law 206 = .ok (.iadd, 1) := by decide +kernel
theorem dL_law_207 : decode cL_law 207 = .ok (.iaload, 1) := by decide +kernel
theorem dL_law_208 : decode cL_law 208 = .ok (.invokevirtual 89, 3) := by decide +kernel
theorem dL_law_211 : decode cL_law 211 = .ok (.istore 6, 2) := by decide +kernel
theorem dL_law_213 : decode cL_law 213 = .ok (.aload_n 2, 1) := by decide +kernel
theorem dL_law_214 : decode cL_law 214 = .ok (.invokevirtual 90, 3) := by decide +kernel
theorem dL_law_217 : decode cL_law 217 = .ok (.iload 5, 2) := by decide +kernel
theorem dL_law_219 : decode cL_law 219 = .ok (.if_icmp .eq 5, 3) := by decide +kernel
theorem dL_law_222 : decode cL_law 222 = .ok (.iconst 0, 1) := by decide +kernel
theorem dL_law_223 : decode cL_law 223 = .ok (.ireturn, 1) := by decide +kernel
theorem dL_law_224 : decode cL_law 224 = .ok (.iload 5, 2) := by decide +kernel
theorem dL_law_226 : decode cL_law 226 = .ok (.ifCond .ne 15, 3) := by decide +kernel
theorem dL_law_229 : decode cL_law 229 = .ok (.aload_n 3, 1) := by decide +kernel
theorem dL_law_230 : decode cL_law 230 = .ok (.iconst 0, 1) := by decide +kernel
theorem dL_law_231 : decode cL_law 231 = .ok (.laload, 1) := by decide +kernel
theorem dL_law_232 : decode cL_law 232 = .ok (.iload 6, 2) := by decide +kernel
theorem dL_law_234 : decode cL_law 234 = .ok (.i2l, 1) := by decide +kernel
theorem dL_law_235 : decode cL_law 235 = .ok (.lcmp, 1) := by decide +kernel
theorem dL_law_236 : decode cL_law 236 = .ok (.ifCond .eq 5, 3) := by decide +kernel
theorem dL_law_239 : decode cL_law 239 = .ok (.iconst 0, 1) := by decide +kernel
theorem dL_law_240 : decode cL_law 240 = .ok (.ireturn, 1) := by decide +kernel
theorem dL_law_241 : decode cL_law 241 = .ok (.goto 1264, 3) := by decide +kernel
theorem dL_law_244 : decode cL_law 244 = .ok (.aload_n 1, 1) := by decide +kernel
theorem dL_law_245 : decode cL_law 245 = .ok (.aload_n 0, 1) := by decide +kernel
theorem dL_law_246 : decode cL_law 246 = .ok (.iload 4, 2) := by decide +kernel
theorem dL_law_248 : decode cL_law 248 = .ok (.iconst 1, 1) := by decide +kernel
theorem dL_law_249 : decode cL_law 249 = .ok (.iadd, 1) := by decide +kernel
theorem dL_law_250 : decode cL_law 250 = .ok (.iaload, 1) := by decide +kernel
theorem dL_law_251 : decode cL_law 251 = .ok (.aload_n 0, 1) := by decide +kernel
theorem dL_law_252 : decode cL_law 252 = .ok (.iload 4, 2) := by decide +kernel
theorem dL_law_254 : decode cL_law 254 = .ok (.iconst 2, 1) := by decide +kernel
theorem dL_law_255 : decode cL_law 255 = .ok (.iadd, 1) := by decide +kernel
theorem dL_law_256 : decode cL_law 256 = .ok (.iaload, 1) := by decide +kernel
theorem dL_law_257 : decode cL_law 257 = .ok (.aload_n 3, 1) := by decide +kernel
theorem dL_law_258 : decode cL_law 258 = .ok (.invokestatic 94, 3) := by decide +kernel
theorem dL_law_261 : decode cL_law 261 = .ok (.istore 5, 2) := by decide +kernel
theorem dL_law_263 : decode cL_law 263 = .ok (.aload_n 2, 1) := by decide +kernel
theorem dL_law_264 : decode cL_law 264 = .ok (.aload_n 0, 1) := by decide +kernel
theorem dL_law_265 : decode cL_law 265 = .ok (.iload 4, 2) := by decide +kernel
theorem dL_law_267 : decode cL_law 267 = .ok (.iconst 1, 1) := by decide +kernel
theorem dL_law_268 : decode cL_law 268 = .ok (.iadd, 1) := by decide +kernel
theorem dL_law_269 : decode cL_law 269 = .ok (.iaload, 1) := by decide +kernel
theorem dL_law_270 : decode cL_law 270 = .ok (.aload_n 0, 1) := by decide +kernel
theorem dL_law_271 : decode cL_law 271 = .ok (.iload 4, 2) := by decide +kernel
theorem dL_law_273 : decode cL_law 273 = .ok (.iconst 2, 1) := by decide +kernel
theorem dL_law_274 : decode cL_law 274 = .ok (.iadd, 1) := by decide +kernel
theorem dL_law_275 : decode cL_law 275 = .ok (.iaload, 1) := by decide +kernel
theorem dL_law_276 : decode cL_law 276 = .ok (.invokevirtual 97, 3) := by decide +kernel
theorem dL_law_279 : decode cL_law 279 = .ok (.istore 6, 2) := by decide +kernel
theorem dL_law_281 : decode cL_law 281 = .ok (.aload_n 2, 1) := by decide +kernel
theorem dL_law_282 : decode cL_law 282 = .ok (.invokevirtual 90, 3) := by decide +kernel
theorem dL_law_285 : decode cL_law 285 = .ok (.iload 5, 2) := by decide +kernel
theorem dL_law_287 : decode cL_law 287 = .ok (.if_icmp .eq 5, 3) := by decide +kernel
theorem dL_law_290 : decode cL_law 290 = .ok (.iconst 0, 1) := by decide +kernel
theorem dL_law_291 : decode cL_law 291 = .ok (.ireturn, 1) := by decide +kernel
theorem dL_law_292 : decode cL_law 292 = .ok (.iload 5, 2) := by decide +kernel
theorem dL_law_294 : decode cL_law 294 = .ok (.ifCond .ne 15, 3) := by decide +kernel
theorem dL_law_297 : decode cL_law 297 = .ok (.aload_n 3, 1) := by decide +kernel
theorem dL_law_298 : decode cL_law 298 = .ok (.iconst 0, 1) := by decide +kernel
theorem dL_law_299 : decode cL_law 299 = .ok (.laload, 1) := by decide +kernel
theorem dL_law_300 : decode cL_law 300 = .ok (.iload 6, 2) := by decide +kernel
theorem dL_law_302 : decode cL_law 302 = .ok (.i2l, 1) := by decide +kernel
theorem dL_law_303 : decode cL_law 303 = .ok (.lcmp, 1) := by decide +kernel
theorem dL_law_304 : decode cL_law 304 = .ok (.ifCond .eq 5, 3) := by decide +kernel
theorem dL_law_307 : decode cL_law 307 = .ok (.iconst 0, 1) := by decide +kernel
theorem dL_law_308 : decode cL_law 308 = .ok (.ireturn, 1) := by decide +kernel
theorem dL_law_309 : decode cL_law 309 = .ok (.goto 1196, 3) := by decide +kernel
theorem dL_law_312 : decode cL_law 312 = .ok (.aload_n 1, 1) := by decide +kernel
theorem dL_law_313 : decode cL_law 313 = .ok (.aload_n 0, 1) := by decide +kernel
theorem dL_law_314 : decode cL_law 314 = .ok (.iload 4, 2) := by decide +kernel
theorem dL_law_316 : decode cL_law 316 = .ok (.iconst 1, 1) := by decide +kernel
theorem dL_law_317 : decode cL_law 317 = .ok (.iadd, 1) := by decide +kernel
theorem dL_law_318 : decode cL_law 318 = .ok (.iaload, 1) := by decide +kernel
theorem dL_law_319 : decode cL_law 319 = .ok (.aload_n 0, 1) := by decide +kernel
theorem dL_law_320 : decode cL_law 320 = .ok (.iload 4, 2) := by decide +kernel
theorem dL_law_322 : decode cL_law 322 = .ok (.iconst 2, 1) := by decide +kernel
theorem dL_law_323 : decode cL_law 323 = .ok (.iadd, 1) := by decide +kernel
theorem dL_law_324 : decode cL_law 324 = .ok (.iaload, 1) := by decide +kernel
theorem dL_law_325 : decode cL_law 325 = .ok (.aload_n 3, 1) := by decide +kernel
theorem dL_law_326 : decode cL_law 326 = .ok (.invokestatic 98, 3) := by decide +kernel
theorem dL_law_329 : decode cL_law 329 = .ok (.istore 5, 2) := by decide +kernel
theorem dL_law_331 : decode cL_law 331 = .ok (.aload_n 2, 1) := by decide +kernel
theorem dL_law_332 : decode cL_law 332 = .ok (.aload_n 0, 1) := by decide +kernel
theorem dL_law_333 : decode cL_law 333 = .ok (.iload 4, 2) := by decide +kernel
theorem dL_law_335 : decode cL_law 335 = .ok (.iconst 1, 1) := by decide +kernel
theorem dL_law_336 : decode cL_law 336 = .ok (.iadd, 1) := by decide +kernel
theorem dL_law_337 : decode cL_law 337 = .ok (.iaload, 1) := by decide +kernel
theorem dL_law_338 : decode cL_law 338 = .ok (.aload_n 0, 1) := by decide +kernel
theorem dL_law_339 : decode cL_law 339 = .ok (.iload 4, 2) := by decide +kernel
theorem dL_law_341 : decode cL_law 341 = .ok (.iconst 2, 1) := by decide +kernel
theorem dL_law_342 : decode cL_law 342 = .ok (.iadd, 1) := by decide +kernel
theorem dL_law_343 : decode cL_law 343 = .ok (.iaload, 1) := by decide +kernel
theorem dL_law_344 : decode cL_law 344 = .ok (.invokevirtual 100, 3) := by decide +kernel
theorem dL_law_347 : decode cL_law 347 = .ok (.istore 6, 2) := by decide +kernel
theorem dL_law_349 : decode cL_law 349 = .ok (.aload_n 2, 1) := by decide +kernel
theorem dL_law_350 : decode cL_law 350 = .ok (.invokevirtual 90, 3) := by decide +kernel
theorem dL_law_353 : decode cL_law 353 = .ok (.iload 5, 2) := by decide +kernel
theorem dL_law_355 : decode cL_law 355 = .ok (.if_icmp .eq 5, 3) := by decide +kernel
theorem dL_law_358 : decode cL_law 358 = .ok (.iconst 0, 1) := by decide +kernel
theorem dL_law_359 : decode cL_law 359 = .ok (.ireturn, 1) := by decide +kernel
theorem dL_law_360 : decode cL_law 360 = .ok (.iload 5, 2) := by decide +kernel
theorem dL_law_362 : decode cL_law 362 = .ok (.ifCond .ne 15, 3) := by decide +kernel
theorem dL_law_365 : decode cL_law 365 = .ok (.aload_n 3, 1) := by decide +kernel
theorem dL_law_366 : decode cL_law 366 = .ok (.iconst 0, 1) := by decide +kernel
theorem dL_law_367 : decode cL_law 367 = .ok (.laload, 1) := by decide +kernel
theorem dL_law_368 : decode cL_law 368 = .ok (.iload 6, 2) := by decide +kernel
theorem dL_law_370 : decode cL_law 370 = .ok (.i2l, 1) := by decide +kernel
theorem dL_law_371 : decode cL_law 371 = .ok (.lcmp, 1) := by decide +kernel
theorem dL_law_372 : decode cL_law 372 = .ok (.ifCond .eq 5, 3) := by decide +kernel
theorem dL_law_375 : decode cL_law 375 = .ok (.iconst 0, 1) := by decide +kernel
theorem dL_law_376 : decode cL_law 376 = .ok (.ireturn, 1) := by decide +kernel
theorem dL_law_377 : decode cL_law 377 = .ok (.goto 1128, 3) := by decide +kernel
theorem dL_law_380 : decode cL_law 380 = .ok (.aload_n 1, 1) := by decide +kernel
theorem dL_law_381 : decode cL_law 381 = .ok (.aload_n 0, 1) := by decide +kernel
theorem dL_law_382 : decode cL_law 382 = .ok (.iload 4, 2) := by decide +kernel
theorem dL_law_384 : decode cL_law 384 = .ok (.iconst 1, 1) := by decide +kernel
theorem dL_law_385 : decode cL_law 385 = .ok (.iadd, 1) := by decide +kernel
theorem dL_law_386 : decode cL_law 386 = .ok (.iaload, 1) := by decide +kernel
theorem dL_law_387 : decode cL_law 387 = .ok (.aload_n 0, 1) := by decide +kernel
theorem dL_law_388 : decode cL_law 388 = .ok (.iload 4, 2) := by decide +kernel
theorem dL_law_390 : decode cL_law 390 = .ok (.iconst 2, 1) := by decide +kernel
theorem dL_law_391 : decode cL_law 391 = .ok (.iadd, 1) := by decide +kernel
theorem dL_law_392 : decode cL_law 392 = .ok (.iaload, 1) := by decide +kernel
theorem dL_law_393 : decode cL_law 393 = .ok (.aload_n 3, 1) := by decide +kernel
theorem dL_law_394 : decode cL_law 394 = .ok (.invokestatic 101, 3) := by decide +kernel
theorem dL_law_397 : decode cL_law 397 = .ok (.istore 5, 2) := by decide +kernel
theorem dL_law_399 : decode cL_law 399 = .ok (.aload_n 2, 1) := by decide +kernel
theorem dL_law_400 : decode cL_law 400 = .ok (.aload_n 0, 1) := by decide +kernel
theorem dL_law_401 : decode cL_law 401 = .ok (.iload 4, 2) := by decide +kernel
theorem dL_law_403 : decode cL_law 403 = .ok (.iconst 1, 1) := by decide +kernel
theorem dL_law_404 : decode cL_law 404 = .ok (.iadd, 1) := by decide +kernel
theorem dL_law_405 : decode cL_law 405 = .ok (.iaload, 1) := by decide +kernel
theorem dL_law_406 : decode cL_law 406 = .ok (.aload_n 0, 1) := by decide +kernel
theorem dL_law_407 : decode cL_law 407 = .ok (.iload 4, 2) := by decide +kernel
theorem dL_law_409 : decode cL_law 409 = .ok (.iconst 2, 1) := by decide +kernel
theorem dL_law_410 : decode cL_law 410 = .ok (.iadd, 1) := by decide +kernel
theorem dL_law_411 : decode cL_law 411 = .ok (.iaload, 1) := by decide +kernel
theorem dL_law_412 : decode cL_law 412 = .ok (.invokevirtual 103, 3) := by decide +kernel
theorem dL_law_415 : decode cL_law 415 = .ok (.istore 6, 2) := by decide +kernel
theorem dL_law_417 : decode cL_law 417 = .ok (.aload_n 2, 1) := by decide +kernel
theorem dL_law_418 : decode cL_law 418 = .ok (.invokevirtual 90, 3) := by decide +kernel
theorem dL_law_421 : decode cL_law 421 = .ok (.iload 5, 2) := by decide +kernel
theorem dL_law_423 : decode cL_law 423 = .ok (.if_icmp .eq 5, 3) := by decide +kernel
theorem dL_law_426 : decode cL_law 426 = .ok (.iconst 0, 1) := by decide +kernel
theorem dL_law_427 : decode cL_law 427 = .ok (.ireturn, 1) := by decide +kernel
theorem dL_law_428 : decode cL_law 428 = .ok (.iload 5, 2) := by decide +kernel
theorem dL_law_430 : decode cL_law 430 = .ok (.ifCond .ne 15, 3) := by decide +kernel
theorem dL_law_433 : decode cL_law 433 = .ok (.aload_n 3, 1) := by decide +kernel
theorem dL_law_434 : decode cL_law 434 = .ok (.iconst 0, 1) := by decide +kernel
theorem dL_law_435 : decode cL_law 435 = .ok (.laload, 1) := by decide +kernel
theorem dL_law_436 : decode cL_law 436 = .ok (.iload 6, 2) := by decide +kernel
theorem dL_law_438 : decode cL_law 438 = .ok (.i2l, 1) := by decide +kernel
theorem dL_law_439 : decode cL_law 439 = .ok (.lcmp, 1) := by decide +kernel
theorem dL_law_440 : decode cL_law 440 = .ok (.ifCond .eq 5, 3) := by decide +kernel
theorem dL_law_443 : decode cL_law 443 = .ok (.iconst 0, 1) := by decide +kernel
theorem dL_law_444 : decode cL_law 444 = .ok (.ireturn, 1) := by decide +kernel
theorem dL_law_445 : decode cL_law 445 = .ok (.goto 1060, 3) := by decide +kernel
theorem dL_law_448 : decode cL_law 448 = .ok (.aload_n 1, 1) := by decide +kernel
theorem dL_law_449 : decode cL_law 449 = .ok (.aload_n 0, 1) := by decide +kernel
theorem dL_law_450 : decode cL_law 450 = .ok (.iload 4, 2) := by decide +kernel
theorem dL_law_452 : decode cL_law 452 = .ok (.iconst 1, 1) := by decide +kernel
theorem dL_law_453 : decode cL_law 453 = .ok (.iadd, 1) := by decide +kernel
theorem dL_law_454 : decode cL_law 454 = .ok (.iaload, 1) := by decide +kernel
theorem dL_law_455 : decode cL_law 455 = .ok (.invokevirtual 104, 3) := by decide +kernel
theorem dL_law_458 : decode cL_law 458 = .ok (.aload_n 2, 1) := by decide +kernel
theorem dL_law_459 : decode cL_law 459 = .ok (.aload_n 0, 1) := by decide +kernel
theorem dL_law_460 : decode cL_law 460 = .ok (.iload 4, 2) := by decide +kernel
theorem dL_law_462 : decode cL_law 462 = .ok (.iconst 1, 1) := by decide +kernel
theorem dL_law_463 : decode cL_law 463 = .ok (.iadd, 1) := by decide +kernel
theorem dL_law_464 : decode cL_law 464 = .ok (.iaload, 1) := by decide +kernel
theorem dL_law_465 : decode cL_law 465 = .ok (.invokevirtual 108, 3) := by decide +kernel
theorem dL_law_468 : decode cL_law 468 = .ok (.goto 1037, 3) := by decide +kernel
theorem dL_law_471 : decode cL_law 471 = .ok (.aload_n 1, 1) := by decide +kernel
theorem dL_law_472 : decode cL_law 472 = .ok (.aload_n 0, 1) := by decide +kernel
theorem dL_law_473 : decode cL_law 473 = .ok (.iload 4, 2) := by decide +kernel
theorem dL_law_475 : decode cL_law 475 = .ok (.iconst 1, 1) := by decide +kernel
theorem dL_law_476 : decode cL_law 476 = .ok (.iadd, 1) := by decide +kernel
theorem dL_law_477 : decode cL_law 477 = .ok (.iaload, 1) := by decide +kernel
theorem dL_law_478 : decode cL_law 478 = .ok (.aload_n 0, 1) := by decide +kernel
theorem dL_law_479 : decode cL_law 479 = .ok (.iload 4, 2) := by decide +kernel
theorem dL_law_481 : decode cL_law 481 = .ok (.iconst 2, 1) := by decide +kernel
theorem dL_law_482 : decode cL_law 482 = .ok (.iadd, 1) := by decide +kernel
theorem dL_law_483 : decode cL_law 483 = .ok (.iaload, 1) := by decide +kernel
theorem dL_law_484 : decode cL_law 484 = .ok (.aload_n 0, 1) := by decide +kernel
theorem dL_law_485 : decode cL_law 485 = .ok (.iload 4, 2) := by decide +kernel
theorem dL_law_487 : decode cL_law 487 = .ok (.iconst 3, 1) := by decide +kernel
theorem dL_law_488 : decode cL_law 488 = .ok (.iadd, 1) := by decide +kernel
theorem dL_law_489 : decode cL_law 489 = .ok (.iaload, 1) := by decide +kernel
theorem dL_law_490 : decode cL_law 490 = .ok (.aload_n 3, 1) := by decide +kernel
theorem dL_law_491 : decode cL_law 491 = .ok (.invokestatic 109, 3) := by decide +kernel
theorem dL_law_494 : decode cL_law 494 = .ok (.istore 5, 2) := by decide +kernel
theorem dL_law_496 : decode cL_law 496 = .ok (.aload_n 2, 1) := by decide +kernel
theorem dL_law_497 : decode cL_law 497 = .ok (.aload_n 0, 1) := by decide +kernel
theorem dL_law_498 : decode cL_law 498 = .ok (.iload 4, 2) := by decide +kernel
theorem dL_law_500 : decode cL_law 500 = .ok (.iconst 1, 1) := by decide +kernel
theorem dL_law_501 : decode cL_law 501 = .ok (.iadd, 1) := by decide +kernel
theorem dL_law_502 : decode cL_law 502 = .ok (.iaload, 1) := by decide +kernel
theorem dL_law_503 : decode cL_law 503 = .ok (.aload_n 0, 1) := by decide +kernel
theorem dL_law_504 : decode cL_law 504 = .ok (.iload 4, 2) := by decide +kernel
theorem dL_law_506 : decode cL_law 506 = .ok (.iconst 2, 1) := by decide +kernel
theorem dL_law_507 : decode cL_law 507 = .ok (.iadd, 1) := by decide +kernel
theorem dL_law_508 : decode cL_law 508 = .ok (.iaload, 1) := by decide +kernel
theorem dL_law_509 : decode cL_law 509 = .ok (.aload_n 0, 1) := by decide +kernel
theorem dL_law_510 : decode cL_law 510 = .ok (.iload 4, 2) := by decide +kernel
theorem dL_law_512 : decode cL_law 512 = .ok (.iconst 3, 1) := by decide +kernel
theorem dL_law_513 : decode cL_law 513 = .ok (.iadd, 1) := by decide +kernel
theorem dL_law_514 : decode cL_law 514 = .ok (.iaload, 1) := by decide +kernel
theorem dL_law_515 : decode cL_law 515 = .ok (.invokevirtual 112, 3) := by decide +kernel
theorem dL_law_518 : decode cL_law 518 = .ok (.istore 6, 2) := by decide +kernel
theorem dL_law_520 : decode cL_law 520 = .ok (.aload_n 2, 1) := by decide +kernel
theorem dL_law_521 : decode cL_law 521 = .ok (.invokevirtual 90, 3) := by decide +kernel
theorem dL_law_524 : decode cL_law 524 = .ok (.iload 5, 2) := by decide +kernel
theorem dL_law_526 : decode cL_law 526 = .ok (.if_icmp .eq 5, 3) := by decide +kernel
theorem dL_law_529 : decode cL_law 529 = .ok (.iconst 0, 1) := by decide +kernel
theorem dL_law_530 : decode cL_law 530 = .ok (.ireturn, 1) := by decide +kernel
theorem dL_law_531 : decode cL_law 531 = .ok (.iload 5, 2) := by decide +kernel
theorem dL_law_533 : decode cL_law 533 = .ok (.ifCond .ne 15, 3) := by decide +kernel
theorem dL_law_536 : decode cL_law 536 = .ok (.aload_n 3, 1) := by decide +kernel
theorem dL_law_537 : decode cL_law 537 = .ok (.iconst 0, 1) := by decide +kernel
theorem dL_law_538 : decode cL_law 538 = .ok (.laload, 1) := by decide +kernel
theorem dL_law_539 : decode cL_law 539 = .ok (.iload 6, 2) := by decide +kernel
theorem dL_law_541 : decode cL_law 541 = .ok (.i2l, 1) := by decide +kernel
theorem dL_law_542 : decode cL_law 542 = .ok (.lcmp, 1) := by decide +kernel
theorem dL_law_543 : decode cL_law 543 = .ok (.ifCond .eq 5, 3) := by decide +kernel
theorem dL_law_546 : decode cL_law 546 = .ok (.iconst 0, 1) := by decide +kernel
theorem dL_law_547 : decode cL_law 547 = .ok (.ireturn, 1) := by decide +kernel
theorem dL_law_548 : decode cL_law 548 = .ok (.goto 957, 3) := by decide +kernel
theorem dL_law_551 : decode cL_law 551 = .ok (.aload_n 1, 1) := by decide +kernel
theorem dL_law_552 : decode cL_law 552 = .ok (.aload_n 0, 1) := by decide +kernel
theorem dL_law_553 : decode cL_law 553 = .ok (.iload 4, 2) := by decide +kernel
theorem dL_law_555 : decode cL_law 555 = .ok (.iconst 1, 1) := by decide +kernel
theorem dL_law_556 : decode cL_law 556 = .ok (.iadd, 1) := by decide +kernel
theorem dL_law_557 : decode cL_law 557 = .ok (.iaload, 1) := by decide +kernel
theorem dL_law_558 : decode cL_law 558 = .ok (.aload_n 3, 1) := by decide +kernel
theorem dL_law_559 : decode cL_law 559 = .ok (.invokestatic 113, 3) := by decide +kernel
theorem dL_law_562 : decode cL_law 562 = .ok (.istore 5, 2) := by decide +kernel
theorem dL_law_564 : decode cL_law 564 = .ok (.aload_n 2, 1) := by decide +kernel
theorem dL_law_565 : decode cL_law 565 = .ok (.aload_n 0, 1) := by decide +kernel
theorem dL_law_566 : decode cL_law 566 = .ok (.iload 4, 2) := by decide +kernel
theorem dL_law_568 : decode cL_law 568 = .ok (.iconst 1, 1) := by decide +kernel
theorem dL_law_569 : decode cL_law 569 = .ok (.iadd, 1) := by decide +kernel
theorem dL_law_570 : decode cL_law 570 = .ok (.iaload, 1) := by decide +kernel
theorem dL_law_571 : decode cL_law 571 = .ok (.invokevirtual 116, 3) := by decide +kernel
theorem dL_law_574 : decode cL_law 574 = .ok (.istore 6, 2) := by decide +kernel
theorem dL_law_576 : decode cL_law 576 = .ok (.aload_n 2, 1) := by decide +kernel
theorem dL_law_577 : decode cL_law 577 = .ok (.invokevirtual 90, 3) := by decide +kernel
theorem dL_law_580 : decode cL_law 580 = .ok (.iload 5, 2) := by decide +kernel
theorem dL_law_582 : decode cL_law 582 = .ok (.if_icmp .eq 5, 3) := by decide +kernel
theorem dL_law_585 : decode cL_law 585 = .ok (.iconst 0, 1) := by decide +kernel
theorem dL_law_586 : decode cL_law 586 = .ok (.ireturn, 1) := by decide +kernel
theorem dL_law_587 : decode cL_law 587 = .ok (.iload 5, 2) := by decide +kernel
theorem dL_law_589 : decode cL_law 589 = .ok (.ifCond .ne 15, 3) := by decide +kernel
theorem dL_law_592 : decode cL_law 592 = .ok (.aload_n 3, 1) := by decide +kernel
theorem dL_law_593 : decode cL_law 593 = .ok (.iconst 0, 1) := by decide +kernel
theorem dL_law_594 : decode cL_law 594 = .ok (.laload, 1) := by decide +kernel
theorem dL_law_595 : decode cL_law 595 = .ok (.iload 6, 2) := by decide +kernel
theorem dL_law_597 : decode cL_law 597 = .ok (.i2l, 1) := by decide +kernel
theorem dL_law_598 : decode cL_law 598 = .ok (.lcmp, 1) := by decide +kernel
theorem dL_law_599 : decode cL_law 599 = .ok (.ifCond .eq 5, 3) := by decide +kernel
theorem dL_law_602 : decode cL_law 602 = .ok (.iconst 0, 1) := by decide +kernel
theorem dL_law_603 : decode cL_law 603 = .ok (.ireturn, 1) := by decide +kernel
theorem dL_law_604 : decode cL_law 604 = .ok (.goto 901, 3) := by decide +kernel
theorem dL_law_607 : decode cL_law 607 = .ok (.aload_n 1, 1) := by decide +kernel
theorem dL_law_608 : decode cL_law 608 = .ok (.invokevirtual 117, 3) := by decide +kernel
theorem dL_law_611 : decode cL_law 611 = .ok (.aload_n 2, 1) := by decide +kernel
theorem dL_law_612 : decode cL_law 612 = .ok (.invokevirtual 120, 3) := by decide +kernel
theorem dL_law_615 : decode cL_law 615 = .ok (.if_icmp .eq 890, 3) := by decide +kernel
theorem dL_law_618 : decode cL_law 618 = .ok (.iconst 0, 1) := by decide +kernel
theorem dL_law_619 : decode cL_law 619 = .ok (.ireturn, 1) := by decide +kernel
theorem dL_law_620 : decode cL_law 620 = .ok (.aload_n 1, 1) := by decide +kernel
theorem dL_law_621 : decode cL_law 621 = .ok (.invokevirtual 121, 3) := by decide +kernel
theorem dL_law_624 : decode cL_law 624 = .ok (.aload_n 2, 1) := by decide +kernel
theorem dL_law_625 : decode cL_law 625 = .ok (.invokevirtual 124, 3) := by decide +kernel
theorem dL_law_628 : decode cL_law 628 = .ok (.if_icmp .eq 877, 3) := by decide +kernel
theorem dL_law_631 : decode cL_law 631 = .ok (.iconst 0, 1) := by decide +kernel
theorem dL_law_632 : decode cL_law 632 = .ok (.ireturn, 1) := by decide +kernel
theorem dL_law_633 : decode cL_law 633 = .ok (.aload_n 1, 1) := by decide +kernel
theorem dL_law_634 : decode cL_law 634 = .ok (.invokevirtual 125, 3) := by decide +kernel
theorem dL_law_637 : decode cL_law 637 = .ok (.aload_n 2, 1) := by decide +kernel
theorem dL_law_638 : decode cL_law 638 = .ok (.invokevirtual 128, 3) := by decide +kernel
theorem dL_law_641 : decode cL_law 641 = .ok (.if_icmp .eq 864, 3) := by decide +kernel
theorem dL_law_644 : decode cL_law 644 = .ok (.iconst 0, 1) := by decide +kernel
theorem dL_law_645 : decode cL_law 645 = .ok (.ireturn, 1) := by decide +kernel
theorem dL_law_646 : decode cL_law 646 = .ok (.aload_n 1, 1) := by decide +kernel
theorem dL_law_647 : decode cL_law 647 = .ok (.aload_n 0, 1) := by decide +kernel
theorem dL_law_648 : decode cL_law 648 = .ok (.iload 4, 2) := by decide +kernel
theorem dL_law_650 : decode cL_law 650 = .ok (.iconst 1, 1) := by decide +kernel
theorem dL_law_651 : decode cL_law 651 = .ok (.iadd, 1) := by decide +kernel
theorem dL_law_652 : decode cL_law 652 = .ok (.iaload, 1) := by decide +kernel
theorem dL_law_653 : decode cL_law 653 = .ok (.aload_n 3, 1) := by decide +kernel
theorem dL_law_654 : decode cL_law 654 = .ok (.invokestatic 129, 3) := by decide +kernel
theorem dL_law_657 : decode cL_law 657 = .ok (.istore 5, 2) := by decide +kernel
theorem dL_law_659 : decode cL_law 659 = .ok (.aload_n 2, 1) := by decide +kernel
theorem dL_law_660 : decode cL_law 660 = .ok (.aload_n 0, 1) := by decide +kernel
theorem dL_law_661 : decode cL_law 661 = .ok (.iload 4, 2) := by decide +kernel
theorem dL_law_663 : decode cL_law 663 = .ok (.iconst 1, 1) := by decide +kernel
theorem dL_law_664 : decode cL_law 664 = .ok (.iadd, 1) := by decide +kernel
theorem dL_law_665 : decode cL_law 665 = .ok (.iaload, 1) := by decide +kernel
theorem dL_law_666 : decode cL_law 666 = .ok (.invokevirtual 131, 3) := by decide +kernel
theorem dL_law_669 : decode cL_law 669 = .ok (.istore 6, 2) := by decide +kernel
theorem dL_law_671 : decode cL_law 671 = .ok (.aload_n 2, 1) := by decide +kernel
theorem dL_law_672 : decode cL_law 672 = .ok (.invokevirtual 90, 3) := by decide +kernel
theorem dL_law_675 : decode cL_law 675 = .ok (.iload 5, 2) := by decide +kernel
theorem dL_law_677 : decode cL_law 677 = .ok (.if_icmp .eq 5, 3) := by decide +kernel
theorem dL_law_680 : decode cL_law 680 = .ok (.iconst 0, 1) := by decide +kernel
theorem dL_law_681 : decode cL_law 681 = .ok (.ireturn, 1) := by decide +kernel
theorem dL_law_682 : decode cL_law 682 = .ok (.iload 5, 2) := by decide +kernel
theorem dL_law_684 : decode cL_law 684 = .ok (.ifCond .ne 15, 3) := by decide +kernel
theorem dL_law_687 : decode cL_law 687 = .ok (.aload_n 3, 1) := by decide +kernel
theorem dL_law_688 : decode cL_law 688 = .ok (.iconst 0, 1) := by decide +kernel
theorem dL_law_689 : decode cL_law 689 = .ok (.laload, 1) := by decide +kernel
theorem dL_law_690 : decode cL_law 690 = .ok (.iload 6, 2) := by decide +kernel
theorem dL_law_692 : decode cL_law 692 = .ok (.i2l, 1) := by decide +kernel
theorem dL_law_693 : decode cL_law 693 = .ok (.lcmp, 1) := by decide +kernel
theorem dL_law_694 : decode cL_law 694 = .ok (.ifCond .eq 5, 3) := by decide +kernel
theorem dL_law_697 : decode cL_law 697 = .ok (.iconst 0, 1) := by decide +kernel
theorem dL_law_698 : decode cL_law 698 = .ok (.ireturn, 1) := by decide +kernel
theorem dL_law_699 : decode cL_law 699 = .ok (.goto 806, 3) := by decide +kernel
theorem dL_law_702 : decode cL_law 702 = .ok (.aload_n 1, 1) := by decide +kernel
theorem dL_law_703 : decode cL_law 703 = .ok (.aload_n 0, 1) := by decide +kernel
theorem dL_law_704 : decode cL_law 704 = .ok (.iload 4, 2) := by decide +kernel
theorem dL_law_706 : decode cL_law 706 = .ok (.iconst 1, 1) := by decide +kernel
theorem dL_law_707 : decode cL_law 707 = .ok (.iadd, 1) := by decide +kernel
theorem dL_law_708 : decode cL_law 708 = .ok (.iaload, 1) := by decide +kernel
theorem dL_law_709 : decode cL_law 709 = .ok (.aload_n 3, 1) := by decide +kernel
theorem dL_law_710 : decode cL_law 710 = .ok (.invokestatic 132, 3) := by decide +kernel
theorem dL_law_713 : decode cL_law 713 = .ok (.istore 5, 2) := by decide +kernel
theorem dL_law_715 : decode cL_law 715 = .ok (.aload_n 2, 1) := by decide +kernel
theorem dL_law_716 : decode cL_law 716 = .ok (.aload_n 0, 1) := by decide +kernel
theorem dL_law_717 : decode cL_law 717 = .ok (.iload 4, 2) := by decide +kernel
theorem dL_law_719 : decode cL_law 719 = .ok (.iconst 1, 1) := by decide +kernel
theorem dL_law_720 : decode cL_law 720 = .ok (.iadd, 1) := by decide +kernel
theorem dL_law_721 : decode cL_law 721 = .ok (.iaload, 1) := by decide +kernel
theorem dL_law_722 : decode cL_law 722 = .ok (.invokevirtual 134, 3) := by decide +kernel
theorem dL_law_725 : decode cL_law 725 = .ok (.istore 6, 2) := by decide +kernel
theorem dL_law_727 : decode cL_law 727 = .ok (.aload_n 2, 1) := by decide +kernel
theorem dL_law_728 : decode cL_law 728 = .ok (.invokevirtual 90, 3) := by decide +kernel
theorem dL_law_731 : decode cL_law 731 = .ok (.iload 5, 2) := by decide +kernel
theorem dL_law_733 : decode cL_law 733 = .ok (.if_icmp .eq 5, 3) := by decide +kernel
theorem dL_law_736 : decode cL_law 736 = .ok (.iconst 0, 1) := by decide +kernel
theorem dL_law_737 : decode cL_law 737 = .ok (.ireturn, 1) := by decide +kernel
theorem dL_law_738 : decode cL_law 738 = .ok (.iload 5, 2) := by decide +kernel
theorem dL_law_740 : decode cL_law 740 = .ok (.ifCond .ne 15, 3) := by decide +kernel
theorem dL_law_743 : decode cL_law 743 = .ok (.aload_n 3, 1) := by decide +kernel
theorem dL_law_744 : decode cL_law 744 = .ok (.iconst 0, 1) := by decide +kernel
theorem dL_law_745 : decode cL_law 745 = .ok (.laload, 1) := by decide +kernel
theorem dL_law_746 : decode cL_law 746 = .ok (.iload 6, 2) := by decide +kernel
theorem dL_law_748 : decode cL_law 748 = .ok (.i2l, 1) := by decide +kernel
theorem dL_law_749 : decode cL_law 749 = .ok (.lcmp, 1) := by decide +kernel
theorem dL_law_750 : decode cL_law 750 = .ok (.ifCond .eq 5, 3) := by decide +kernel
theorem dL_law_753 : decode cL_law 753 = .ok (.iconst 0, 1) := by decide +kernel
theorem dL_law_754 : decode cL_law 754 = .ok (.ireturn, 1) := by decide +kernel
theorem dL_law_755 : decode cL_law 755 = .ok (.goto 750, 3) := by decide +kernel
theorem dL_law_758 : decode cL_law 758 = .ok (.aload_n 1, 1) := by decide +kernel
theorem dL_law_759 : decode cL_law 759 = .ok (.aload_n 0, 1) := by decide +kernel
theorem dL_law_760 : decode cL_law 760 = .ok (.iload 4, 2) := by decide +kernel
theorem dL_law_762 : decode cL_law 762 = .ok (.iconst 1, 1) := by decide +kernel
theorem dL_law_763 : decode cL_law 763 = .ok (.iadd, 1) := by decide +kernel
theorem dL_law_764 : decode cL_law 764 = .ok (.iaload, 1) := by decide +kernel
theorem dL_law_765 : decode cL_law 765 = .ok (.aload_n 3, 1) := by decide +kernel
theorem dL_law_766 : decode cL_law 766 = .ok (.invokestatic 135, 3) := by decide +kernel
theorem dL_law_769 : decode cL_law 769 = .ok (.istore 5, 2) := by decide +kernel
theorem dL_law_771 : decode cL_law 771 = .ok (.aload_n 2, 1) := by decide +kernel
theorem dL_law_772 : decode cL_law 772 = .ok (.aload_n 0, 1) := by decide +kernel
theorem dL_law_773 : decode cL_law 773 = .ok (.iload 4, 2) := by decide +kernel
theorem dL_law_775 : decode cL_law 775 = .ok (.iconst 1, 1) := by decide +kernel
theorem dL_law_776 : decode cL_law 776 = .ok (.iadd, 1) := by decide +kernel
theorem dL_law_777 : decode cL_law 777 = .ok (.iaload, 1) := by decide +kernel
theorem dL_law_778 : decode cL_law 778 = .ok (.invokevirtual 137, 3) := by decide +kernel
theorem dL_law_781 : decode cL_law 781 = .ok (.istore 6, 2) := by decide +kernel
theorem dL_law_783 : decode cL_law 783 = .ok (.aload_n 2, 1) := by decide +kernel
theorem dL_law_784 : decode cL_law 784 = .ok (.invokevirtual 90, 3) := by decide +kernel
theorem dL_law_787 : decode cL_law 787 = .ok (.iload 5, 2) := by decide +kernel
theorem dL_law_789 : decode cL_law 789 = .ok (.if_icmp .eq 5, 3) := by decide +kernel
theorem dL_law_792 : decode cL_law 792 = .ok (.iconst 0, 1) := by decide +kernel
theorem dL_law_793 : decode cL_law 793 = .ok (.ireturn, 1) := by decide +kernel
theorem dL_law_794 : decode cL_law 794 = .ok (.iload 5, 2) := by decide +kernel
theorem dL_law_796 : decode cL_law 796 = .ok (.ifCond .ne 15, 3) := by decide +kernel
theorem dL_law_799 : decode cL_law 799 = .ok (.aload_n 3, 1) := by decide +kernel
theorem dL_law_800 : decode cL_law 800 = .ok (.iconst 0, 1) := by decide +kernel
theorem dL_law_801 : decode cL_law 801 = .ok (.laload, 1) := by decide +kernel
theorem dL_law_802 : decode cL_law 802 = .ok (.iload 6, 2) := by decide +kernel
theorem dL_law_804 : decode cL_law 804 = .ok (.i2l, 1) := by decide +kernel
theorem dL_law_805 : decode cL_law 805 = .ok (.lcmp, 1) := by decide +kernel
theorem dL_law_806 : decode cL_law 806 = .ok (.ifCond .eq 5, 3) := by decide +kernel
theorem dL_law_809 : decode cL_law 809 = .ok (.iconst 0, 1) := by decide +kernel
theorem dL_law_810 : decode cL_law 810 = .ok (.ireturn, 1) := by decide +kernel
theorem dL_law_811 : decode cL_law 811 = .ok (.goto 694, 3) := by decide +kernel
theorem dL_law_814 : decode cL_law 814 = .ok (.aload_n 1, 1) := by decide +kernel
theorem dL_law_815 : decode cL_law 815 = .ok (.aload_n 0, 1) := by decide +kernel
theorem dL_law_816 : decode cL_law 816 = .ok (.iload 4, 2) := by decide +kernel
theorem dL_law_818 : decode cL_law 818 = .ok (.iconst 1, 1) := by decide +kernel
theorem dL_law_819 : decode cL_law 819 = .ok (.iadd, 1) := by decide +kernel
theorem dL_law_820 : decode cL_law 820 = .ok (.iaload, 1) := by decide +kernel
theorem dL_law_821 : decode cL_law 821 = .ok (.aload_n 3, 1) := by decide +kernel
theorem dL_law_822 : decode cL_law 822 = .ok (.invokestatic 138, 3) := by decide +kernel
theorem dL_law_825 : decode cL_law 825 = .ok (.istore 5, 2) := by decide +kernel
theorem dL_law_827 : decode cL_law 827 = .ok (.aload_n 2, 1) := by decide +kernel
theorem dL_law_828 : decode cL_law 828 = .ok (.aload_n 0, 1) := by decide +kernel
theorem dL_law_829 : decode cL_law 829 = .ok (.iload 4, 2) := by decide +kernel
theorem dL_law_831 : decode cL_law 831 = .ok (.iconst 1, 1) := by decide +kernel
theorem dL_law_832 : decode cL_law 832 = .ok (.iadd, 1) := by decide +kernel
theorem dL_law_833 : decode cL_law 833 = .ok (.iaload, 1) := by decide +kernel
theorem dL_law_834 : decode cL_law 834 = .ok (.invokevirtual 140, 3) := by decide +kernel
theorem dL_law_837 : decode cL_law 837 = .ok (.istore 6, 2) := by decide +kernel
theorem dL_law_839 : decode cL_law 839 = .ok (.aload_n 2, 1) := by decide +kernel
theorem dL_law_840 : decode cL_law 840 = .ok (.invokevirtual 90, 3) := by decide +kernel
theorem dL_law_843 : decode cL_law 843 = .ok (.iload 5, 2) := by decide +kernel
theorem dL_law_845 : decode cL_law 845 = .ok (.if_icmp .eq 5, 3) := by decide +kernel
theorem dL_law_848 : decode cL_law 848 = .ok (.iconst 0, 1) := by decide +kernel
theorem dL_law_849 : decode cL_law 849 = .ok (.ireturn, 1) := by decide +kernel
theorem dL_law_850 : decode cL_law 850 = .ok (.iload 5, 2) := by decide +kernel
theorem dL_law_852 : decode cL_law 852 = .ok (.ifCond .ne 15, 3) := by decide +kernel
theorem dL_law_855 : decode cL_law 855 = .ok (.aload_n 3, 1) := by decide +kernel
theorem dL_law_856 : decode cL_law 856 = .ok (.iconst 0, 1) := by decide +kernel
theorem dL_law_857 : decode cL_law 857 = .ok (.laload, 1) := by decide +kernel
theorem dL_law_858 : decode cL_law 858 = .ok (.iload 6, 2) := by decide +kernel
theorem dL_law_860 : decode cL_law 860 = .ok (.i2l, 1) := by decide +kernel
theorem dL_law_861 : decode cL_law 861 = .ok (.lcmp, 1) := by decide +kernel
theorem dL_law_862 : decode cL_law 862 = .ok (.ifCond .eq 5, 3) := by decide +kernel
theorem dL_law_865 : decode cL_law 865 = .ok (.iconst 0, 1) := by decide +kernel
theorem dL_law_866 : decode cL_law 866 = .ok (.ireturn, 1) := by decide +kernel
theorem dL_law_867 : decode cL_law 867 = .ok (.goto 638, 3) := by decide +kernel
theorem dL_law_870 : decode cL_law 870 = .ok (.aload_n 1, 1) := by decide +kernel
theorem dL_law_871 : decode cL_law 871 = .ok (.invokevirtual 141, 3) := by decide +kernel
theorem dL_law_874 : decode cL_law 874 = .ok (.aload_n 2, 1) := by decide +kernel
theorem dL_law_875 : decode cL_law 875 = .ok (.invokevirtual 144, 3) := by decide +kernel
theorem dL_law_878 : decode cL_law 878 = .ok (.if_icmp .eq 627, 3) := by decide +kernel
theorem dL_law_881 : decode cL_law 881 = .ok (.iconst 0, 1) := by decide +kernel
theorem dL_law_882 : decode cL_law 882 = .ok (.ireturn, 1) := by decide +kernel
theorem dL_law_883 : decode cL_law 883 = .ok (.aload_n 1, 1) := by decide +kernel
theorem dL_law_884 : decode cL_law 884 = .ok (.aload_n 0, 1) := by decide +kernel
theorem dL_law_885 : decode cL_law 885 = .ok (.iload 4, 2) := by decide +kernel
theorem dL_law_887 : decode cL_law 887 = .ok (.iconst 1, 1) := by decide +kernel
theorem dL_law_888 : decode cL_law 888 = .ok (.iadd, 1) := by decide +kernel
theorem dL_law_889 : decode cL_law 889 = .ok (.iaload, 1) := by decide +kernel
theorem dL_law_890 : decode cL_law 890 = .ok (.aload_n 3, 1) := by decide +kernel
theorem dL_law_891 : decode cL_law 891 = .ok (.invokestatic 145, 3) := by decide +kernel
theorem dL_law_894 : decode cL_law 894 = .ok (.istore 5, 2) := by decide +kernel
theorem dL_law_896 : decode cL_law 896 = .ok (.aload_n 2, 1) := by decide +kernel
theorem dL_law_897 : decode cL_law 897 = .ok (.aload_n 0, 1) := by decide +kernel
theorem dL_law_898 : decode cL_law 898 = .ok (.iload 4, 2) := by decide +kernel
theorem dL_law_900 : decode cL_law 900 = .ok (.iconst 1, 1) := by decide +kernel
theorem dL_law_901 : decode cL_law 901 = .ok (.iadd, 1) := by decide +kernel
theorem dL_law_902 : decode cL_law 902 = .ok (.iaload, 1) := by decide +kernel
theorem dL_law_903 : decode cL_law 903 = .ok (.invokevirtual 147, 3) := by decide +kernel
theorem dL_law_906 : decode cL_law 906 = .ok (.istore 6, 2) := by decide +kernel
theorem dL_law_908 : decode cL_law 908 = .ok (.aload_n 2, 1) := by decide +kernel
theorem dL_law_909 : decode cL_law 909 = .ok (.invokevirtual 90, 3) := by decide +kernel
theorem dL_law_912 : decode cL_law 912 = .ok (.iload 5, 2) := by decide +kernel
theorem dL_law_914 : decode cL_law 914 = .ok (.if_icmp .eq 5, 3) := by decide +kernel
theorem dL_law_917 : decode cL_law 917 = .ok (.iconst 0, 1) := by decide +kernel
theorem dL_law_918 : decode cL_law 918 = .ok (.ireturn, 1) := by decide +kernel
theorem dL_law_919 : decode cL_law 919 = .ok (.iload 5, 2) := by decide +kernel
theorem dL_law_921 : decode cL_law 921 = .ok (.ifCond .ne 15, 3) := by decide +kernel
theorem dL_law_924 : decode cL_law 924 = .ok (.aload_n 3, 1) := by decide +kernel
theorem dL_law_925 : decode cL_law 925 = .ok (.iconst 0, 1) := by decide +kernel
theorem dL_law_926 : decode cL_law 926 = .ok (.laload, 1) := by decide +kernel
theorem dL_law_927 : decode cL_law 927 = .ok (.iload 6, 2) := by decide +kernel
theorem dL_law_929 : decode cL_law 929 = .ok (.i2l, 1) := by decide +kernel
theorem dL_law_930 : decode cL_law 930 = .ok (.lcmp, 1) := by decide +kernel
theorem dL_law_931 : decode cL_law 931 = .ok (.ifCond .eq 5, 3) := by decide +kernel
theorem dL_law_934 : decode cL_law 934 = .ok (.iconst 0, 1) := by decide +kernel
theorem dL_law_935 : decode cL_law 935 = .ok (.ireturn, 1) := by decide +kernel
theorem dL_law_936 : decode cL_law 936 = .ok (.goto 569, 3) := by decide +kernel
theorem dL_law_939 : decode cL_law 939 = .ok (.aload_n 1, 1) := by decide +kernel
theorem dL_law_940 : decode cL_law 940 = .ok (.aload_n 0, 1) := by decide +kernel
theorem dL_law_941 : decode cL_law 941 = .ok (.iload 4, 2) := by decide +kernel
theorem dL_law_943 : decode cL_law 943 = .ok (.iconst 1, 1) := by decide +kernel
theorem dL_law_944 : decode cL_law 944 = .ok (.iadd, 1) := by decide +kernel
theorem dL_law_945 : decode cL_law 945 = .ok (.iaload, 1) := by decide +kernel
theorem dL_law_946 : decode cL_law 946 = .ok (.aload_n 3, 1) := by decide +kernel
theorem dL_law_947 : decode cL_law 947 = .ok (.invokestatic 148, 3) := by decide +kernel
theorem dL_law_950 : decode cL_law 950 = .ok (.istore 5, 2) := by decide +kernel
theorem dL_law_952 : decode cL_law 952 = .ok (.aload_n 2, 1) := by decide +kernel
theorem dL_law_953 : decode cL_law 953 = .ok (.aload_n 0, 1) := by decide +kernel
theorem dL_law_954 : decode cL_law 954 = .ok (.iload 4, 2) := by decide +kernel
theorem dL_law_956 : decode cL_law 956 = .ok (.iconst 1, 1) := by decide +kernel
theorem dL_law_957 : decode cL_law 957 = .ok (.iadd, 1) := by decide +kernel
theorem dL_law_958 : decode cL_law 958 = .ok (.iaload, 1) := by decide +kernel
theorem dL_law_959 : decode cL_law 959 = .ok (.invokevirtual 150, 3) := by decide +kernel
theorem dL_law_962 : decode cL_law 962 = .ok (.istore 6, 2) := by decide +kernel
theorem dL_law_964 : decode cL_law 964 = .ok (.aload_n 2, 1) := by decide +kernel
theorem dL_law_965 : decode cL_law 965 = .ok (.invokevirtual 90, 3) := by decide +kernel
theorem dL_law_968 : decode cL_law 968 = .ok (.iload 5, 2) := by decide +kernel
theorem dL_law_970 : decode cL_law 970 = .ok (.if_icmp .eq 5, 3) := by decide +kernel
theorem dL_law_973 : decode cL_law 973 = .ok (.iconst 0, 1) := by decide +kernel
theorem dL_law_974 : decode cL_law 974 = .ok (.ireturn, 1) := by decide +kernel
theorem dL_law_975 : decode cL_law 975 = .ok (.iload 5, 2) := by decide +kernel
theorem dL_law_977 : decode cL_law 977 = .ok (.ifCond .ne 15, 3) := by decide +kernel
theorem dL_law_980 : decode cL_law 980 = .ok (.aload_n 3, 1) := by decide +kernel
theorem dL_law_981 : decode cL_law 981 = .ok (.iconst 0, 1) := by decide +kernel
theorem dL_law_982 : decode cL_law 982 = .ok (.laload, 1) := by decide +kernel
theorem dL_law_983 : decode cL_law 983 = .ok (.iload 6, 2) := by decide +kernel
theorem dL_law_985 : decode cL_law 985 = .ok (.i2l, 1) := by decide +kernel
theorem dL_law_986 : decode cL_law 986 = .ok (.lcmp, 1) := by decide +kernel
theorem dL_law_987 : decode cL_law 987 = .ok (.ifCond .eq 5, 3) := by decide +kernel
theorem dL_law_990 : decode cL_law 990 = .ok (.iconst 0, 1) := by decide +kernel
theorem dL_law_991 : decode cL_law 991 = .ok (.ireturn, 1) := by decide +kernel
theorem dL_law_992 : decode cL_law 992 = .ok (.goto 513, 3) := by decide +kernel
theorem dL_law_995 : decode cL_law 995 = .ok (.aload_n 1, 1) := by decide +kernel
theorem dL_law_996 : decode cL_law 996 = .ok (.aload_n 0, 1) := by decide +kernel
theorem dL_law_997 : decode cL_law 997 = .ok (.iload 4, 2) := by decide +kernel
theorem dL_law_999 : decode cL_law 999 = .ok (.iconst 1, 1) := by decide +kernel
theorem dL_law_1000 : decode cL_law 1000 = .ok (.iadd, 1) := by decide +kernel
theorem dL_law_1001 : decode cL_law 1001 = .ok (.iaload, 1) := by decide +kernel
theorem dL_law_1002 : decode cL_law 1002 = .ok (.aload_n 0, 1) := by decide +kernel
theorem dL_law_1003 : decode cL_law 1003 = .ok (.iload 4, 2) := by decide +kernel
theorem dL_law_1005 : decode cL_law 1005 = .ok (.iconst 2, 1) := by decide +kernel
theorem dL_law_1006 : decode cL_law 1006 = .ok (.iadd, 1) := by decide +kernel
theorem dL_law_1007 : decode cL_law 1007 = .ok (.iaload, 1) := by decide +kernel
theorem dL_law_1008 : decode cL_law 1008 = .ok (.aload_n 3, 1) := by decide +kernel
theorem dL_law_1009 : decode cL_law 1009 = .ok (.invokestatic 151, 3) := by decide +kernel
theorem dL_law_1012 : decode cL_law 1012 = .ok (.istore 5, 2) := by decide +kernel
theorem dL_law_1014 : decode cL_law 1014 = .ok (.aload_n 2, 1) := by decide +kernel
theorem dL_law_1015 : decode cL_law 1015 = .ok (.aload_n 0, 1) := by decide +kernel
theorem dL_law_1016 : decode cL_law 1016 = .ok (.iload 4, 2) := by decide +kernel
theorem dL_law_1018 : decode cL_law 1018 = .ok (.iconst 1, 1) := by decide +kernel
theorem dL_law_1019 : decode cL_law 1019 = .ok (.iadd, 1) := by decide +kernel
theorem dL_law_1020 : decode cL_law 1020 = .ok (.iaload, 1) := by decide +kernel
theorem dL_law_1021 : decode cL_law 1021 = .ok (.aload_n 0, 1) := by decide +kernel
theorem dL_law_1022 : decode cL_law 1022 = .ok (.iload 4, 2) := by decide +kernel
theorem dL_law_1024 : decode cL_law 1024 = .ok (.iconst 2, 1) := by decide +kernel
theorem dL_law_1025 : decode cL_law 1025 = .ok (.iadd, 1) := by decide +kernel
theorem dL_law_1026 : decode cL_law 1026 = .ok (.iaload, 1) := by decide +kernel
theorem dL_law_1027 : decode cL_law 1027 = .ok (.invokevirtual 153, 3) := by decide +kernel
theorem dL_law_1030 : decode cL_law 1030 = .ok (.istore 6, 2) := by decide +kernel
theorem dL_law_1032 : decode cL_law 1032 = .ok (.aload_n 2, 1) := by decide +kernel
theorem dL_law_1033 : decode cL_law 1033 = .ok (.invokevirtual 90, 3) := by decide +kernel
theorem dL_law_1036 : decode cL_law 1036 = .ok (.iload 5, 2) := by decide +kernel
theorem dL_law_1038 : decode cL_law 1038 = .ok (.if_icmp .eq 5, 3) := by decide +kernel
theorem dL_law_1041 : decode cL_law 1041 = .ok (.iconst 0, 1) := by decide +kernel
theorem dL_law_1042 : decode cL_law 1042 = .ok (.ireturn, 1) := by decide +kernel
theorem dL_law_1043 : decode cL_law 1043 = .ok (.iload 5, 2) := by decide +kernel
theorem dL_law_1045 : decode cL_law 1045 = .ok (.ifCond .ne 22, 3) := by decide +kernel
theorem dL_law_1048 : decode cL_law 1048 = .ok (.aload_n 3, 1) := by decide +kernel
theorem dL_law_1049 : decode cL_law 1049 = .ok (.iconst 0, 1) := by decide +kernel
theorem dL_law_1050 : decode cL_law 1050 = .ok (.laload, 1) := by decide +kernel
theorem dL_law_1051 : decode cL_law 1051 = .ok (.iload 6, 2) := by decide +kernel
theorem dL_law_1053 : decode cL_law 1053 = .ok (.ifCond .eq 7, 3) := by decide +kernel
theorem dL_law_1056 : decode cL_law 1056 = .ok (.lconst 1, 1) := by decide +kernel
theorem dL_law_1057 : decode cL_law 1057 = .ok (.goto 4, 3) := by decide +kernel
theorem dL_law_1060 : decode cL_law 1060 = .ok (.lconst 0, 1) := by decide +kernel
theorem dL_law_1061 : decode cL_law 1061 = .ok (.lcmp, 1) := by decide +kernel
theorem dL_law_1062 : decode cL_law 1062 = .ok (.ifCond .eq 5, 3) := by decide +kernel
theorem dL_law_1065 : decode cL_law 1065 = .ok (.iconst 0, 1) := by decide +kernel
theorem dL_law_1066 : decode cL_law 1066 = .ok (.ireturn, 1) := by decide +kernel
theorem dL_law_1067 : decode cL_law 1067 = .ok (.goto 438, 3) := by decide +kernel
theorem dL_law_1070 : decode cL_law 1070 = .ok (.aload_n 1, 1) := by decide +kernel
theorem dL_law_1071 : decode cL_law 1071 = .ok (.aload_n 0, 1) := by decide +kernel
theorem dL_law_1072 : decode cL_law 1072 = .ok (.iload 4, 2) := by decide +kernel
theorem dL_law_1074 : decode cL_law 1074 = .ok (.iconst 1, 1) := by decide +kernel
theorem dL_law_1075 : decode cL_law 1075 = .ok (.iadd, 1) := by decide +kernel
theorem dL_law_1076 : decode cL_law 1076 = .ok (.iaload, 1) := by decide +kernel
theorem dL_law_1077 : decode cL_law 1077 = .ok (.aload_n 3, 1) := by decide +kernel
theorem dL_law_1078 : decode cL_law 1078 = .ok (.invokestatic 154, 3) := by decide +kernel
theorem dL_law_1081 : decode cL_law 1081 = .ok (.istore 5, 2) := by decide +kernel
theorem dL_law_1083 : decode cL_law 1083 = .ok (.aload_n 2, 1) := by decide +kernel
theorem dL_law_1084 : decode cL_law 1084 = .ok (.aload_n 0, 1) := by decide +kernel
theorem dL_law_1085 : decode cL_law 1085 = .ok (.iload 4, 2) := by decide +kernel
theorem dL_law_1087 : decode cL_law 1087 = .ok (.iconst 1, 1) := by decide +kernel
theorem dL_law_1088 : decode cL_law 1088 = .ok (.iadd, 1) := by decide +kernel
theorem dL_law_1089 : decode cL_law 1089 = .ok (.iaload, 1) := by decide +kernel
theorem dL_law_1090 : decode cL_law 1090 = .ok (.invokevirtual 156, 3) := by decide +kernel
theorem dL_law_1093 : decode cL_law 1093 = .ok (.istore 6, 2) := by decide +kernel
theorem dL_law_1095 : decode cL_law 1095 = .ok (.aload_n 2, 1) := by decide +kernel
theorem dL_law_1096 : decode cL_law 1096 = .ok (.invokevirtual 90, 3) := by decide +kernel
theorem dL_law_1099 : decode cL_law 1099 = .ok (.iload 5, 2) := by decide +kernel
theorem dL_law_1101 : decode cL_law 1101 = .ok (.if_icmp .eq 5, 3) := by decide +kernel
theorem dL_law_1104 : decode cL_law 1104 = .ok (.iconst 0, 1) := by decide +kernel
theorem dL_law_1105 : decode cL_law 1105 = .ok (.ireturn, 1) := by decide +kernel
theorem dL_law_1106 : decode cL_law 1106 = .ok (.iload 5, 2) := by decide +kernel
theorem dL_law_1108 : decode cL_law 1108 = .ok (.ifCond .ne 15, 3) := by decide +kernel
theorem dL_law_1111 : decode cL_law 1111 = .ok (.aload_n 3, 1) := by decide +kernel
theorem dL_law_1112 : decode cL_law 1112 = .ok (.iconst 0, 1) := by decide +kernel
theorem dL_law_1113 : decode cL_law 1113 = .ok (.laload, 1) := by decide +kernel
theorem dL_law_1114 : decode cL_law 1114 = .ok (.iload 6, 2) := by decide +kernel
theorem dL_law_1116 : decode cL_law 1116 = .ok (.i2l, 1) := by decide +kernel
theorem dL_law_1117 : decode cL_law 1117 = .ok (.lcmp, 1) := by decide +kernel
theorem dL_law_1118 : decode cL_law 1118 = .ok (.ifCond .eq 5, 3) := by decide +kernel
theorem dL_law_1121 : decode cL_law 1121 = .ok (.iconst 0, 1) := by decide +kernel
theorem dL_law_1122 : decode cL_law 1122 = .ok (.ireturn, 1) := by decide +kernel
theorem dL_law_1123 : decode cL_law 1123 = .ok (.goto 382, 3) := by decide +kernel
theorem dL_law_1126 : decode cL_law 1126 = .ok (.aload_n 1, 1) := by decide +kernel
theorem dL_law_1127 : decode cL_law 1127 = .ok (.aload_n 0, 1) := by decide +kernel
theorem dL_law_1128 : decode cL_law 1128 = .ok (.iload 4, 2) := by decide +kernel
theorem dL_law_1130 : decode cL_law 1130 = .ok (.iconst 1, 1) := by decide +kernel
theorem dL_law_1131 : decode cL_law 1131 = .ok (.iadd, 1) := by decide +kernel
theorem dL_law_1132 : decode cL_law 1132 = .ok (.iaload, 1) := by decide +kernel
theorem dL_law_1133 : decode cL_law 1133 = .ok (.aload_n 3, 1) := by decide +kernel
theorem dL_law_1134 : decode cL_law 1134 = .ok (.invokestatic 157, 3) := by decide +kernel
theorem dL_law_1137 : decode cL_law 1137 = .ok (.istore 5, 2) := by decide +kernel
theorem dL_law_1139 : decode cL_law 1139 = .ok (.aload_n 2, 1) := by decide +kernel
theorem dL_law_1140 : decode cL_law 1140 = .ok (.aload_n 0, 1) := by decide +kernel
theorem dL_law_1141 : decode cL_law 1141 = .ok (.iload 4, 2) := by decide +kernel
theorem dL_law_1143 : decode cL_law 1143 = .ok (.iconst 1, 1) := by decide +kernel
theorem dL_law_1144 : decode cL_law 1144 = .ok (.iadd, 1) := by decide +kernel
theorem dL_law_1145 : decode cL_law 1145 = .ok (.iaload, 1) := by decide +kernel
theorem dL_law_1146 : decode cL_law 1146 = .ok (.invokevirtual 159, 3) := by decide +kernel
theorem dL_law_1149 : decode cL_law 1149 = .ok (.istore 6, 2) := by decide +kernel
theorem dL_law_1151 : decode cL_law 1151 = .ok (.aload_n 2, 1) := by decide +kernel
theorem dL_law_1152 : decode cL_law 1152 = .ok (.invokevirtual 90, 3) := by decide +kernel
theorem dL_law_1155 : decode cL_law 1155 = .ok (.iload 5, 2) := by decide +kernel
theorem dL_law_1157 : decode cL_law 1157 = .ok (.if_icmp .eq 5, 3) := by decide +kernel
theorem dL_law_1160 : decode cL_law 1160 = .ok (.iconst 0, 1) := by decide +kernel
theorem dL_law_1161 : decode cL_law 1161 = .ok (.ireturn, 1) := by decide +kernel
theorem dL_law_1162 : decode cL_law 1162 = .ok (.iload 5, 2) := by decide +kernel
theorem dL_law_1164 : decode cL_law 1164 = .ok (.ifCond .ne 15, 3) := by decide +kernel
theorem dL_law_1167 : decode cL_law 1167 = .ok (.aload_n 3, 1) := by decide +kernel
theorem dL_law_1168 : decode cL_law 1168 = .ok (.iconst 0, 1) := by decide +kernel
theorem dL_law_1169 : decode cL_law 1169 = .ok (.laload, 1) := by decide +kernel
theorem dL_law_1170 : decode cL_law 1170 = .ok (.iload 6, 2) := by decide +kernel
theorem dL_law_1172 : decode cL_law 1172 = .ok (.i2l, 1) := by decide +kernel
theorem dL_law_1173 : decode cL_law 1173 = .ok (.lcmp, 1) := by decide +kernel
theorem dL_law_1174 : decode cL_law 1174 = .ok (.ifCond .eq 5, 3) := by decide +kernel
theorem dL_law_1177 : decode cL_law 1177 = .ok (.iconst 0, 1) := by decide +kernel
theorem dL_law_1178 : decode cL_law 1178 = .ok (.ireturn, 1) := by decide +kernel
theorem dL_law_1179 : decode cL_law 1179 = .ok (.goto 326, 3) := by decide +kernel
theorem dL_law_1182 : decode cL_law 1182 = .ok (.aload_n 1, 1) := by decide +kernel
theorem dL_law_1183 : decode cL_law 1183 = .ok (.aload_n 0, 1) := by decide +kernel
theorem dL_law_1184 : decode cL_law 1184 = .ok (.iload 4, 2) := by decide +kernel
theorem dL_law_1186 : decode cL_law 1186 = .ok (.iconst 1, 1) := by decide +kernel
theorem dL_law_1187 : decode cL_law 1187 = .ok (.iadd, 1) := by decide +kernel
theorem dL_law_1188 : decode cL_law 1188 = .ok (.iaload, 1) := by decide +kernel
theorem dL_law_1189 : decode cL_law 1189 = .ok (.aload_n 0, 1) := by decide +kernel
theorem dL_law_1190 : decode cL_law 1190 = .ok (.iload 4, 2) := by decide +kernel
theorem dL_law_1192 : decode cL_law 1192 = .ok (.iconst 2, 1) := by decide +kernel
theorem dL_law_1193 : decode cL_law 1193 = .ok (.iadd, 1) := by decide +kernel
theorem dL_law_1194 : decode cL_law 1194 = .ok (.iaload, 1) := by decide +kernel
theorem dL_law_1195 : decode cL_law 1195 = .ok (.aload_n 3, 1) := by decide +kernel
theorem dL_law_1196 : decode cL_law 1196 = .ok (.invokestatic 160, 3) := by decide +kernel
theorem dL_law_1199 : decode cL_law 1199 = .ok (.istore 5, 2) := by decide +kernel
theorem dL_law_1201 : decode cL_law 1201 = .ok (.aload_n 2, 1) := by decide +kernel
theorem dL_law_1202 : decode cL_law 1202 = .ok (.aload_n 0, 1) := by decide +kernel
theorem dL_law_1203 : decode cL_law 1203 = .ok (.iload 4, 2) := by decide +kernel
theorem dL_law_1205 : decode cL_law 1205 = .ok (.iconst 1, 1) := by decide +kernel
theorem dL_law_1206 : decode cL_law 1206 = .ok (.iadd, 1) := by decide +kernel
theorem dL_law_1207 : decode cL_law 1207 = .ok (.iaload, 1) := by decide +kernel
theorem dL_law_1208 : decode cL_law 1208 = .ok (.aload_n 0, 1) := by decide +kernel
theorem dL_law_1209 : decode cL_law 1209 = .ok (.iload 4, 2) := by decide +kernel
theorem dL_law_1211 : decode cL_law 1211 = .ok (.iconst 2, 1) := by decide +kernel
theorem dL_law_1212 : decode cL_law 1212 = .ok (.iadd, 1) := by decide +kernel
theorem dL_law_1213 : decode cL_law 1213 = .ok (.iaload, 1) := by decide +kernel
theorem dL_law_1214 : decode cL_law 1214 = .ok (.invokevirtual 162, 3) := by decide +kernel
theorem dL_law_1217 : decode cL_law 1217 = .ok (.istore 6, 2) := by decide +kernel
theorem dL_law_1219 : decode cL_law 1219 = .ok (.aload_n 2, 1) := by decide +kernel
theorem dL_law_1220 : decode cL_law 1220 = .ok (.invokevirtual 90, 3) := by decide +kernel
theorem dL_law_1223 : decode cL_law 1223 = .ok (.iload 5, 2) := by decide +kernel
theorem dL_law_1225 : decode cL_law 1225 = .ok (.if_icmp .eq 5, 3) := by decide +kernel
theorem dL_law_1228 : decode cL_law 1228 = .ok (.iconst 0, 1) := by decide +kernel
theorem dL_law_1229 : decode cL_law 1229 = .ok (.ireturn, 1) := by decide +kernel
theorem dL_law_1230 : decode cL_law 1230 = .ok (.iload 5, 2) := by decide +kernel
theorem dL_law_1232 : decode cL_law 1232 = .ok (.ifCond .ne 22, 3) := by decide +kernel
theorem dL_law_1235 : decode cL_law 1235 = .ok (.aload_n 3, 1) := by decide +kernel
theorem dL_law_1236 : decode cL_law 1236 = .ok (.iconst 0, 1) := by decide +kernel
theorem dL_law_1237 : decode cL_law 1237 = .ok (.laload, 1) := by decide +kernel
theorem dL_law_1238 : decode cL_law 1238 = .ok (.iload 6, 2) := by decide +kernel
theorem dL_law_1240 : decode cL_law 1240 = .ok (.ifCond .eq 7, 3) := by decide +kernel
theorem dL_law_1243 : decode cL_law 1243 = .ok (.lconst 1, 1) := by decide +kernel
theorem dL_law_1244 : decode cL_law 1244 = .ok (.goto 4, 3) := by decide +kernel
theorem dL_law_1247 : decode cL_law 1247 = .ok (.lconst 0, 1) := by decide +kernel
theorem dL_law_1248 : decode cL_law 1248 = .ok (.lcmp, 1) := by decide +kernel
theorem dL_law_1249 : decode cL_law 1249 = .ok (.ifCond .eq 5, 3) := by decide +kernel
theorem dL_law_1252 : decode cL_law 1252 = .ok (.iconst 0, 1) := by decide +kernel
theorem dL_law_1253 : decode cL_law 1253 = .ok (.ireturn, 1) := by decide +kernel
theorem dL_law_1254 : decode cL_law 1254 = .ok (.goto 251, 3) := by decide +kernel
theorem dL_law_1257 : decode cL_law 1257 = .ok (.aload_n 1, 1) := by decide +kernel
theorem dL_law_1258 : decode cL_law 1258 = .ok (.aload_n 0, 1) := by decide +kernel
theorem dL_law_1259 : decode cL_law 1259 = .ok (.iload 4, 2) := by decide +kernel
theorem dL_law_1261 : decode cL_law 1261 = .ok (.iconst 1, 1) := by decide +kernel
theorem dL_law_1262 : decode cL_law 1262 = .ok (.iadd, 1) := by decide +kernel
theorem dL_law_1263 : decode cL_law 1263 = .ok (.iaload, 1) := by decide +kernel
theorem dL_law_1264 : decode cL_law 1264 = .ok (.aload_n 0, 1) := by decide +kernel
theorem dL_law_1265 : decode cL_law 1265 = .ok (.iload 4, 2) := by decide +kernel
theorem dL_law_1267 : decode cL_law 1267 = .ok (.iconst 2, 1) := by decide +kernel
theorem dL_law_1268 : decode cL_law 1268 = .ok (.iadd, 1) := by decide +kernel
theorem dL_law_1269 : decode cL_law 1269 = .ok (.iaload, 1) := by decide +kernel
theorem dL_law_1270 : decode cL_law 1270 = .ok (.aload_n 3, 1) := by decide +kernel
theorem dL_law_1271 : decode cL_law 1271 = .ok (.invokestatic 163, 3) := by decide +kernel
theorem dL_law_1274 : decode cL_law 1274 = .ok (.istore 5, 2) := by decide +kernel
theorem dL_law_1276 : decode cL_law 1276 = .ok (.aload_n 2, 1) := by decide +kernel
theorem dL_law_1277 : decode cL_law 1277 = .ok (.aload_n 0, 1) := by decide +kernel
theorem dL_law_1278 : decode cL_law 1278 = .ok (.iload 4, 2) := by decide +kernel
theorem dL_law_1280 : decode cL_law 1280 = .ok (.iconst 1, 1) := by decide +kernel
theorem dL_law_1281 : decode cL_law 1281 = .ok (.iadd, 1) := by decide +kernel
theorem dL_law_1282 : decode cL_law 1282 = .ok (.iaload, 1) := by decide +kernel
theorem dL_law_1283 : decode cL_law 1283 = .ok (.aload_n 0, 1) := by decide +kernel
theorem dL_law_1284 : decode cL_law 1284 = .ok (.iload 4, 2) := by decide +kernel
theorem dL_law_1286 : decode cL_law 1286 = .ok (.iconst 2, 1) := by decide +kernel
theorem dL_law_1287 : decode cL_law 1287 = .ok (.iadd, 1) := by decide +kernel
theorem dL_law_1288 : decode cL_law 1288 = .ok (.iaload, 1) := by decide +kernel
theorem dL_law_1289 : decode cL_law 1289 = .ok (.invokevirtual 165, 3) := by decide +kernel
theorem dL_law_1292 : decode cL_law 1292 = .ok (.istore 6, 2) := by decide +kernel
theorem dL_law_1294 : decode cL_law 1294 = .ok (.aload_n 2, 1) := by decide +kernel
theorem dL_law_1295 : decode cL_law 1295 = .ok (.invokevirtual 90, 3) := by decide +kernel
theorem dL_law_1298 : decode cL_law 1298 = .ok (.iload 5, 2) := by decide +kernel
theorem dL_law_1300 : decode cL_law 1300 = .ok (.if_icmp .eq 5, 3) := by decide +kernel
theorem dL_law_1303 : decode cL_law 1303 = .ok (.iconst 0, 1) := by decide +kernel
theorem dL_law_1304 : decode cL_law 1304 = .ok (.ireturn, 1) := by decide +kernel
theorem dL_law_1305 : decode cL_law 1305 = .ok (.iload 5, 2) := by decide +kernel
theorem dL_law_1307 : decode cL_law 1307 = .ok (.ifCond .ne 15, 3) := by decide +kernel
theorem dL_law_1310 : decode cL_law 1310 = .ok (.aload_n 3, 1) := by decide +kernel
theorem dL_law_1311 : decode cL_law 1311 = .ok (.iconst 0, 1) := by decide +kernel
theorem dL_law_1312 : decode cL_law 1312 = .ok (.laload, 1) := by decide +kernel
theorem dL_law_1313 : decode cL_law 1313 = .ok (.iload 6, 2) := by decide +kernel
theorem dL_law_1315 : decode cL_law 1315 = .ok (.i2l, 1) := by decide +kernel
theorem dL_law_1316 : decode cL_law 1316 = .ok (.lcmp, 1) := by decide +kernel
theorem dL_law_1317 : decode cL_law 1317 = .ok (.ifCond .eq 5, 3) := by decide +kernel
theorem dL_law_1320 : decode cL_law 1320 = .ok (.iconst 0, 1) := by decide +kernel
theorem dL_law_1321 : decode cL_law 1321 = .ok (.ireturn, 1) := by decide +kernel
theorem dL_law_1322 : decode cL_law 1322 = .ok (.goto 183, 3) := by decide +kernel
theorem dL_law_1325 : decode cL_law 1325 = .ok (.aload_n 1, 1) := by decide +kernel
theorem dL_law_1326 : decode cL_law 1326 = .ok (.aload_n 0, 1) := by decide +kernel
theorem dL_law_1327 : decode cL_law 1327 = .ok (.iload 4, 2) := by decide +kernel
theorem dL_law_1329 : decode cL_law 1329 = .ok (.iconst 1, 1) := by decide +kernel
theorem dL_law_1330 : decode cL_law 1330 = .ok (.iadd, 1) := by decide +kernel
theorem dL_law_1331 : decode cL_law 1331 = .ok (.iaload, 1) := by decide +kernel
theorem dL_law_1332 : decode cL_law 1332 = .ok (.aload_n 3, 1) := by decide +kernel
theorem dL_law_1333 : decode cL_law 1333 = .ok (.invokestatic 166, 3) := by decide +kernel
theorem dL_law_1336 : decode cL_law 1336 = .ok (.istore 5, 2) := by decide +kernel
theorem dL_law_1338 : decode cL_law 1338 = .ok (.aload_n 2, 1) := by decide +kernel
theorem dL_law_1339 : decode cL_law 1339 = .ok (.aload_n 0, 1) := by decide +kernel
theorem dL_law_1340 : decode cL_law 1340 = .ok (.iload 4, 2) := by decide +kernel
theorem dL_law_1342 : decode cL_law 1342 = .ok (.iconst 1, 1) := by decide +kernel
theorem dL_law_1343 : decode cL_law 1343 = .ok (.iadd, 1) := by decide +kernel
theorem dL_law_1344 : decode cL_law 1344 = .ok (.iaload, 1) := by decide +kernel
theorem dL_law_1345 : decode cL_law 1345 = .ok (.invokevirtual 168, 3) := by decide +kernel
theorem dL_law_1348 : decode cL_law 1348 = .ok (.istore 6, 2) := by decide +kernel
theorem dL_law_1350 : decode cL_law 1350 = .ok (.aload_n 2, 1) := by decide +kernel
theorem dL_law_1351 : decode cL_law 1351 = .ok (.invokevirtual 90, 3) := by decide +kernel
theorem dL_law_1354 : decode cL_law 1354 = .ok (.iload 5, 2) := by decide +kernel
theorem dL_law_1356 : decode cL_law 1356 = .ok (.if_icmp .eq 5, 3) := by decide +kernel
theorem dL_law_1359 : decode cL_law 1359 = .ok (.iconst 0, 1) := by decide +kernel
theorem dL_law_1360 : decode cL_law 1360 = .ok (.ireturn, 1) := by decide +kernel
theorem dL_law_1361 : decode cL_law 1361 = .ok (.iload 5, 2) := by decide +kernel
theorem dL_law_1363 : decode cL_law 1363 = .ok (.ifCond .ne 15, 3) := by decide +kernel
theorem dL_law_1366 : decode cL_law 1366 = .ok (.aload_n 3, 1) := by decide +kernel
theorem dL_law_1367 : decode cL_law 1367 = .ok (.iconst 0, 1) := by decide +kernel
theorem dL_law_1368 : decode cL_law 1368 = .ok (.laload, 1) := by decide +kernel
theorem dL_law_1369 : decode cL_law 1369 = .ok (.iload 6, 2) := by decide +kernel
theorem dL_law_1371 : decode cL_law 1371 = .ok (.i2l, 1) := by decide +kernel
theorem dL_law_1372 : decode cL_law 1372 = .ok (.lcmp, 1) := by decide +kernel
theorem dL_law_1373 : decode cL_law 1373 = .ok (.ifCond .eq 5, 3) := by decide +kernel
theorem dL_law_1376 : decode cL_law 1376 = .ok (.iconst 0, 1) := by decide +kernel
theorem dL_law_1377 : decode cL_law 1377 = .ok (.ireturn, 1) := by decide +kernel
theorem dL_law_1378 : decode cL_law 1378 = .ok (.goto 127, 3) := by decide +kernel
theorem dL_law_1381 : decode cL_law 1381 = .ok (.aload_n 1, 1) := by decide +kernel
theorem dL_law_1382 : decode cL_law 1382 = .ok (.aload_n 0, 1) := by decide +kernel
theorem dL_law_1383 : decode cL_law 1383 = .ok (.iload 4, 2) := by decide +kernel
theorem dL_law_1385 : decode cL_law 1385 = .ok (.iconst 1, 1) := by decide +kernel
theorem dL_law_1386 : decode cL_law 1386 = .ok (.iadd, 1) := by decide +kernel
theorem dL_law_1387 : decode cL_law 1387 = .ok (.iaload, 1) := by decide +kernel
theorem dL_law_1388 : decode cL_law 1388 = .ok (.aload_n 0, 1) := by decide +kernel
theorem dL_law_1389 : decode cL_law 1389 = .ok (.iload 4, 2) := by decide +kernel
theorem dL_law_1391 : decode cL_law 1391 = .ok (.iconst 2, 1) := by decide +kernel
theorem dL_law_1392 : decode cL_law 1392 = .ok (.iadd, 1) := by decide +kernel
theorem dL_law_1393 : decode cL_law 1393 = .ok (.iaload, 1) := by decide +kernel
theorem dL_law_1394 : decode cL_law 1394 = .ok (.aload_n 3, 1) := by decide +kernel
theorem dL_law_1395 : decode cL_law 1395 = .ok (.invokestatic 169, 3) := by decide +kernel
theorem dL_law_1398 : decode cL_law 1398 = .ok (.istore 5, 2) := by decide +kernel
theorem dL_law_1400 : decode cL_law 1400 = .ok (.aload_n 2, 1) := by decide +kernel
theorem dL_law_1401 : decode cL_law 1401 = .ok (.aload_n 0, 1) := by decide +kernel
theorem dL_law_1402 : decode cL_law 1402 = .ok (.iload 4, 2) := by decide +kernel
theorem dL_law_1404 : decode cL_law 1404 = .ok (.iconst 1, 1) := by decide +kernel
theorem dL_law_1405 : decode cL_law 1405 = .ok (.iadd, 1) := by decide +kernel
theorem dL_law_1406 : decode cL_law 1406 = .ok (.iaload, 1) := by decide +kernel
theorem dL_law_1407 : decode cL_law 1407 = .ok (.aload_n 0, 1) := by decide +kernel
theorem dL_law_1408 : decode cL_law 1408 = .ok (.iload 4, 2) := by decide +kernel
theorem dL_law_1410 : decode cL_law 1410 = .ok (.iconst 2, 1) := by decide +kernel
theorem dL_law_1411 : decode cL_law 1411 = .ok (.iadd, 1) := by decide +kernel
theorem dL_law_1412 : decode cL_law 1412 = .ok (.iaload, 1) := by decide +kernel
theorem dL_law_1413 : decode cL_law 1413 = .ok (.invokevirtual 171, 3) := by decide +kernel
theorem dL_law_1416 : decode cL_law 1416 = .ok (.istore 6, 2) := by decide +kernel
theorem dL_law_1418 : decode cL_law 1418 = .ok (.aload_n 2, 1) := by decide +kernel
theorem dL_law_1419 : decode cL_law 1419 = .ok (.invokevirtual 90, 3) := by decide +kernel
theorem dL_law_1422 : decode cL_law 1422 = .ok (.iload 5, 2) := by decide +kernel
theorem dL_law_1424 : decode cL_law 1424 = .ok (.if_icmp .eq 5, 3) := by decide +kernel
theorem dL_law_1427 : decode cL_law 1427 = .ok (.iconst 0, 1) := by decide +kernel
theorem dL_law_1428 : decode cL_law 1428 = .ok (.ireturn, 1) := by decide +kernel
theorem dL_law_1429 : decode cL_law 1429 = .ok (.iload 5, 2) := by decide +kernel
theorem dL_law_1431 : decode cL_law 1431 = .ok (.ifCond .ne 15, 3) := by decide +kernel
theorem dL_law_1434 : decode cL_law 1434 = .ok (.aload_n 3, 1) := by decide +kernel
theorem dL_law_1435 : decode cL_law 1435 = .ok (.iconst 0, 1) := by decide +kernel
theorem dL_law_1436 : decode cL_law 1436 = .ok (.laload, 1) := by decide +kernel
theorem dL_law_1437 : decode cL_law 1437 = .ok (.iload 6, 2) := by decide +kernel
theorem dL_law_1439 : decode cL_law 1439 = .ok (.i2l, 1) := by decide +kernel
theorem dL_law_1440 : decode cL_law 1440 = .ok (.lcmp, 1) := by decide +kernel
theorem dL_law_1441 : decode cL_law 1441 = .ok (.ifCond .eq 5, 3) := by decide +kernel
theorem dL_law_1444 : decode cL_law 1444 = .ok (.iconst 0, 1) := by decide +kernel
theorem dL_law_1445 : decode cL_law 1445 = .ok (.ireturn, 1) := by decide +kernel
theorem dL_law_1446 : decode cL_law 1446 = .ok (.goto 59, 3) := by decide +kernel
theorem dL_law_1449 : decode cL_law 1449 = .ok (.aload_n 1, 1) := by decide +kernel
theorem dL_law_1450 : decode cL_law 1450 = .ok (.aload_n 0, 1) := by decide +kernel
theorem dL_law_1451 : decode cL_law 1451 = .ok (.iload 4, 2) := by decide +kernel
theorem dL_law_1453 : decode cL_law 1453 = .ok (.iconst 1, 1) := by decide +kernel
theorem dL_law_1454 : decode cL_law 1454 = .ok (.iadd, 1) := by decide +kernel
theorem dL_law_1455 : decode cL_law 1455 = .ok (.iaload, 1) := by decide +kernel
theorem dL_law_1456 : decode cL_law 1456 = .ok (.aload_n 3, 1) := by decide +kernel
theorem dL_law_1457 : decode cL_law 1457 = .ok (.invokestatic 172, 3) := by decide +kernel
theorem dL_law_1460 : decode cL_law 1460 = .ok (.istore 5, 2) := by decide +kernel
theorem dL_law_1462 : decode cL_law 1462 = .ok (.aload_n 2, 1) := by decide +kernel
theorem dL_law_1463 : decode cL_law 1463 = .ok (.aload_n 0, 1) := by decide +kernel
theorem dL_law_1464 : decode cL_law 1464 = .ok (.iload 4, 2) := by decide +kernel
theorem dL_law_1466 : decode cL_law 1466 = .ok (.iconst 1, 1) := by decide +kernel
theorem dL_law_1467 : decode cL_law 1467 = .ok (.iadd, 1) := by decide +kernel
theorem dL_law_1468 : decode cL_law 1468 = .ok (.iaload, 1) := by decide +kernel
theorem dL_law_1469 : decode cL_law 1469 = .ok (.invokevirtual 174, 3) := by decide +kernel
theorem dL_law_1472 : decode cL_law 1472 = .ok (.istore 6, 2) := by decide +kernel
theorem dL_law_1474 : decode cL_law 1474 = .ok (.aload_n 2, 1) := by decide +kernel
theorem dL_law_1475 : decode cL_law 1475 = .ok (.invokevirtual 90, 3) := by decide +kernel
theorem dL_law_1478 : decode cL_law 1478 = .ok (.iload 5, 2) := by decide +kernel
theorem dL_law_1480 : decode cL_law 1480 = .ok (.if_icmp .eq 5, 3) := by decide +kernel
theorem dL_law_1483 : decode cL_law 1483 = .ok (.iconst 0, 1) := by decide +kernel
theorem dL_law_1484 : decode cL_law 1484 = .ok (.ireturn, 1) := by decide +kernel
theorem dL_law_1485 : decode cL_law 1485 = .ok (.iload 5, 2) := by decide +kernel
theorem dL_law_1487 : decode cL_law 1487 = .ok (.ifCond .ne 15, 3) := by decide +kernel
theorem dL_law_1490 : decode cL_law 1490 = .ok (.aload_n 3, 1) := by decide +kernel
theorem dL_law_1491 : decode cL_law 1491 = .ok (.iconst 0, 1) := by decide +kernel
theorem dL_law_1492 : decode cL_law 1492 = .ok (.laload, 1) := by decide +kernel
theorem dL_law_1493 : decode cL_law 1493 = .ok (.iload 6, 2) := by decide +kernel
theorem dL_law_1495 : decode cL_law 1495 = .ok (.i2l, 1) := by decide +kernel
theorem dL_law_1496 : decode cL_law 1496 = .ok (.lcmp, 1) := by decide +kernel
theorem dL_law_1497 : decode cL_law 1497 = .ok (.ifCond .eq 5, 3) := by decide +kernel
theorem dL_law_1500 : decode cL_law 1500 = .ok (.iconst 0, 1) := by decide +kernel
theorem dL_law_1501 : decode cL_law 1501 = .ok (.ireturn, 1) := by decide +kernel
theorem dL_law_1502 : decode cL_law 1502 = .ok (.goto 3, 3) := by decide +kernel
theorem dL_law_1505 : decode cL_law 1505 = .ok (.iinc 4 5, 3) := by decide +kernel
theorem dL_law_1508 : decode cL_law 1508 = .ok (.goto (-1485), 3) := by decide +kernel
theorem dL_law_1511 : decode cL_law 1511 = .ok (.iconst 1, 1) := by decide +kernel
theorem dL_law_1512 : decode cL_law 1512 = .ok (.ireturn, 1) := by decide +kernel
