theorem dX0_init_0 : decode cX0_init 0 = .ok (.aload_n 0, 1) := by decide +kernel
theorem dX0_init_1 : decode cX0_init 1 = .ok (.invokespecial 3, 3) := by decide +kernel
theorem dX0_init_4 : decode cX0_init 4 = .ok (.aload_n 0, 1) := by decide +kernel
theorem dX0_init_5 : decode cX0_init 5 = .ok (.bipush 60, 2) := by decide +kernel
theorem dX0_init_7 : decode cX0_init 7 = .ok (.newarray .int, 2) := by decide +kernel
theorem dX0_init_9 : decode cX0_init 9 = .ok (.putfield 11, 3) := by decide +kernel
theorem dX0_init_12 : decode cX0_init 12 = .ok (.aload_n 0, 1) := by decide +kernel
theorem dX0_init_13 : decode cX0_init 13 = .ok (.bipush 60, 2) := by decide +kernel
theorem dX0_init_15 : decode cX0_init 15 = .ok (.newarray .int, 2) := by decide +kernel
theorem dX0_init_17 : decode cX0_init 17 = .ok (.putfield 15, 3) := by decide +kernel
theorem dX0_init_20 : decode cX0_init 20 = .ok (.aload_n 0, 1) := by decide +kernel
theorem dX0_init_21 : decode cX0_init 21 = .ok (.bipush 60, 2) := by decide +kernel
theorem dX0_init_23 : decode cX0_init 23 = .ok (.newarray .int, 2) := by decide +kernel
theorem dX0_init_25 : decode cX0_init 25 = .ok (.putfield 18, 3) := by decide +kernel
theorem dX0_init_28 : decode cX0_init 28 = .ok (.aload_n 0, 1) := by decide +kernel
theorem dX0_init_29 : decode cX0_init 29 = .ok (.bipush 60, 2) := by decide +kernel
theorem dX0_init_31 : decode cX0_init 31 = .ok (.newarray .int, 2) := by decide +kernel
theorem dX0_init_33 : decode cX0_init 33 = .ok (.putfield 21, 3) := by decide +kernel
theorem dX0_init_36 : decode cX0_init 36 = .ok (.aload_n 0, 1) := by decide +kernel
theorem dX0_init_37 : decode cX0_init 37 = .ok (.bipush 60, 2) := by decide +kernel
theorem dX0_init_39 : decode cX0_init 39 = .ok (.newarray .int, 2) := by decide +kernel
theorem dX0_init_41 : decode cX0_init 41 = .ok (.putfield 24, 3) := by decide +kernel
theorem dX0_init_44 : decode cX0_init 44 = .ok (.aload_n 0, 1) := by decide +kernel
theorem dX0_init_45 : decode cX0_init 45 = .ok (.bipush 60, 2) := by decide +kernel
theorem dX0_init_47 : decode cX0_init 47 = .ok (.newarray .int, 2) := by decide +kernel
theorem dX0_init_49 : decode cX0_init 49 = .ok (.putfield 27, 3) := by decide +kernel
theorem dX0_init_52 : decode cX0_init 52 = .ok (.aload_n 0, 1) := by decide +kernel
theorem dX0_init_53 : decode cX0_init 53 = .ok (.bipush 60, 2) := by decide +kernel
theorem dX0_init_55 : decode cX0_init 55 = .ok (.newarray .int, 2) := by decide +kernel
theorem dX0_init_57 : decode cX0_init 57 = .ok (.putfield 30, 3) := by decide +kernel
theorem dX0_init_60 : decode cX0_init 60 = .ok (.aload_n 0, 1) := by decide +kernel
theorem dX0_init_61 : decode cX0_init 61 = .ok (.iconst 0, 1) := by decide +kernel
theorem dX0_init_62 : decode cX0_init 62 = .ok (.putfield 33, 3) := by decide +kernel
theorem dX0_init_65 : decode cX0_init 65 = .ok (.return_, 1) := by decide +kernel
theorem dX0_isFull_0 : decode cX0_isFull 0 = .ok (.aload_n 0, 1) := by decide +kernel
theorem dX0_isFull_1 : decode cX0_isFull 1 = .ok (.getfield 33, 3) := by decide +kernel
theorem dX0_isFull_4 : decode cX0_isFull 4 = .ok (.bipush 60, 2) := by decide +kernel
theorem dX0_isFull_6 : decode cX0_isFull 6 = .ok (.if_icmp .lt 7, 3) := by decide +kernel
theorem dX0_isFull_9 : decode cX0_isFull 9 = .ok (.iconst 1, 1) := by decide +kernel
theorem dX0_isFull_10 : decode cX0_isFull 10 = .ok (.goto 4, 3) := by decide +kernel
theorem dX0_isFull_13 : decode cX0_isFull 13 = .ok (.iconst 0, 1) := by decide +kernel
theorem dX0_isFull_14 : decode cX0_isFull 14 = .ok (.ireturn, 1) := by decide +kernel
theorem dX0_append_0 : decode cX0_append 0 = .ok (.aload_n 0, 1) := by decide +kernel
theorem dX0_append_1 : decode cX0_append 1 = .ok (.getfield 33, 3) := by decide +kernel
theorem dX0_append_4 : decode cX0_append 4 = .ok (.istore 6, 2) := by decide +kernel
theorem dX0_append_6 : decode cX0_append 6 = .ok (.aload_n 0, 1) := by decide +kernel
theorem dX0_append_7 : decode cX0_append 7 = .ok (.getfield 11, 3) := by decide +kernel
theorem dX0_append_10 : decode cX0_append 10 = .ok (.iload 6, 2) := by decide +kernel
theorem dX0_append_12 : decode cX0_append 12 = .ok (.iload_n 1, 1) := by decide +kernel
theorem dX0_append_13 : decode cX0_append 13 = .ok (.iastore, 1) := by decide +kernel
theorem dX0_append_14 : decode cX0_append 14 = .ok (.aload_n 0, 1) := by decide +kernel
theorem dX0_append_15 : decode cX0_append 15 = .ok (.getfield 15, 3) := by decide +kernel
theorem dX0_append_18 : decode cX0_append 18 = .ok (.iload 6, 2) := by decide +kernel
theorem dX0_append_20 : decode cX0_append 20 = .ok (.iload_n 2, 1) := by decide +kernel
theorem dX0_append_21 : decode cX0_append 21 = .ok (.iastore, 1) := by decide +kernel
theorem dX0_append_22 : decode cX0_append 22 = .ok (.aload_n 0, 1) := by decide +kernel
theorem dX0_append_23 : decode cX0_append 23 = .ok (.getfield 18, 3) := by decide +kernel
theorem dX0_append_26 : decode cX0_append 26 = .ok (.iload 6, 2) := by decide +kernel
theorem dX0_append_28 : decode cX0_append 28 = .ok (.iload_n 3, 1) := by decide +kernel
theorem dX0_append_29 : decode cX0_append 29 = .ok (.iastore, 1) := by decide +kernel
theorem dX0_append_30 : decode cX0_append 30 = .ok (.aload_n 0, 1) := by decide +kernel
theorem dX0_append_31 : decode cX0_append 31 = .ok (.getfield 21, 3) := by decide +kernel
theorem dX0_append_34 : decode cX0_append 34 = .ok (.iload 6, 2) := by decide +kernel
theorem dX0_append_36 : decode cX0_append 36 = .ok (.iload 4, 2) := by decide +kernel
theorem dX0_append_38 : decode cX0_append 38 = .ok (.iastore, 1) := by decide +kernel
theorem dX0_append_39 : decode cX0_append 39 = .ok (.aload_n 0, 1) := by decide +kernel
theorem dX0_append_40 : decode cX0_append 40 = .ok (.getfield 24, 3) := by decide +kernel
theorem dX0_append_43 : decode cX0_append 43 = .ok (.iload 6, 2) := by decide +kernel
theorem dX0_append_45 : decode cX0_append 45 = .ok (.iload 5, 2) := by decide +kernel
theorem dX0_append_47 : decode cX0_append 47 = .ok (.iastore, 1) := by decide +kernel
theorem dX0_append_48 : decode cX0_append 48 = .ok (.aload_n 0, 1) := by decide +kernel
theorem dX0_append_49 : decode cX0_append 49 = .ok (.getfield 27, 3) := by decide +kernel
theorem dX0_append_52 : decode cX0_append 52 = .ok (.iload 6, 2) := by decide +kernel
theorem dX0_append_54 : decode cX0_append 54 = .ok (.iconst (-1), 1) := by decide +kernel
theorem dX0_append_55 : decode cX0_append 55 = .ok (.iastore, 1) := by decide +kernel
theorem dX0_append_56 : decode cX0_append 56 = .ok (.aload_n 0, 1) := by decide +kernel
theorem dX0_append_57 : decode cX0_append 57 = .ok (.dup, 1) := by decide +kernel
theorem dX0_append_58 : decode cX0_append 58 = .ok (.getfield 33, 3) := by decide +kernel
theorem dX0_append_61 : decode cX0_append 61 = .ok (.iconst 1, 1) := by decide +kernel
theorem dX0_append_62 : decode cX0_append 62 = .ok (.iadd, 1) := by decide +kernel
theorem dX0_append_63 : decode cX0_append 63 = .ok (.putfield 33, 3) := by decide +kernel
theorem dX0_append_66 : decode cX0_append 66 = .ok (.iload 6, 2) := by decide +kernel
theorem dX0_append_68 : decode cX0_append 68 = .ok (.ireturn, 1) := by decide +kernel
theorem dX0_endOf_0 : decode cX0_endOf 0 = .ok (.aload_n 0, 1) := by decide +kernel
theorem dX0_endOf_1 : decode cX0_endOf 1 = .ok (.getfield 18, 3) := by decide +kernel
theorem dX0_endOf_4 : decode cX0_endOf 4 = .ok (.iload_n 1, 1) := by decide +kernel
theorem dX0_endOf_5 : decode cX0_endOf 5 = .ok (.iaload, 1) := by decide +kernel
theorem dX0_endOf_6 : decode cX0_endOf 6 = .ok (.aload_n 0, 1) := by decide +kernel
theorem dX0_endOf_7 : decode cX0_endOf 7 = .ok (.getfield 21, 3) := by decide +kernel
theorem dX0_endOf_10 : decode cX0_endOf 10 = .ok (.iload_n 1, 1) := by decide +kernel
theorem dX0_endOf_11 : decode cX0_endOf 11 = .ok (.iaload, 1) := by decide +kernel
theorem dX0_endOf_12 : decode cX0_endOf 12 = .ok (.iadd, 1) := by decide +kernel
theorem dX0_endOf_13 : decode cX0_endOf 13 = .ok (.iconst 1, 1) := by decide +kernel
theorem dX0_endOf_14 : decode cX0_endOf 14 = .ok (.isub, 1) := by decide +kernel
theorem dX0_endOf_15 : decode cX0_endOf 15 = .ok (.ireturn, 1) := by decide +kernel
theorem dX0_dueDayOf_0 : decode cX0_dueDayOf 0 = .ok (.aload_n 0, 1) := by decide +kernel
theorem dX0_dueDayOf_1 : decode cX0_dueDayOf 1 = .ok (.getfield 18, 3) := by decide +kernel
theorem dX0_dueDayOf_4 : decode cX0_dueDayOf 4 = .ok (.iload_n 1, 1) := by decide +kernel
theorem dX0_dueDayOf_5 : decode cX0_dueDayOf 5 = .ok (.iaload, 1) := by decide +kernel
theorem dX0_dueDayOf_6 : decode cX0_dueDayOf 6 = .ok (.aload_n 0, 1) := by decide +kernel
theorem dX0_dueDayOf_7 : decode cX0_dueDayOf 7 = .ok (.getfield 21, 3) := by decide +kernel
theorem dX0_dueDayOf_10 : decode cX0_dueDayOf 10 = .ok (.iload_n 1, 1) := by decide +kernel
theorem dX0_dueDayOf_11 : decode cX0_dueDayOf 11 = .ok (.iaload, 1) := by decide +kernel
theorem dX0_dueDayOf_12 : decode cX0_dueDayOf 12 = .ok (.iconst 2, 1) := by decide +kernel
theorem dX0_dueDayOf_13 : decode cX0_dueDayOf 13 = .ok (.imul, 1) := by decide +kernel
theorem dX0_dueDayOf_14 : decode cX0_dueDayOf 14 = .ok (.iconst 3, 1) := by decide +kernel
theorem dX0_dueDayOf_15 : decode cX0_dueDayOf 15 = .ok (.idiv, 1) := by decide +kernel
theorem dX0_dueDayOf_16 : decode cX0_dueDayOf 16 = .ok (.iadd, 1) := by decide +kernel
theorem dX0_dueDayOf_17 : decode cX0_dueDayOf 17 = .ok (.aload_n 0, 1) := by decide +kernel
theorem dX0_dueDayOf_18 : decode cX0_dueDayOf 18 = .ok (.getfield 24, 3) := by decide +kernel
theorem dX0_dueDayOf_21 : decode cX0_dueDayOf 21 = .ok (.iload_n 1, 1) := by decide +kernel
theorem dX0_dueDayOf_22 : decode cX0_dueDayOf 22 = .ok (.iaload, 1) := by decide +kernel
theorem dX0_dueDayOf_23 : decode cX0_dueDayOf 23 = .ok (.iadd, 1) := by decide +kernel
theorem dX0_dueDayOf_24 : decode cX0_dueDayOf 24 = .ok (.ireturn, 1) := by decide +kernel
set_option maxRecDepth 20000 in
theorem ggX0_isWaiting_X0_dueDayOf : GoodIn wsX0_isWaiting wsX0_dueDayOf := goodIn_r _ [6, 7, 8, 9, 14, 15, 16, 17, 18, 19, 20, 21] (by decide +kernel) (by decide +kernel)
set_option maxRecDepth 20000 in
theorem gX0_isWaiting_X0_dueDayOf : GoodIn wsX0_isWaiting (wsV RX0 37 RX0 yX0_dueDayOf wsX0_dueDayOf) := goodIn_app (goodIn_of _ (by decide +kernel)) ggX0_isWaiting_X0_dueDayOf
set_option maxRecDepth 20000 in
theorem ggX0_isWaiting_X0_endOf : GoodIn wsX0_isWaiting wsX0_endOf := goodIn_r _ [13, 7, 8, 14, 15, 16, 17, 18, 19, 20, 21] (by decide +kernel) (by decide +kernel)
set_option maxRecDepth 20000 in
theorem gX0_isWaiting_X0_endOf : GoodIn wsX0_isWaiting (wsV RX0 41 RX0 yX0_endOf wsX0_endOf) := goodIn_app (goodIn_of _ (by decide +kernel)) ggX0_isWaiting_X0_endOf
theorem dX0_isWaiting_0 : decode cX0_isWaiting 0 = .ok (.aload_n 0, 1) := by decide +kernel
theorem dX0_isWaiting_1 : decode cX0_isWaiting 1 = .ok (.iload_n 1, 1) := by decide +kernel
theorem dX0_isWaiting_2 : decode cX0_isWaiting 2 = .ok (.invokevirtual 37, 3) := by decide +kernel
theorem dX0_isWaiting_5 : decode cX0_isWaiting 5 = .ok (.iload_n 2, 1) := by decide +kernel
theorem dX0_isWaiting_6 : decode cX0_isWaiting 6 = .ok (.if_icmp .gt 26, 3) := by decide +kernel
theorem dX0_isWaiting_9 : decode cX0_isWaiting 9 = .ok (.aload_n 0, 1) := by decide +kernel
theorem dX0_isWaiting_10 : decode cX0_isWaiting 10 = .ok (.getfield 27, 3) := by decide +kernel
theorem dX0_isWaiting_13 : decode cX0_isWaiting 13 = .ok (.iload_n 1, 1) := by decide +kernel
theorem dX0_isWaiting_14 : decode cX0_isWaiting 14 = .ok (.iaload, 1) := by decide +kernel
theorem dX0_isWaiting_15 : decode cX0_isWaiting 15 = .ok (.iconst (-1), 1) := by decide +kernel
theorem dX0_isWaiting_16 : decode cX0_isWaiting 16 = .ok (.if_icmp .ne 16, 3) := by decide +kernel
theorem dX0_isWaiting_19 : decode cX0_isWaiting 19 = .ok (.iload_n 2, 1) := by decide +kernel
theorem dX0_isWaiting_20 : decode cX0_isWaiting 20 = .ok (.aload_n 0, 1) := by decide +kernel
theorem dX0_isWaiting_21 : decode cX0_isWaiting 21 = .ok (.iload_n 1, 1) := by decide +kernel
theorem dX0_isWaiting_22 : decode cX0_isWaiting 22 = .ok (.invokevirtual 41, 3) := by decide +kernel
theorem dX0_isWaiting_25 : decode cX0_isWaiting 25 = .ok (.if_icmp .gt 7, 3) := by decide +kernel
theorem dX0_isWaiting_28 : decode cX0_isWaiting 28 = .ok (.iconst 1, 1) := by decide +kernel
theorem dX0_isWaiting_29 : decode cX0_isWaiting 29 = .ok (.goto 4, 3) := by decide +kernel
theorem dX0_isWaiting_32 : decode cX0_isWaiting 32 = .ok (.iconst 0, 1) := by decide +kernel
theorem dX0_isWaiting_33 : decode cX0_isWaiting 33 = .ok (.ireturn, 1) := by decide +kernel
set_option maxRecDepth 20000 in
theorem ggX0_issuedInWeek_X2_weekOf : GoodIn wsX0_issuedInWeek wsX2_weekOf := goodIn_r _ [6] (by decide +kernel) (by decide +kernel)
set_option maxRecDepth 20000 in
theorem gX0_issuedInWeek_X2_weekOf_n44 : GoodIn wsX0_issuedInWeek (wsX2_weekOf) := ggX0_issuedInWeek_X2_weekOf
theorem dX0_issuedInWeek_0 : decode cX0_issuedInWeek 0 = .ok (.iconst 0, 1) := by decide +kernel
theorem dX0_issuedInWeek_1 : decode cX0_issuedInWeek 1 = .ok (.istore_n 3, 1) := by decide +kernel
theorem dX0_issuedInWeek_2 : decode cX0_issuedInWeek 2 = .ok (.iconst 0, 1) := by decide +kernel
theorem dX0_issuedInWeek_3 : decode cX0_issuedInWeek 3 = .ok (.istore 4, 2) := by decide +kernel
theorem dX0_issuedInWeek_5 : decode cX0_issuedInWeek 5 = .ok (.iload 4, 2) := by decide +kernel
theorem dX0_issuedInWeek_7 : decode cX0_issuedInWeek 7 = .ok (.aload_n 0, 1) := by decide +kernel
theorem dX0_issuedInWeek_8 : decode cX0_issuedInWeek 8 = .ok (.getfield 33, 3) := by decide +kernel
theorem dX0_issuedInWeek_11 : decode cX0_issuedInWeek 11 = .ok (.if_icmp .ge 37, 3) := by decide +kernel
theorem dX0_issuedInWeek_14 : decode cX0_issuedInWeek 14 = .ok (.aload_n 0, 1) := by decide +kernel
theorem dX0_issuedInWeek_15 : decode cX0_issuedInWeek 15 = .ok (.getfield 11, 3) := by decide +kernel
theorem dX0_issuedInWeek_18 : decode cX0_issuedInWeek 18 = .ok (.iload 4, 2) := by decide +kernel
theorem dX0_issuedInWeek_20 : decode cX0_issuedInWeek 20 = .ok (.iaload, 1) := by decide +kernel
theorem dX0_issuedInWeek_21 : decode cX0_issuedInWeek 21 = .ok (.iload_n 1, 1) := by decide +kernel
theorem dX0_issuedInWeek_22 : decode cX0_issuedInWeek 22 = .ok (.if_icmp .ne 20, 3) := by decide +kernel
theorem dX0_issuedInWeek_25 : decode cX0_issuedInWeek 25 = .ok (.aload_n 0, 1) := by decide +kernel
theorem dX0_issuedInWeek_26 : decode cX0_issuedInWeek 26 = .ok (.getfield 18, 3) := by decide +kernel
theorem dX0_issuedInWeek_29 : decode cX0_issuedInWeek 29 = .ok (.iload 4, 2) := by decide +kernel
theorem dX0_issuedInWeek_31 : decode cX0_issuedInWeek 31 = .ok (.iaload, 1) := by decide +kernel
theorem dX0_issuedInWeek_32 : decode cX0_issuedInWeek 32 = .ok (.invokestatic 44, 3) := by decide +kernel
theorem dX0_issuedInWeek_35 : decode cX0_issuedInWeek 35 = .ok (.iload_n 2, 1) := by decide +kernel
theorem dX0_issuedInWeek_36 : decode cX0_issuedInWeek 36 = .ok (.if_icmp .ne 6, 3) := by decide +kernel
theorem dX0_issuedInWeek_39 : decode cX0_issuedInWeek 39 = .ok (.iinc 3 1, 3) := by decide +kernel
theorem dX0_issuedInWeek_42 : decode cX0_issuedInWeek 42 = .ok (.iinc 4 1, 3) := by decide +kernel
theorem dX0_issuedInWeek_45 : decode cX0_issuedInWeek 45 = .ok (.goto (-40), 3) := by decide +kernel
theorem dX0_issuedInWeek_48 : decode cX0_issuedInWeek 48 = .ok (.iload_n 3, 1) := by decide +kernel
theorem dX0_issuedInWeek_49 : decode cX0_issuedInWeek 49 = .ok (.ireturn, 1) := by decide +kernel
set_option maxRecDepth 20000 in
theorem ggX0_fillQueue_X0_isWaiting : GoodIn wsX0_fillQueue wsX0_isWaiting := goodIn_r _ [6, 7, 8, 9, 10, 5, 11, 12, 13, 14, 15, 16, 17, 18, 24, 25, 26, 27, 28, 29, 30, 31] (by decide +kernel) (by decide +kernel)
set_option maxRecDepth 20000 in
theorem gX0_fillQueue_X0_isWaiting : GoodIn wsX0_fillQueue (wsV RX0 47 RX0 yX0_isWaiting wsX0_isWaiting) := goodIn_app (goodIn_of _ (by decide +kernel)) ggX0_fillQueue_X0_isWaiting
set_option maxRecDepth 20000 in
theorem ggX0_fillQueue_X0_insert : GoodIn wsX0_fillQueue wsX0_insert := goodIn_r _ [22, 23, 15, 16, 17, 5, 18, 12, 13, 24, 25, 26, 27, 28, 29, 30, 31] (by decide +kernel) (by decide +kernel)
set_option maxRecDepth 20000 in
theorem gX0_fillQueue_X0_insert : GoodIn wsX0_fillQueue (wsV RX0 51 RX0 yX0_insert wsX0_insert) := goodIn_app (goodIn_of _ (by decide +kernel)) ggX0_fillQueue_X0_insert
theorem dX0_fillQueue_0 : decode cX0_fillQueue 0 = .ok (.iconst 0, 1) := by decide +kernel
theorem dX0_fillQueue_1 : decode cX0_fillQueue 1 = .ok (.istore_n 2, 1) := by decide +kernel
theorem dX0_fillQueue_2 : decode cX0_fillQueue 2 = .ok (.iconst 0, 1) := by decide +kernel
theorem dX0_fillQueue_3 : decode cX0_fillQueue 3 = .ok (.istore_n 3, 1) := by decide +kernel
theorem dX0_fillQueue_4 : decode cX0_fillQueue 4 = .ok (.iload_n 3, 1) := by decide +kernel
theorem dX0_fillQueue_5 : decode cX0_fillQueue 5 = .ok (.aload_n 0, 1) := by decide +kernel
theorem dX0_fillQueue_6 : decode cX0_fillQueue 6 = .ok (.getfield 33, 3) := by decide +kernel
theorem dX0_fillQueue_9 : decode cX0_fillQueue 9 = .ok (.if_icmp .ge 27, 3) := by decide +kernel
theorem dX0_fillQueue_12 : decode cX0_fillQueue 12 = .ok (.aload_n 0, 1) := by decide +kernel
theorem dX0_fillQueue_13 : decode cX0_fillQueue 13 = .ok (.iload_n 3, 1) := by decide +kernel
theorem dX0_fillQueue_14 : decode cX0_fillQueue 14 = .ok (.iload_n 1, 1) := by decide +kernel
theorem dX0_fillQueue_15 : decode cX0_fillQueue 15 = .ok (.invokevirtual 47, 3) := by decide +kernel
theorem dX0_fillQueue_18 : decode cX0_fillQueue 18 = .ok (.ifCond .eq 12, 3) := by decide +kernel
theorem dX0_fillQueue_21 : decode cX0_fillQueue 21 = .ok (.aload_n 0, 1) := by decide +kernel
theorem dX0_fillQueue_22 : decode cX0_fillQueue 22 = .ok (.iload_n 3, 1) := by decide +kernel
theorem dX0_fillQueue_23 : decode cX0_fillQueue 23 = .ok (.iload_n 2, 1) := by decide +kernel
theorem dX0_fillQueue_24 : decode cX0_fillQueue 24 = .ok (.invokevirtual 51, 3) := by decide +kernel
theorem dX0_fillQueue_27 : decode cX0_fillQueue 27 = .ok (.iinc 2 1, 3) := by decide +kernel
theorem dX0_fillQueue_30 : decode cX0_fillQueue 30 = .ok (.iinc 3 1, 3) := by decide +kernel
theorem dX0_fillQueue_33 : decode cX0_fillQueue 33 = .ok (.goto (-29), 3) := by decide +kernel
theorem dX0_fillQueue_36 : decode cX0_fillQueue 36 = .ok (.iload_n 2, 1) := by decide +kernel
theorem dX0_fillQueue_37 : decode cX0_fillQueue 37 = .ok (.ireturn, 1) := by decide +kernel
set_option maxRecDepth 20000 in
theorem ggX0_insert_X0_endOf : GoodIn wsX0_insert wsX0_endOf := goodIn_r _ [6, 7, 8, 9, 10, 11, 12, 13, 14, 15, 16] (by decide +kernel) (by decide +kernel)
set_option maxRecDepth 20000 in
theorem gX0_insert_X0_endOf : GoodIn wsX0_insert (wsV RX0 41 RX0 yX0_endOf wsX0_endOf) := goodIn_app (goodIn_of _ (by decide +kernel)) ggX0_insert_X0_endOf
theorem dX0_insert_0 : decode cX0_insert 0 = .ok (.iload_n 2, 1) := by decide +kernel
theorem dX0_insert_1 : decode cX0_insert 1 = .ok (.istore_n 3, 1) := by decide +kernel
theorem dX0_insert_2 : decode cX0_insert 2 = .ok (.iload_n 3, 1) := by decide +kernel
theorem dX0_insert_3 : decode cX0_insert 3 = .ok (.ifCond .le 43, 3) := by decide +kernel
theorem dX0_insert_6 : decode cX0_insert 6 = .ok (.aload_n 0, 1) := by decide +kernel
theorem dX0_insert_7 : decode cX0_insert 7 = .ok (.aload_n 0, 1) := by decide +kernel
theorem dX0_insert_8 : decode cX0_insert 8 = .ok (.getfield 30, 3) := by decide +kernel
theorem dX0_insert_11 : decode cX0_insert 11 = .ok (.iload_n 3, 1) := by decide +kernel
theorem dX0_insert_12 : decode cX0_insert 12 = .ok (.iconst 1, 1) := by decide +kernel
theorem dX0_insert_13 : decode cX0_insert 13 = .ok (.isub, 1) := by decide +kernel
theorem dX0_insert_14 : decode cX0_insert 14 = .ok (.iaload, 1) := by decide +kernel
theorem dX0_insert_15 : decode cX0_insert 15 = .ok (.invokevirtual 41, 3) := by decide +kernel
theorem dX0_insert_18 : decode cX0_insert 18 = .ok (.aload_n 0, 1) := by decide +kernel
theorem dX0_insert_19 : decode cX0_insert 19 = .ok (.iload_n 1, 1) := by decide +kernel
theorem dX0_insert_20 : decode cX0_insert 20 = .ok (.invokevirtual 41, 3) := by decide +kernel
theorem dX0_insert_23 : decode cX0_insert 23 = .ok (.if_icmp .le 23, 3) := by decide +kernel
theorem dX0_insert_26 : decode cX0_insert 26 = .ok (.aload_n 0, 1) := by decide +kernel
theorem dX0_insert_27 : decode cX0_insert 27 = .ok (.getfield 30, 3) := by decide +kernel
theorem dX0_insert_30 : decode cX0_insert 30 = .ok (.iload_n 3, 1) := by decide +kernel
theorem dX0_insert_31 : decode cX0_insert 31 = .ok (.aload_n 0, 1) := by decide +kernel
theorem dX0_insert_32 : decode cX0_insert 32 = .ok (.getfield 30, 3) := by decide +kernel
theorem dX0_insert_35 : decode cX0_insert 35 = .ok (.iload_n 3, 1) := by decide +kernel
theorem dX0_insert_36 : decode cX0_insert 36 = .ok (.iconst 1, 1) := by decide +kernel
theorem dX0_insert_37 : decode cX0_insert 37 = .ok (.isub, 1) := by decide +kernel
theorem dX0_insert_38 : decode cX0_insert 38 = .ok (.iaload, 1) := by decide +kernel
theorem dX0_insert_39 : decode cX0_insert 39 = .ok (.iastore, 1) := by decide +kernel
theorem dX0_insert_40 : decode cX0_insert 40 = .ok (.iinc 3 (-1), 3) := by decide +kernel
theorem dX0_insert_43 : decode cX0_insert 43 = .ok (.goto (-41), 3) := by decide +kernel
theorem dX0_insert_46 : decode cX0_insert 46 = .ok (.aload_n 0, 1) := by decide +kernel
theorem dX0_insert_47 : decode cX0_insert 47 = .ok (.getfield 30, 3) := by decide +kernel
theorem dX0_insert_50 : decode cX0_insert 50 = .ok (.iload_n 3, 1) := by decide +kernel
theorem dX0_insert_51 : decode cX0_insert 51 = .ok (.iload_n 1, 1) := by decide +kernel
theorem dX0_insert_52 : decode cX0_insert 52 = .ok (.iastore, 1) := by decide +kernel
theorem dX0_insert_53 : decode cX0_insert 53 = .ok (.return_, 1) := by decide +kernel
set_option maxRecDepth 20000 in
theorem ggX0_namesHeld_X0_endOf : GoodIn wsX0_namesHeld wsX0_endOf := goodIn_r _ [9, 2, 10, 16, 17, 18, 19, 20, 21, 22, 23] (by decide +kernel) (by decide +kernel)
set_option maxRecDepth 20000 in
theorem gX0_namesHeld_X0_endOf : GoodIn wsX0_namesHeld (wsV RX0 41 RX0 yX0_endOf wsX0_endOf) := goodIn_app (goodIn_of _ (by decide +kernel)) ggX0_namesHeld_X0_endOf
set_option maxRecDepth 20000 in
theorem ggX0_namesHeld_X2_contains : GoodIn wsX0_namesHeld wsX2_contains := goodIn_r _ [13] (by decide +kernel) (by decide +kernel)
set_option maxRecDepth 20000 in
theorem gX0_namesHeld_X2_contains_n55 : GoodIn wsX0_namesHeld (wsX2_contains) := ggX0_namesHeld_X2_contains
set_option maxRecDepth 20000 in
theorem ggX0_namesHeld_X2_namesOf : GoodIn wsX0_namesHeld wsX2_namesOf := goodIn_r _ [15] (by decide +kernel) (by decide +kernel)
set_option maxRecDepth 20000 in
theorem gX0_namesHeld_X2_namesOf_n58 : GoodIn wsX0_namesHeld (wsX2_namesOf) := ggX0_namesHeld_X2_namesOf
theorem dX0_namesHeld_0 : decode cX0_namesHeld 0 = .ok (.iconst 0, 1) := by decide +kernel
theorem dX0_namesHeld_1 : decode cX0_namesHeld 1 = .ok (.istore_n 3, 1) := by decide +kernel
theorem dX0_namesHeld_2 : decode cX0_namesHeld 2 = .ok (.iconst 0, 1) := by decide +kernel
theorem dX0_namesHeld_3 : decode cX0_namesHeld 3 = .ok (.istore 4, 2) := by decide +kernel
theorem dX0_namesHeld_5 : decode cX0_namesHeld 5 = .ok (.iload 4, 2) := by decide +kernel
theorem dX0_namesHeld_7 : decode cX0_namesHeld 7 = .ok (.aload_n 0, 1) := by decide +kernel
theorem dX0_namesHeld_8 : decode cX0_namesHeld 8 = .ok (.getfield 33, 3) := by decide +kernel
theorem dX0_namesHeld_11 : decode cX0_namesHeld 11 = .ok (.if_icmp .ge 69, 3) := by decide +kernel
theorem dX0_namesHeld_14 : decode cX0_namesHeld 14 = .ok (.aload_n 0, 1) := by decide +kernel
theorem dX0_namesHeld_15 : decode cX0_namesHeld 15 = .ok (.getfield 18, 3) := by decide +kernel
theorem dX0_namesHeld_18 : decode cX0_namesHeld 18 = .ok (.iload 4, 2) := by decide +kernel
theorem dX0_namesHeld_20 : decode cX0_namesHeld 20 = .ok (.iaload, 1) := by decide +kernel
theorem dX0_namesHeld_21 : decode cX0_namesHeld 21 = .ok (.iload_n 1, 1) := by decide +kernel
theorem dX0_namesHeld_22 : decode cX0_namesHeld 22 = .ok (.if_icmp .gt 17, 3) := by decide +kernel
theorem dX0_namesHeld_25 : decode cX0_namesHeld 25 = .ok (.iload_n 1, 1) := by decide +kernel
theorem dX0_namesHeld_26 : decode cX0_namesHeld 26 = .ok (.aload_n 0, 1) := by decide +kernel
theorem dX0_namesHeld_27 : decode cX0_namesHeld 27 = .ok (.iload 4, 2) := by decide +kernel
theorem dX0_namesHeld_29 : decode cX0_namesHeld 29 = .ok (.invokevirtual 41, 3) := by decide +kernel
theorem dX0_namesHeld_32 : decode cX0_namesHeld 32 = .ok (.if_icmp .gt 7, 3) := by decide +kernel
theorem dX0_namesHeld_35 : decode cX0_namesHeld 35 = .ok (.iconst 1, 1) := by decide +kernel
theorem dX0_namesHeld_36 : decode cX0_namesHeld 36 = .ok (.goto 4, 3) := by decide +kernel
theorem dX0_namesHeld_39 : decode cX0_namesHeld 39 = .ok (.iconst 0, 1) := by decide +kernel
theorem dX0_namesHeld_40 : decode cX0_namesHeld 40 = .ok (.istore 5, 2) := by decide +kernel
theorem dX0_namesHeld_42 : decode cX0_namesHeld 42 = .ok (.iload 5, 2) := by decide +kernel
theorem dX0_namesHeld_44 : decode cX0_namesHeld 44 = .ok (.ifCond .eq 30, 3) := by decide +kernel
theorem dX0_namesHeld_47 : decode cX0_namesHeld 47 = .ok (.iload_n 2, 1) := by decide +kernel
theorem dX0_namesHeld_48 : decode cX0_namesHeld 48 = .ok (.aload_n 0, 1) := by decide +kernel
theorem dX0_namesHeld_49 : decode cX0_namesHeld 49 = .ok (.getfield 11, 3) := by decide +kernel
theorem dX0_namesHeld_52 : decode cX0_namesHeld 52 = .ok (.iload 4, 2) := by decide +kernel
theorem dX0_namesHeld_54 : decode cX0_namesHeld 54 = .ok (.iaload, 1) := by decide +kernel
theorem dX0_namesHeld_55 : decode cX0_namesHeld 55 = .ok (.invokestatic 55, 3) := by decide +kernel
theorem dX0_namesHeld_58 : decode cX0_namesHeld 58 = .ok (.ifCond .eq 16, 3) := by decide +kernel
theorem dX0_namesHeld_61 : decode cX0_namesHeld 61 = .ok (.iload_n 3, 1) := by decide +kernel
theorem dX0_namesHeld_62 : decode cX0_namesHeld 62 = .ok (.aload_n 0, 1) := by decide +kernel
theorem dX0_namesHeld_63 : decode cX0_namesHeld 63 = .ok (.getfield 15, 3) := by decide +kernel
theorem dX0_namesHeld_66 : decode cX0_namesHeld 66 = .ok (.iload 4, 2) := by decide +kernel
theorem dX0_namesHeld_68 : decode cX0_namesHeld 68 = .ok (.iaload, 1) := by decide +kernel
theorem dX0_namesHeld_69 : decode cX0_namesHeld 69 = .ok (.invokestatic 58, 3) := by decide +kernel
theorem dX0_namesHeld_72 : decode cX0_namesHeld 72 = .ok (.ior, 1) := by decide +kernel
theorem dX0_namesHeld_73 : decode cX0_namesHeld 73 = .ok (.istore_n 3, 1) := by decide +kernel
theorem dX0_namesHeld_74 : decode cX0_namesHeld 74 = .ok (.iinc 4 1, 3) := by decide +kernel
theorem dX0_namesHeld_77 : decode cX0_namesHeld 77 = .ok (.goto (-72), 3) := by decide +kernel
theorem dX0_namesHeld_80 : decode cX0_namesHeld 80 = .ok (.iload_n 3, 1) := by decide +kernel
theorem dX0_namesHeld_81 : decode cX0_namesHeld 81 = .ok (.ireturn, 1) := by decide +kernel
theorem dX1_init_0 : decode cX1_init 0 = .ok (.aload_n 0, 1) := by decide +kernel
theorem dX1_init_1 : decode cX1_init 1 = .ok (.invokespecial 3, 3) := by decide +kernel
theorem dX1_init_4 : decode cX1_init 4 = .ok (.aload_n 0, 1) := by decide +kernel
theorem dX1_init_5 : decode cX1_init 5 = .ok (.bipush 8, 2) := by decide +kernel
theorem dX1_init_7 : decode cX1_init 7 = .ok (.newarray .int, 2) := by decide +kernel
theorem dX1_init_9 : decode cX1_init 9 = .ok (.putfield 11, 3) := by decide +kernel
theorem dX1_init_12 : decode cX1_init 12 = .ok (.aload_n 0, 1) := by decide +kernel
theorem dX1_init_13 : decode cX1_init 13 = .ok (.bipush 8, 2) := by decide +kernel
theorem dX1_init_15 : decode cX1_init 15 = .ok (.newarray .int, 2) := by decide +kernel
theorem dX1_init_17 : decode cX1_init 17 = .ok (.putfield 15, 3) := by decide +kernel
theorem dX1_init_20 : decode cX1_init 20 = .ok (.aload_n 0, 1) := by decide +kernel
theorem dX1_init_21 : decode cX1_init 21 = .ok (.bipush 8, 2) := by decide +kernel
theorem dX1_init_23 : decode cX1_init 23 = .ok (.newarray .int, 2) := by decide +kernel
theorem dX1_init_25 : decode cX1_init 25 = .ok (.putfield 18, 3) := by decide +kernel
theorem dX1_init_28 : decode cX1_init 28 = .ok (.aload_n 0, 1) := by decide +kernel
theorem dX1_init_29 : decode cX1_init 29 = .ok (.bipush 8, 2) := by decide +kernel
theorem dX1_init_31 : decode cX1_init 31 = .ok (.newarray .int, 2) := by decide +kernel
theorem dX1_init_33 : decode cX1_init 33 = .ok (.putfield 21, 3) := by decide +kernel
theorem dX1_init_36 : decode cX1_init 36 = .ok (.aload_n 0, 1) := by decide +kernel
theorem dX1_init_37 : decode cX1_init 37 = .ok (.bipush 8, 2) := by decide +kernel
theorem dX1_init_39 : decode cX1_init 39 = .ok (.newarray .int, 2) := by decide +kernel
theorem dX1_init_41 : decode cX1_init 41 = .ok (.putfield 24, 3) := by decide +kernel
theorem dX1_init_44 : decode cX1_init 44 = .ok (.aload_n 0, 1) := by decide +kernel
theorem dX1_init_45 : decode cX1_init 45 = .ok (.bipush 8, 2) := by decide +kernel
theorem dX1_init_47 : decode cX1_init 47 = .ok (.newarray .int, 2) := by decide +kernel
theorem dX1_init_49 : decode cX1_init 49 = .ok (.putfield 27, 3) := by decide +kernel
theorem dX1_init_52 : decode cX1_init 52 = .ok (.aload_n 0, 1) := by decide +kernel
theorem dX1_init_53 : decode cX1_init 53 = .ok (.bipush 8, 2) := by decide +kernel
theorem dX1_init_55 : decode cX1_init 55 = .ok (.newarray .int, 2) := by decide +kernel
theorem dX1_init_57 : decode cX1_init 57 = .ok (.putfield 30, 3) := by decide +kernel
theorem dX1_init_60 : decode cX1_init 60 = .ok (.aload_n 0, 1) := by decide +kernel
theorem dX1_init_61 : decode cX1_init 61 = .ok (.bipush 8, 2) := by decide +kernel
theorem dX1_init_63 : decode cX1_init 63 = .ok (.newarray .int, 2) := by decide +kernel
theorem dX1_init_65 : decode cX1_init 65 = .ok (.putfield 33, 3) := by decide +kernel
theorem dX1_init_68 : decode cX1_init 68 = .ok (.aload_n 0, 1) := by decide +kernel
theorem dX1_init_69 : decode cX1_init 69 = .ok (.iconst 0, 1) := by decide +kernel
theorem dX1_init_70 : decode cX1_init 70 = .ok (.putfield 36, 3) := by decide +kernel
theorem dX1_init_73 : decode cX1_init 73 = .ok (.return_, 1) := by decide +kernel
theorem dX1_isFull_0 : decode cX1_isFull 0 = .ok (.aload_n 0, 1) := by decide +kernel
theorem dX1_isFull_1 : decode cX1_isFull 1 = .ok (.getfield 36, 3) := by decide +kernel
theorem dX1_isFull_4 : decode cX1_isFull 4 = .ok (.bipush 8, 2) := by decide +kernel
theorem dX1_isFull_6 : decode cX1_isFull 6 = .ok (.if_icmp .lt 7, 3) := by decide +kernel
theorem dX1_isFull_9 : decode cX1_isFull 9 = .ok (.iconst 1, 1) := by decide +kernel
theorem dX1_isFull_10 : decode cX1_isFull 10 = .ok (.goto 4, 3) := by decide +kernel
theorem dX1_isFull_13 : decode cX1_isFull 13 = .ok (.iconst 0, 1) := by decide +kernel
theorem dX1_isFull_14 : decode cX1_isFull 14 = .ok (.ireturn, 1) := by decide +kernel
set_option maxRecDepth 20000 in
theorem ggX1_append_X1_updateChains : GoodIn wsX1_append wsX1_updateChains := goodIn_r _ [12, 1, 13, 2, 14, 3, 15, 16, 17, 18, 5, 19, 20, 21, 22, 23, 24, 11, 25, 26, 27, 28, 29, 30, 31, 32, 33, 34] (by decide +kernel) (by decide +kernel)
set_option maxRecDepth 20000 in
theorem gX1_append_X1_updateChains : GoodIn wsX1_append (wsV RX1 40 RX1 yX1_updateChains wsX1_updateChains) := goodIn_app (goodIn_of _ (by decide +kernel)) ggX1_append_X1_updateChains
theorem dX1_append_0 : decode cX1_append 0 = .ok (.aload_n 0, 1) := by decide +kernel
theorem dX1_append_1 : decode cX1_append 1 = .ok (.getfield 36, 3) := by decide +kernel
theorem dX1_append_4 : decode cX1_append 4 = .ok (.istore 5, 2) := by decide +kernel
theorem dX1_append_6 : decode cX1_append 6 = .ok (.aload_n 0, 1) := by decide +kernel
theorem dX1_append_7 : decode cX1_append 7 = .ok (.getfield 11, 3) := by decide +kernel
theorem dX1_append_10 : decode cX1_append 10 = .ok (.iload 5, 2) := by decide +kernel
theorem dX1_append_12 : decode cX1_append 12 = .ok (.iload_n 1, 1) := by decide +kernel
theorem dX1_append_13 : decode cX1_append 13 = .ok (.iastore, 1) := by decide +kernel
theorem dX1_append_14 : decode cX1_append 14 = .ok (.aload_n 0, 1) := by decide +kernel
theorem dX1_append_15 : decode cX1_append 15 = .ok (.getfield 15, 3) := by decide +kernel
theorem dX1_append_18 : decode cX1_append 18 = .ok (.iload 5, 2) := by decide +kernel
theorem dX1_append_20 : decode cX1_append 20 = .ok (.iconst (-1), 1) := by decide +kernel
theorem dX1_append_21 : decode cX1_append 21 = .ok (.iastore, 1) := by decide +kernel
theorem dX1_append_22 : decode cX1_append 22 = .ok (.aload_n 0, 1) := by decide +kernel
theorem dX1_append_23 : decode cX1_append 23 = .ok (.getfield 18, 3) := by decide +kernel
theorem dX1_append_26 : decode cX1_append 26 = .ok (.iload 5, 2) := by decide +kernel
theorem dX1_append_28 : decode cX1_append 28 = .ok (.iload_n 2, 1) := by decide +kernel
theorem dX1_append_29 : decode cX1_append 29 = .ok (.iastore, 1) := by decide +kernel
theorem dX1_append_30 : decode cX1_append 30 = .ok (.aload_n 0, 1) := by decide +kernel
theorem dX1_append_31 : decode cX1_append 31 = .ok (.getfield 21, 3) := by decide +kernel
theorem dX1_append_34 : decode cX1_append 34 = .ok (.iload 5, 2) := by decide +kernel
theorem dX1_append_36 : decode cX1_append 36 = .ok (.iload_n 3, 1) := by decide +kernel
theorem dX1_append_37 : decode cX1_append 37 = .ok (.iastore, 1) := by decide +kernel
theorem dX1_append_38 : decode cX1_append 38 = .ok (.aload_n 0, 1) := by decide +kernel
theorem dX1_append_39 : decode cX1_append 39 = .ok (.getfield 24, 3) := by decide +kernel
theorem dX1_append_42 : decode cX1_append 42 = .ok (.iload 5, 2) := by decide +kernel
theorem dX1_append_44 : decode cX1_append 44 = .ok (.iload 4, 2) := by decide +kernel
theorem dX1_append_46 : decode cX1_append 46 = .ok (.iastore, 1) := by decide +kernel
theorem dX1_append_47 : decode cX1_append 47 = .ok (.aload_n 0, 1) := by decide +kernel
theorem dX1_append_48 : decode cX1_append 48 = .ok (.getfield 27, 3) := by decide +kernel
theorem dX1_append_51 : decode cX1_append 51 = .ok (.iload 5, 2) := by decide +kernel
theorem dX1_append_53 : decode cX1_append 53 = .ok (.iconst (-1), 1) := by decide +kernel
theorem dX1_append_54 : decode cX1_append 54 = .ok (.iastore, 1) := by decide +kernel
theorem dX1_append_55 : decode cX1_append 55 = .ok (.aload_n 0, 1) := by decide +kernel
theorem dX1_append_56 : decode cX1_append 56 = .ok (.dup, 1) := by decide +kernel
theorem dX1_append_57 : decode cX1_append 57 = .ok (.getfield 36, 3) := by decide +kernel
theorem dX1_append_60 : decode cX1_append 60 = .ok (.iconst 1, 1) := by decide +kernel
theorem dX1_append_61 : decode cX1_append 61 = .ok (.iadd, 1) := by decide +kernel
theorem dX1_append_62 : decode cX1_append 62 = .ok (.putfield 36, 3) := by decide +kernel
theorem dX1_append_65 : decode cX1_append 65 = .ok (.aload_n 0, 1) := by decide +kernel
theorem dX1_append_66 : decode cX1_append 66 = .ok (.iload 5, 2) := by decide +kernel
theorem dX1_append_68 : decode cX1_append 68 = .ok (.invokevirtual 40, 3) := by decide +kernel
theorem dX1_append_71 : decode cX1_append 71 = .ok (.iload 5, 2) := by decide +kernel
theorem dX1_append_73 : decode cX1_append 73 = .ok (.ireturn, 1) := by decide +kernel
theorem dX1_isRoot_0 : decode cX1_isRoot 0 = .ok (.aload_n 0, 1) := by decide +kernel
theorem dX1_isRoot_1 : decode cX1_isRoot 1 = .ok (.getfield 11, 3) := by decide +kernel
theorem dX1_isRoot_4 : decode cX1_isRoot 4 = .ok (.iload_n 1, 1) := by decide +kernel
theorem dX1_isRoot_5 : decode cX1_isRoot 5 = .ok (.iaload, 1) := by decide +kernel
theorem dX1_isRoot_6 : decode cX1_isRoot 6 = .ok (.iconst (-1), 1) := by decide +kernel
theorem dX1_isRoot_7 : decode cX1_isRoot 7 = .ok (.if_icmp .ne 7, 3) := by decide +kernel
theorem dX1_isRoot_10 : decode cX1_isRoot 10 = .ok (.iconst 1, 1) := by decide +kernel
theorem dX1_isRoot_11 : decode cX1_isRoot 11 = .ok (.goto 4, 3) := by decide +kernel
theorem dX1_isRoot_14 : decode cX1_isRoot 14 = .ok (.iconst 0, 1) := by decide +kernel
theorem dX1_isRoot_15 : decode cX1_isRoot 15 = .ok (.ireturn, 1) := by decide +kernel
set_option maxRecDepth 20000 in
theorem ggX1_updateChains_X1_isRoot : GoodIn wsX1_updateChains wsX1_isRoot := goodIn_r _ [18, 3, 19, 20, 21, 22, 23, 24, 25, 26, 27] (by decide +kernel) (by decide +kernel)
set_option maxRecDepth 20000 in
theorem gX1_updateChains_X1_isRoot : GoodIn wsX1_updateChains (wsV RX1 44 RX1 yX1_isRoot wsX1_isRoot) := goodIn_app (goodIn_of _ (by decide +kernel)) ggX1_updateChains_X1_isRoot
theorem dX1_updateChains_0 : decode cX1_updateChains 0 = .ok (.iload_n 1, 1) := by decide +kernel
theorem dX1_updateChains_1 : decode cX1_updateChains 1 = .ok (.istore_n 2, 1) := by decide +kernel
theorem dX1_updateChains_2 : decode cX1_updateChains 2 = .ok (.iload_n 2, 1) := by decide +kernel
theorem dX1_updateChains_3 : decode cX1_updateChains 3 = .ok (.aload_n 0, 1) := by decide +kernel
theorem dX1_updateChains_4 : decode cX1_updateChains 4 = .ok (.getfield 36, 3) := by decide +kernel
theorem dX1_updateChains_7 : decode cX1_updateChains 7 = .ok (.if_icmp .ge 115, 3) := by decide +kernel
theorem dX1_updateChains_10 : decode cX1_updateChains 10 = .ok (.sipush 5000, 3) := by decide +kernel
theorem dX1_updateChains_13 : decode cX1_updateChains 13 = .ok (.istore_n 3, 1) := by decide +kernel
theorem dX1_updateChains_14 : decode cX1_updateChains 14 = .ok (.iconst 1, 1) := by decide +kernel
theorem dX1_updateChains_15 : decode cX1_updateChains 15 = .ok (.istore 4, 2) := by decide +kernel
theorem dX1_updateChains_17 : decode cX1_updateChains 17 = .ok (.aload_n 0, 1) := by decide +kernel
theorem dX1_updateChains_18 : decode cX1_updateChains 18 = .ok (.iload_n 2, 1) := by decide +kernel
theorem dX1_updateChains_19 : decode cX1_updateChains 19 = .ok (.invokevirtual 44, 3) := by decide +kernel
theorem dX1_updateChains_22 : decode cX1_updateChains 22 = .ok (.ifCond .ne 28, 3) := by decide +kernel
theorem dX1_updateChains_25 : decode cX1_updateChains 25 = .ok (.aload_n 0, 1) := by decide +kernel
theorem dX1_updateChains_26 : decode cX1_updateChains 26 = .ok (.getfield 30, 3) := by decide +kernel
theorem dX1_updateChains_29 : decode cX1_updateChains 29 = .ok (.aload_n 0, 1) := by decide +kernel
theorem dX1_updateChains_30 : decode cX1_updateChains 30 = .ok (.getfield 11, 3) := by decide +kernel
theorem dX1_updateChains_33 : decode cX1_updateChains 33 = .ok (.iload_n 2, 1) := by decide +kernel
theorem dX1_updateChains_34 : decode cX1_updateChains 34 = .ok (.iaload, 1) := by decide +kernel
theorem dX1_updateChains_35 : decode cX1_updateChains 35 = .ok (.iaload, 1) := by decide +kernel
theorem dX1_updateChains_36 : decode cX1_updateChains 36 = .ok (.istore_n 3, 1) := by decide +kernel
theorem dX1_updateChains_37 : decode cX1_updateChains 37 = .ok (.aload_n 0, 1) := by decide +kernel
theorem dX1_updateChains_38 : decode cX1_updateChains 38 = .ok (.getfield 33, 3) := by decide +kernel
theorem dX1_updateChains_41 : decode cX1_updateChains 41 = .ok (.aload_n 0, 1) := by decide +kernel
theorem dX1_updateChains_42 : decode cX1_updateChains 42 = .ok (.getfield 11, 3) := by decide +kernel
theorem dX1_updateChains_45 : decode cX1_updateChains 45 = .ok (.iload_n 2, 1) := by decide +kernel
theorem dX1_updateChains_46 : decode cX1_updateChains 46 = .ok (.iaload, 1) := by decide +kernel
theorem dX1_updateChains_47 : decode cX1_updateChains 47 = .ok (.iaload, 1) := by decide +kernel
theorem dX1_updateChains_48 : decode cX1_updateChains 48 = .ok (.istore 4, 2) := by decide +kernel
theorem dX1_updateChains_50 : decode cX1_updateChains 50 = .ok (.aload_n 0, 1) := by decide +kernel
theorem dX1_updateChains_51 : decode cX1_updateChains 51 = .ok (.getfield 15, 3) := by decide +kernel
theorem dX1_updateChains_54 : decode cX1_updateChains 54 = .ok (.iload_n 2, 1) := by decide +kernel
theorem dX1_updateChains_55 : decode cX1_updateChains 55 = .ok (.iaload, 1) := by decide +kernel
theorem dX1_updateChains_56 : decode cX1_updateChains 56 = .ok (.iconst (-1), 1) := by decide +kernel
theorem dX1_updateChains_57 : decode cX1_updateChains 57 = .ok (.if_icmp .eq 35, 3) := by decide +kernel
theorem dX1_updateChains_60 : decode cX1_updateChains 60 = .ok (.iload_n 3, 1) := by decide +kernel
theorem dX1_updateChains_61 : decode cX1_updateChains 61 = .ok (.aload_n 0, 1) := by decide +kernel
theorem dX1_updateChains_62 : decode cX1_updateChains 62 = .ok (.getfield 30, 3) := by decide +kernel
theorem dX1_updateChains_65 : decode cX1_updateChains 65 = .ok (.aload_n 0, 1) := by decide +kernel
theorem dX1_updateChains_66 : decode cX1_updateChains 66 = .ok (.getfield 15, 3) := by decide +kernel
theorem dX1_updateChains_69 : decode cX1_updateChains 69 = .ok (.iload_n 2, 1) := by decide +kernel
theorem dX1_updateChains_70 : decode cX1_updateChains 70 = .ok (.iaload, 1) := by decide +kernel
theorem dX1_updateChains_71 : decode cX1_updateChains 71 = .ok (.iaload, 1) := by decide +kernel
theorem dX1_updateChains_72 : decode cX1_updateChains 72 = .ok (.invokestatic 48, 3) := by decide +kernel
theorem dX1_updateChains_75 : decode cX1_updateChains 75 = .ok (.istore_n 3, 1) := by decide +kernel
theorem dX1_updateChains_76 : decode cX1_updateChains 76 = .ok (.iload 4, 2) := by decide +kernel
theorem dX1_updateChains_78 : decode cX1_updateChains 78 = .ok (.aload_n 0, 1) := by decide +kernel
theorem dX1_updateChains_79 : decode cX1_updateChains 79 = .ok (.getfield 33, 3) := by decide +kernel
theorem dX1_updateChains_82 : decode cX1_updateChains 82 = .ok (.aload_n 0, 1) := by decide +kernel
theorem dX1_updateChains_83 : decode cX1_updateChains 83 = .ok (.getfield 15, 3) := by decide +kernel
theorem dX1_updateChains_86 : decode cX1_updateChains 86 = .ok (.iload_n 2, 1) := by decide +kernel
theorem dX1_updateChains_87 : decode cX1_updateChains 87 = .ok (.iaload, 1) := by decide +kernel
theorem dX1_updateChains_88 : decode cX1_updateChains 88 = .ok (.iaload, 1) := by decide +kernel
theorem dX1_updateChains_89 : decode cX1_updateChains 89 = .ok (.iadd, 1) := by decide +kernel
theorem dX1_updateChains_90 : decode cX1_updateChains 90 = .ok (.istore 4, 2) := by decide +kernel
theorem dX1_updateChains_92 : decode cX1_updateChains 92 = .ok (.aload_n 0, 1) := by decide +kernel
theorem dX1_updateChains_93 : decode cX1_updateChains 93 = .ok (.getfield 30, 3) := by decide +kernel
theorem dX1_updateChains_96 : decode cX1_updateChains 96 = .ok (.iload_n 2, 1) := by decide +kernel
theorem dX1_updateChains_97 : decode cX1_updateChains 97 = .ok (.iload_n 3, 1) := by decide +kernel
theorem dX1_updateChains_98 : decode cX1_updateChains 98 = .ok (.aload_n 0, 1) := by decide +kernel
theorem dX1_updateChains_99 : decode cX1_updateChains 99 = .ok (.getfield 21, 3) := by decide +kernel
theorem dX1_updateChains_102 : decode cX1_updateChains 102 = .ok (.iload_n 2, 1) := by decide +kernel
theorem dX1_updateChains_103 : decode cX1_updateChains 103 = .ok (.iaload, 1) := by decide +kernel
theorem dX1_updateChains_104 : decode cX1_updateChains 104 = .ok (.invokestatic 54, 3) := by decide +kernel
theorem dX1_updateChains_107 : decode cX1_updateChains 107 = .ok (.iastore, 1) := by decide +kernel
theorem dX1_updateChains_108 : decode cX1_updateChains 108 = .ok (.aload_n 0, 1) := by decide +kernel
theorem dX1_updateChains_109 : decode cX1_updateChains 109 = .ok (.getfield 33, 3) := by decide +kernel
theorem dX1_updateChains_112 : decode cX1_updateChains 112 = .ok (.iload_n 2, 1) := by decide +kernel
theorem dX1_updateChains_113 : decode cX1_updateChains 113 = .ok (.iload 4, 2) := by decide +kernel
theorem dX1_updateChains_115 : decode cX1_updateChains 115 = .ok (.iastore, 1) := by decide +kernel
theorem dX1_updateChains_116 : decode cX1_updateChains 116 = .ok (.iinc 2 1, 3) := by decide +kernel
theorem dX1_updateChains_119 : decode cX1_updateChains 119 = .ok (.goto (-117), 3) := by decide +kernel
theorem dX1_updateChains_122 : decode cX1_updateChains 122 = .ok (.return_, 1) := by decide +kernel
set_option maxRecDepth 20000 in
theorem ggX1_goodOn_X1_standsOn : GoodIn wsX1_goodOn wsX1_standsOn := goodIn_r _ [6, 7, 8, 9, 23, 24, 25, 26, 27, 28, 29, 30, 31] (by decide +kernel) (by decide +kernel)
set_option maxRecDepth 20000 in
theorem gX1_goodOn_X1_standsOn : GoodIn wsX1_goodOn (wsV RX1 57 RX1 yX1_standsOn wsX1_standsOn) := goodIn_app (goodIn_of _ (by decide +kernel)) ggX1_goodOn_X1_standsOn
set_option maxRecDepth 20000 in
theorem ggX1_goodOn_X1_isHeldBy : GoodIn wsX1_goodOn wsX1_isHeldBy := goodIn_r _ [13, 14, 15, 16, 17, 18, 5, 19, 20, 21, 22, 23, 24, 25, 26, 27, 28, 29, 30, 31] (by decide +kernel) (by decide +kernel)
set_option maxRecDepth 20000 in
theorem gX1_goodOn_X1_isHeldBy : GoodIn wsX1_goodOn (wsV RX1 61 RX1 yX1_isHeldBy wsX1_isHeldBy) := goodIn_app (goodIn_of _ (by decide +kernel)) ggX1_goodOn_X1_isHeldBy
theorem dX1_goodOn_0 : decode cX1_goodOn 0 = .ok (.iconst 0, 1) := by decide +kernel
theorem dX1_goodOn_1 : decode cX1_goodOn 1 = .ok (.istore_n 3, 1) := by decide +kernel
theorem dX1_goodOn_2 : decode cX1_goodOn 2 = .ok (.iconst 0, 1) := by decide +kernel
theorem dX1_goodOn_3 : decode cX1_goodOn 3 = .ok (.istore 4, 2) := by decide +kernel
theorem dX1_goodOn_5 : decode cX1_goodOn 5 = .ok (.iload 4, 2) := by decide +kernel
theorem dX1_goodOn_7 : decode cX1_goodOn 7 = .ok (.aload_n 0, 1) := by decide +kernel
theorem dX1_goodOn_8 : decode cX1_goodOn 8 = .ok (.getfield 36, 3) := by decide +kernel
theorem dX1_goodOn_11 : decode cX1_goodOn 11 = .ok (.if_icmp .ge 42, 3) := by decide +kernel
theorem dX1_goodOn_14 : decode cX1_goodOn 14 = .ok (.iload 4, 2) := by decide +kernel
theorem dX1_goodOn_16 : decode cX1_goodOn 16 = .ok (.iload_n 2, 1) := by decide +kernel
theorem dX1_goodOn_17 : decode cX1_goodOn 17 = .ok (.if_icmp .eq 30, 3) := by decide +kernel
theorem dX1_goodOn_20 : decode cX1_goodOn 20 = .ok (.aload_n 0, 1) := by decide +kernel
theorem dX1_goodOn_21 : decode cX1_goodOn 21 = .ok (.iload 4, 2) := by decide +kernel
theorem dX1_goodOn_23 : decode cX1_goodOn 23 = .ok (.iload_n 1, 1) := by decide +kernel
theorem dX1_goodOn_24 : decode cX1_goodOn 24 = .ok (.invokevirtual 57, 3) := by decide +kernel
theorem dX1_goodOn_27 : decode cX1_goodOn 27 = .ok (.ifCond .eq 20, 3) := by decide +kernel
theorem dX1_goodOn_30 : decode cX1_goodOn 30 = .ok (.aload_n 0, 1) := by decide +kernel
theorem dX1_goodOn_31 : decode cX1_goodOn 31 = .ok (.iload 4, 2) := by decide +kernel
theorem dX1_goodOn_33 : decode cX1_goodOn 33 = .ok (.iload_n 3, 1) := by decide +kernel
theorem dX1_goodOn_34 : decode cX1_goodOn 34 = .ok (.invokevirtual 61, 3) := by decide +kernel
theorem dX1_goodOn_37 : decode cX1_goodOn 37 = .ok (.ifCond .eq 10, 3) := by decide +kernel
theorem dX1_goodOn_40 : decode cX1_goodOn 40 = .ok (.iload_n 3, 1) := by decide +kernel
theorem dX1_goodOn_41 : decode cX1_goodOn 41 = .ok (.iconst 1, 1) := by decide +kernel
theorem dX1_goodOn_42 : decode cX1_goodOn 42 = .ok (.iload 4, 2) := by decide +kernel
theorem dX1_goodOn_44 : decode cX1_goodOn 44 = .ok (.ishl, 1) := by decide +kernel
theorem dX1_goodOn_45 : decode cX1_goodOn 45 = .ok (.ior, 1) := by decide +kernel
theorem dX1_goodOn_46 : decode cX1_goodOn 46 = .ok (.istore_n 3, 1) := by decide +kernel
theorem dX1_goodOn_47 : decode cX1_goodOn 47 = .ok (.iinc 4 1, 3) := by decide +kernel
theorem dX1_goodOn_50 : decode cX1_goodOn 50 = .ok (.goto (-45), 3) := by decide +kernel
theorem dX1_goodOn_53 : decode cX1_goodOn 53 = .ok (.iload_n 3, 1) := by decide +kernel
theorem dX1_goodOn_54 : decode cX1_goodOn 54 = .ok (.ireturn, 1) := by decide +kernel
theorem dX1_standsOn_0 : decode cX1_standsOn 0 = .ok (.aload_n 0, 1) := by decide +kernel
theorem dX1_standsOn_1 : decode cX1_standsOn 1 = .ok (.getfield 27, 3) := by decide +kernel
theorem dX1_standsOn_4 : decode cX1_standsOn 4 = .ok (.iload_n 1, 1) := by decide +kernel
theorem dX1_standsOn_5 : decode cX1_standsOn 5 = .ok (.iaload, 1) := by decide +kernel
theorem dX1_standsOn_6 : decode cX1_standsOn 6 = .ok (.iconst (-1), 1) := by decide +kernel
theorem dX1_standsOn_7 : decode cX1_standsOn 7 = .ok (.if_icmp .eq 13, 3) := by decide +kernel
theorem dX1_standsOn_10 : decode cX1_standsOn 10 = .ok (.iload_n 2, 1) := by decide +kernel
theorem dX1_standsOn_11 : decode cX1_standsOn 11 = .ok (.aload_n 0, 1) := by decide +kernel
theorem dX1_standsOn_12 : decode cX1_standsOn 12 = .ok (.getfield 27, 3) := by decide +kernel
theorem dX1_standsOn_15 : decode cX1_standsOn 15 = .ok (.iload_n 1, 1) := by decide +kernel
theorem dX1_standsOn_16 : decode cX1_standsOn 16 = .ok (.iaload, 1) := by decide +kernel
theorem dX1_standsOn_17 : decode cX1_standsOn 17 = .ok (.if_icmp .ge 7, 3) := by decide +kernel
theorem dX1_standsOn_20 : decode cX1_standsOn 20 = .ok (.iconst 1, 1) := by decide +kernel
theorem dX1_standsOn_21 : decode cX1_standsOn 21 = .ok (.goto 4, 3) := by decide +kernel
theorem dX1_standsOn_24 : decode cX1_standsOn 24 = .ok (.iconst 0, 1) := by decide +kernel
theorem dX1_standsOn_25 : decode cX1_standsOn 25 = .ok (.istore_n 3, 1) := by decide +kernel
theorem dX1_standsOn_26 : decode cX1_standsOn 26 = .ok (.iload_n 3, 1) := by decide +kernel
theorem dX1_standsOn_27 : decode cX1_standsOn 27 = .ok (.ifCond .eq 27, 3) := by decide +kernel
theorem dX1_standsOn_30 : decode cX1_standsOn 30 = .ok (.aload_n 0, 1) := by decide +kernel
theorem dX1_standsOn_31 : decode cX1_standsOn 31 = .ok (.getfield 18, 3) := by decide +kernel
theorem dX1_standsOn_34 : decode cX1_standsOn 34 = .ok (.iload_n 1, 1) := by decide +kernel
theorem dX1_standsOn_35 : decode cX1_standsOn 35 = .ok (.iaload, 1) := by decide +kernel
theorem dX1_standsOn_36 : decode cX1_standsOn 36 = .ok (.iload_n 2, 1) := by decide +kernel
theorem dX1_standsOn_37 : decode cX1_standsOn 37 = .ok (.if_icmp .gt 17, 3) := by decide +kernel
theorem dX1_standsOn_40 : decode cX1_standsOn 40 = .ok (.iload_n 2, 1) := by decide +kernel
theorem dX1_standsOn_41 : decode cX1_standsOn 41 = .ok (.aload_n 0, 1) := by decide +kernel
theorem dX1_standsOn_42 : decode cX1_standsOn 42 = .ok (.getfield 21, 3) := by decide +kernel
theorem dX1_standsOn_45 : decode cX1_standsOn 45 = .ok (.iload_n 1, 1) := by decide +kernel
theorem dX1_standsOn_46 : decode cX1_standsOn 46 = .ok (.iaload, 1) := by decide +kernel
theorem dX1_standsOn_47 : decode cX1_standsOn 47 = .ok (.if_icmp .gt 7, 3) := by decide +kernel
theorem dX1_standsOn_50 : decode cX1_standsOn 50 = .ok (.iconst 1, 1) := by decide +kernel
theorem dX1_standsOn_51 : decode cX1_standsOn 51 = .ok (.goto 4, 3) := by decide +kernel
theorem dX1_standsOn_54 : decode cX1_standsOn 54 = .ok (.iconst 0, 1) := by decide +kernel
theorem dX1_standsOn_55 : decode cX1_standsOn 55 = .ok (.ireturn, 1) := by decide +kernel
set_option maxRecDepth 20000 in
theorem ggX1_isHeldBy_X1_isRoot : GoodIn wsX1_isHeldBy wsX1_isRoot := goodIn_r _ [7, 1, 11, 12, 13, 14, 15, 16, 17, 18, 19] (by decide +kernel) (by decide +kernel)
set_option maxRecDepth 20000 in
theorem gX1_isHeldBy_X1_isRoot : GoodIn wsX1_isHeldBy (wsV RX1 44 RX1 yX1_isRoot wsX1_isRoot) := goodIn_app (goodIn_of _ (by decide +kernel)) ggX1_isHeldBy_X1_isRoot
set_option maxRecDepth 20000 in
theorem ggX1_isHeldBy_X2_contains : GoodIn wsX1_isHeldBy wsX2_contains := goodIn_r _ [10] (by decide +kernel) (by decide +kernel)
set_option maxRecDepth 20000 in
theorem gX1_isHeldBy_X2_contains_n64 : GoodIn wsX1_isHeldBy (wsX2_contains) := ggX1_isHeldBy_X2_contains
theorem dX1_isHeldBy_0 : decode cX1_isHeldBy 0 = .ok (.aload_n 0, 1) := by decide +kernel
theorem dX1_isHeldBy_1 : decode cX1_isHeldBy 1 = .ok (.iload_n 1, 1) := by decide +kernel
theorem dX1_isHeldBy_2 : decode cX1_isHeldBy 2 = .ok (.invokevirtual 44, 3) := by decide +kernel
theorem dX1_isHeldBy_5 : decode cX1_isHeldBy 5 = .ok (.ifCond .ne 39, 3) := by decide +kernel
theorem dX1_isHeldBy_8 : decode cX1_isHeldBy 8 = .ok (.iload_n 2, 1) := by decide +kernel
theorem dX1_isHeldBy_9 : decode cX1_isHeldBy 9 = .ok (.aload_n 0, 1) := by decide +kernel
theorem dX1_isHeldBy_10 : decode cX1_isHeldBy 10 = .ok (.getfield 11, 3) := by decide +kernel
theorem dX1_isHeldBy_13 : decode cX1_isHeldBy 13 = .ok (.iload_n 1, 1) := by decide +kernel
theorem dX1_isHeldBy_14 : decode cX1_isHeldBy 14 = .ok (.iaload, 1) := by decide +kernel
theorem dX1_isHeldBy_15 : decode cX1_isHeldBy 15 = .ok (.invokestatic 64, 3) := by decide +kernel
theorem dX1_isHeldBy_18 : decode cX1_isHeldBy 18 = .ok (.ifCond .ne 26, 3) := by decide +kernel
theorem dX1_isHeldBy_21 : decode cX1_isHeldBy 21 = .ok (.aload_n 0, 1) := by decide +kernel
theorem dX1_isHeldBy_22 : decode cX1_isHeldBy 22 = .ok (.getfield 15, 3) := by decide +kernel
theorem dX1_isHeldBy_25 : decode cX1_isHeldBy 25 = .ok (.iload_n 1, 1) := by decide +kernel
theorem dX1_isHeldBy_26 : decode cX1_isHeldBy 26 = .ok (.iaload, 1) := by decide +kernel
theorem dX1_isHeldBy_27 : decode cX1_isHeldBy 27 = .ok (.iconst (-1), 1) := by decide +kernel
theorem dX1_isHeldBy_28 : decode cX1_isHeldBy 28 = .ok (.if_icmp .eq 20, 3) := by decide +kernel
theorem dX1_isHeldBy_31 : decode cX1_isHeldBy 31 = .ok (.iload_n 2, 1) := by decide +kernel
theorem dX1_isHeldBy_32 : decode cX1_isHeldBy 32 = .ok (.aload_n 0, 1) := by decide +kernel
theorem dX1_isHeldBy_33 : decode cX1_isHeldBy 33 = .ok (.getfield 15, 3) := by decide +kernel
theorem dX1_isHeldBy_36 : decode cX1_isHeldBy 36 = .ok (.iload_n 1, 1) := by decide +kernel
theorem dX1_isHeldBy_37 : decode cX1_isHeldBy 37 = .ok (.iaload, 1) := by decide +kernel
theorem dX1_isHeldBy_38 : decode cX1_isHeldBy 38 = .ok (.invokestatic 64, 3) := by decide +kernel
theorem dX1_isHeldBy_41 : decode cX1_isHeldBy 41 = .ok (.ifCond .eq 7, 3) := by decide +kernel
theorem dX1_isHeldBy_44 : decode cX1_isHeldBy 44 = .ok (.iconst 1, 1) := by decide +kernel
theorem dX1_isHeldBy_45 : decode cX1_isHeldBy 45 = .ok (.goto 4, 3) := by decide +kernel
theorem dX1_isHeldBy_48 : decode cX1_isHeldBy 48 = .ok (.iconst 0, 1) := by decide +kernel
theorem dX1_isHeldBy_49 : decode cX1_isHeldBy 49 = .ok (.ireturn, 1) := by decide +kernel
set_option maxRecDepth 20000 in
theorem ggX2_init_X1_init : GoodIn wsX2_init wsX1_init := goodIn_r _ [17, 18, 2, 3, 12, 19, 20, 21, 22, 23, 24, 25, 26, 27, 39, 40, 41, 42, 43, 44, 45, 46, 47] (by decide +kernel) (by decide +kernel)
set_option maxRecDepth 20000 in
theorem gX2_init_X1_init_n9 : GoodIn wsX2_init (wsX1_init) := ggX2_init_X1_init
set_option maxRecDepth 20000 in
theorem ggX2_init_X0_init : GoodIn wsX2_init wsX0_init := goodIn_r _ [29, 30, 2, 3, 12, 31, 32, 33, 34, 35, 36, 37, 38, 53, 54, 55, 56, 57, 58, 59, 60] (by decide +kernel) (by decide +kernel)
set_option maxRecDepth 20000 in
theorem gX2_init_X0_init_n18 : GoodIn wsX2_init (wsX0_init) := ggX2_init_X0_init
theorem dX2_init_0 : decode cX2_init 0 = .ok (.aload_n 0, 1) := by decide +kernel
theorem dX2_init_1 : decode cX2_init 1 = .ok (.invokespecial 1, 3) := by decide +kernel
theorem dX2_init_4 : decode cX2_init 4 = .ok (.aload_n 0, 1) := by decide +kernel
theorem dX2_init_5 : decode cX2_init 5 = .ok (.new 7, 3) := by decide +kernel
theorem dX2_init_8 : decode cX2_init 8 = .ok (.dup, 1) := by decide +kernel
theorem dX2_init_9 : decode cX2_init 9 = .ok (.invokespecial 9, 3) := by decide +kernel
theorem dX2_init_12 : decode cX2_init 12 = .ok (.putfield 10, 3) := by decide +kernel
theorem dX2_init_15 : decode cX2_init 15 = .ok (.aload_n 0, 1) := by decide +kernel
theorem dX2_init_16 : decode cX2_init 16 = .ok (.new 16, 3) := by decide +kernel
theorem dX2_init_19 : decode cX2_init 19 = .ok (.dup, 1) := by decide +kernel
theorem dX2_init_20 : decode cX2_init 20 = .ok (.invokespecial 18, 3) := by decide +kernel
theorem dX2_init_23 : decode cX2_init 23 = .ok (.putfield 19, 3) := by decide +kernel
theorem dX2_init_26 : decode cX2_init 26 = .ok (.aload_n 0, 1) := by decide +kernel
theorem dX2_init_27 : decode cX2_init 27 = .ok (.bipush 16, 2) := by decide +kernel
theorem dX2_init_29 : decode cX2_init 29 = .ok (.newarray .int, 2) := by decide +kernel
theorem dX2_init_31 : decode cX2_init 31 = .ok (.putfield 23, 3) := by decide +kernel
theorem dX2_init_34 : decode cX2_init 34 = .ok (.aload_n 0, 1) := by decide +kernel
theorem dX2_init_35 : decode cX2_init 35 = .ok (.iconst 1, 1) := by decide +kernel
theorem dX2_init_36 : decode cX2_init 36 = .ok (.putfield 27, 3) := by decide +kernel
theorem dX2_init_39 : decode cX2_init 39 = .ok (.aload_n 0, 1) := by decide +kernel
theorem dX2_init_40 : decode cX2_init 40 = .ok (.iconst 0, 1) := by decide +kernel
theorem dX2_init_41 : decode cX2_init 41 = .ok (.putfield 31, 3) := by decide +kernel
theorem dX2_init_44 : decode cX2_init 44 = .ok (.return_, 1) := by decide +kernel
set_option maxRecDepth 20000 in
theorem ggX2_addIssuer_X2_checkIssuer : GoodIn wsX2_addIssuer wsX2_checkIssuer := goodIn_ca (goodIn_r _ [10, 11, 12, 5, 13, 50, 51, 52, 53, 54, 55, 56, 57, 58, 59, 60, 61, 62, 63] (by decide +kernel) (by decide +kernel)) (goodIn_sub (fun _ h => List.mem_cons_of_mem _ (List.mem_append_right _ h)) (by decide +kernel))
set_option maxRecDepth 20000 in
theorem gX2_addIssuer_X2_checkIssuer : GoodIn wsX2_addIssuer (wsV RX2 34 RX2 yX2_checkIssuer wsX2_checkIssuer) := goodIn_app (goodIn_of _ (by decide +kernel)) ggX2_addIssuer_X2_checkIssuer
set_option maxRecDepth 20000 in
theorem ggX2_addIssuer_X2_checkDay : GoodIn wsX2_addIssuer wsX2_checkDay := goodIn_ca (goodIn_r _ [16, 1, 2] (by decide +kernel) (by decide +kernel)) (goodIn_sub (fun _ h => List.mem_cons_of_mem _ (List.mem_append_left _ (List.mem_append_left _ (List.mem_append_right _ h)))) (by decide +kernel))
set_option maxRecDepth 20000 in
theorem gX2_addIssuer_X2_checkDay : GoodIn wsX2_addIssuer (va_wsS RX2 38 yX2_checkDay wsX2_checkDay) := goodIn_app (goodIn_of _ (by decide +kernel)) ggX2_addIssuer_X2_checkDay
set_option maxRecDepth 20000 in
theorem ggX2_addIssuer_X1_isFull : GoodIn wsX2_addIssuer wsX1_isFull := goodIn_r _ [21, 22, 55, 56, 57, 58, 59, 60, 61, 62, 63] (by decide +kernel) (by decide +kernel)
set_option maxRecDepth 20000 in
theorem gX2_addIssuer_X1_isFull : GoodIn wsX2_addIssuer (wsV RX2 50 RX1 yX1_isFull wsX1_isFull) := goodIn_app (goodIn_of _ (by decide +kernel)) ggX2_addIssuer_X1_isFull
set_option maxRecDepth 20000 in
theorem ggX2_addIssuer_X1_append : GoodIn wsX2_addIssuer wsX1_append := goodIn_r _ [26, 22, 27, 28, 29, 30, 31, 32, 33, 34, 35, 20, 36, 37, 38, 39, 40, 41, 42, 43, 44, 45, 46, 47, 48, 49, 55, 56, 57, 58, 59, 60, 61, 62, 63] (by decide +kernel) (by decide +kernel)
set_option maxRecDepth 20000 in
theorem gX2_addIssuer_X1_append : GoodIn wsX2_addIssuer (wsV RX2 59 RX1 yX1_append wsX1_append) := goodIn_app (goodIn_of _ (by decide +kernel)) ggX2_addIssuer_X1_append
theorem dX2_addIssuer_0 : decode cX2_addIssuer 0 = .ok (.iload_n 1, 1) := by decide +kernel
theorem dX2_addIssuer_1 : decode cX2_addIssuer 1 = .ok (.iconst (-1), 1) := by decide +kernel
theorem dX2_addIssuer_2 : decode cX2_addIssuer 2 = .ok (.if_icmp .eq 8, 3) := by decide +kernel
theorem dX2_addIssuer_5 : decode cX2_addIssuer 5 = .ok (.aload_n 0, 1) := by decide +kernel
theorem dX2_addIssuer_6 : decode cX2_addIssuer 6 = .ok (.iload_n 1, 1) := by decide +kernel
theorem dX2_addIssuer_7 : decode cX2_addIssuer 7 = .ok (.invokevirtual 34, 3) := by decide +kernel
theorem dX2_addIssuer_10 : decode cX2_addIssuer 10 = .ok (.iload_n 2, 1) := by decide +kernel
theorem dX2_addIssuer_11 : decode cX2_addIssuer 11 = .ok (.invokestatic 38, 3) := by decide +kernel
theorem dX2_addIssuer_14 : decode cX2_addIssuer 14 = .ok (.iload_n 3, 1) := by decide +kernel
theorem dX2_addIssuer_15 : decode cX2_addIssuer 15 = .ok (.invokestatic 38, 3) := by decide +kernel
theorem dX2_addIssuer_18 : decode cX2_addIssuer 18 = .ok (.iload_n 3, 1) := by decide +kernel
theorem dX2_addIssuer_19 : decode cX2_addIssuer 19 = .ok (.iload_n 2, 1) := by decide +kernel
theorem dX2_addIssuer_20 : decode cX2_addIssuer 20 = .ok (.if_icmp .ge 13, 3) := by decide +kernel
theorem dX2_addIssuer_23 : decode cX2_addIssuer 23 = .ok (.new 41, 3) := by decide +kernel
theorem dX2_addIssuer_26 : decode cX2_addIssuer 26 = .ok (.dup, 1) := by decide +kernel
theorem dX2_addIssuer_27 : decode cX2_addIssuer 27 = .ok (.ldc 43, 2) := by decide +kernel
theorem dX2_addIssuer_29 : decode cX2_addIssuer 29 = .ok (.invokespecial 45, 3) := by decide +kernel
theorem dX2_addIssuer_32 : decode cX2_addIssuer 32 = .ok (.athrow, 1) := by decide +kernel
theorem dX2_addIssuer_33 : decode cX2_addIssuer 33 = .ok (.iload 4, 2) := by decide +kernel
theorem dX2_addIssuer_35 : decode cX2_addIssuer 35 = .ok (.ifCond .lt 10, 3) := by decide +kernel
theorem dX2_addIssuer_38 : decode cX2_addIssuer 38 = .ok (.iload 4, 2) := by decide +kernel
theorem dX2_addIssuer_40 : decode cX2_addIssuer 40 = .ok (.bipush 50, 2) := by decide +kernel
theorem dX2_addIssuer_42 : decode cX2_addIssuer 42 = .ok (.if_icmp .le 13, 3) := by decide +kernel
theorem dX2_addIssuer_45 : decode cX2_addIssuer 45 = .ok (.new 41, 3) := by decide +kernel
theorem dX2_addIssuer_48 : decode cX2_addIssuer 48 = .ok (.dup, 1) := by decide +kernel
theorem dX2_addIssuer_49 : decode cX2_addIssuer 49 = .ok (.ldc 48, 2) := by decide +kernel
theorem dX2_addIssuer_51 : decode cX2_addIssuer 51 = .ok (.invokespecial 45, 3) := by decide +kernel
theorem dX2_addIssuer_54 : decode cX2_addIssuer 54 = .ok (.athrow, 1) := by decide +kernel
theorem dX2_addIssuer_55 : decode cX2_addIssuer 55 = .ok (.aload_n 0, 1) := by decide +kernel
theorem dX2_addIssuer_56 : decode cX2_addIssuer 56 = .ok (.getfield 10, 3) := by decide +kernel
theorem dX2_addIssuer_59 : decode cX2_addIssuer 59 = .ok (.invokevirtual 50, 3) := by decide +kernel
theorem dX2_addIssuer_62 : decode cX2_addIssuer 62 = .ok (.ifCond .eq 13, 3) := by decide +kernel
theorem dX2_addIssuer_65 : decode cX2_addIssuer 65 = .ok (.new 54, 3) := by decide +kernel
theorem dX2_addIssuer_68 : decode cX2_addIssuer 68 = .ok (.dup, 1) := by decide +kernel
theorem dX2_addIssuer_69 : decode cX2_addIssuer 69 = .ok (.ldc 56, 2) := by decide +kernel
theorem dX2_addIssuer_71 : decode cX2_addIssuer 71 = .ok (.invokespecial 58, 3) := by decide +kernel
theorem dX2_addIssuer_74 : decode cX2_addIssuer 74 = .ok (.athrow, 1) := by decide +kernel
theorem dX2_addIssuer_75 : decode cX2_addIssuer 75 = .ok (.aload_n 0, 1) := by decide +kernel
theorem dX2_addIssuer_76 : decode cX2_addIssuer 76 = .ok (.getfield 10, 3) := by decide +kernel
theorem dX2_addIssuer_79 : decode cX2_addIssuer 79 = .ok (.iload_n 1, 1) := by decide +kernel
theorem dX2_addIssuer_80 : decode cX2_addIssuer 80 = .ok (.iload_n 2, 1) := by decide +kernel
theorem dX2_addIssuer_81 : decode cX2_addIssuer 81 = .ok (.iload_n 3, 1) := by decide +kernel
theorem dX2_addIssuer_82 : decode cX2_addIssuer 82 = .ok (.iload 4, 2) := by decide +kernel
theorem dX2_addIssuer_84 : decode cX2_addIssuer 84 = .ok (.invokevirtual 59, 3) := by decide +kernel
theorem dX2_addIssuer_87 : decode cX2_addIssuer 87 = .ok (.ireturn, 1) := by decide +kernel
set_option maxRecDepth 20000 in
theorem ggX2_distrust_X2_checkIssuer : GoodIn wsX2_distrust wsX2_checkIssuer := goodIn_ca (goodIn_r _ [7, 8, 9, 1, 10, 16, 17, 18, 19, 20, 21, 22, 23, 24, 25, 26, 27, 28, 29] (by decide +kernel) (by decide +kernel)) (goodIn_sub (fun _ h => List.mem_cons_of_mem _ (List.mem_append_left _ (List.mem_append_right _ h))) (by decide +kernel))
set_option maxRecDepth 20000 in
theorem gX2_distrust_X2_checkIssuer : GoodIn wsX2_distrust (wsV RX2 34 RX2 yX2_checkIssuer wsX2_checkIssuer) := goodIn_app (goodIn_of _ (by decide +kernel)) ggX2_distrust_X2_checkIssuer
set_option maxRecDepth 20000 in
theorem ggX2_distrust_X2_checkDay : GoodIn wsX2_distrust wsX2_checkDay := goodIn_ca (goodIn_r _ [13, 14, 15] (by decide +kernel) (by decide +kernel)) (goodIn_sub (fun _ h => List.mem_cons_of_mem _ (List.mem_append_right _ h)) (by decide +kernel))
set_option maxRecDepth 20000 in
theorem gX2_distrust_X2_checkDay : GoodIn wsX2_distrust (va_wsS RX2 38 yX2_checkDay wsX2_checkDay) := goodIn_app (goodIn_of _ (by decide +kernel)) ggX2_distrust_X2_checkDay
theorem dX2_distrust_0 : decode cX2_distrust 0 = .ok (.aload_n 0, 1) := by decide +kernel
theorem dX2_distrust_1 : decode cX2_distrust 1 = .ok (.iload_n 1, 1) := by decide +kernel
theorem dX2_distrust_2 : decode cX2_distrust 2 = .ok (.invokevirtual 34, 3) := by decide +kernel
theorem dX2_distrust_5 : decode cX2_distrust 5 = .ok (.iload_n 2, 1) := by decide +kernel
theorem dX2_distrust_6 : decode cX2_distrust 6 = .ok (.iconst (-1), 1) := by decide +kernel
theorem dX2_distrust_7 : decode cX2_distrust 7 = .ok (.if_icmp .eq 7, 3) := by decide +kernel
theorem dX2_distrust_10 : decode cX2_distrust 10 = .ok (.iload_n 2, 1) := by decide +kernel
theorem dX2_distrust_11 : decode cX2_distrust 11 = .ok (.invokestatic 38, 3) := by decide +kernel
theorem dX2_distrust_14 : decode cX2_distrust 14 = .ok (.aload_n 0, 1) := by decide +kernel
theorem dX2_distrust_15 : decode cX2_distrust 15 = .ok (.getfield 10, 3) := by decide +kernel
theorem dX2_distrust_18 : decode cX2_distrust 18 = .ok (.getfield 78, 3) := by decide +kernel
theorem dX2_distrust_21 : decode cX2_distrust 21 = .ok (.iload_n 1, 1) := by decide +kernel
theorem dX2_distrust_22 : decode cX2_distrust 22 = .ok (.iaload, 1) := by decide +kernel
theorem dX2_distrust_23 : decode cX2_distrust 23 = .ok (.istore_n 3, 1) := by decide +kernel
theorem dX2_distrust_24 : decode cX2_distrust 24 = .ok (.aload_n 0, 1) := by decide +kernel
theorem dX2_distrust_25 : decode cX2_distrust 25 = .ok (.getfield 10, 3) := by decide +kernel
theorem dX2_distrust_28 : decode cX2_distrust 28 = .ok (.getfield 78, 3) := by decide +kernel
theorem dX2_distrust_31 : decode cX2_distrust 31 = .ok (.iload_n 1, 1) := by decide +kernel
theorem dX2_distrust_32 : decode cX2_distrust 32 = .ok (.iload_n 2, 1) := by decide +kernel
theorem dX2_distrust_33 : decode cX2_distrust 33 = .ok (.iastore, 1) := by decide +kernel
theorem dX2_distrust_34 : decode cX2_distrust 34 = .ok (.iload_n 3, 1) := by decide +kernel
theorem dX2_distrust_35 : decode cX2_distrust 35 = .ok (.ireturn, 1) := by decide +kernel
theorem dX2_setSeed_0 : decode cX2_setSeed 0 = .ok (.aload_n 0, 1) := by decide +kernel
theorem dX2_setSeed_1 : decode cX2_setSeed 1 = .ok (.iload_n 1, 1) := by decide +kernel
theorem dX2_setSeed_2 : decode cX2_setSeed 2 = .ok (.putfield 27, 3) := by decide +kernel
theorem dX2_setSeed_5 : decode cX2_setSeed 5 = .ok (.return_, 1) := by decide +kernel
set_option maxRecDepth 20000 in
theorem ggX2_issue_X2_checkIssuer : GoodIn wsX2_issue wsX2_checkIssuer := goodIn_ca (goodIn_r _ [9, 10, 11, 12, 13, 92, 93, 94, 95, 96, 97, 98, 99, 100, 101, 102, 103, 104, 105] (by decide +kernel) (by decide +kernel)) (goodIn_sub (fun _ h => List.mem_cons_of_mem _ (List.mem_append_right _ h)) (by decide +kernel))
set_option maxRecDepth 20000 in
theorem gX2_issue_X2_checkIssuer : GoodIn wsX2_issue (wsV RX2 34 RX2 yX2_checkIssuer wsX2_checkIssuer) := goodIn_app (goodIn_of _ (by decide +kernel)) ggX2_issue_X2_checkIssuer
set_option maxRecDepth 20000 in
theorem ggX2_issue_X2_canIssue : GoodIn wsX2_issue wsX2_canIssue := goodIn_r _ [17, 18, 12, 19, 20, 21, 22, 23, 24, 25, 26, 27, 28, 8, 29, 30, 31, 32, 33, 34, 35, 36, 37, 38, 39, 40, 41, 42, 43, 44, 45, 46, 47, 48, 49, 50, 51, 52, 53, 54, 55, 56, 57, 58, 59, 60, 61, 62, 63, 64, 65, 66, 67, 68, 69, 70, 71, 72, 73, 92, 93, 94, 95, 96, 106, 107, 108, 109, 110, 111, 112, 113, 97, 98, 99, 100, 101, 102, 103, 104, 105] (by decide +kernel) (by decide +kernel)
set_option maxRecDepth 20000 in
theorem gX2_issue_X2_canIssue : GoodIn wsX2_issue (wsV RX2 90 RX2 yX2_canIssue wsX2_canIssue) := goodIn_app (goodIn_of _ (by decide +kernel)) ggX2_issue_X2_canIssue
set_option maxRecDepth 20000 in
theorem ggX2_issue_X2_makeCertificate : GoodIn wsX2_issue wsX2_makeCertificate := goodIn_r _ [77, 18, 19, 78, 79, 80, 8, 81, 82, 83, 84, 85, 86, 23, 87, 25, 38, 88, 39, 89, 90, 91, 92, 93, 94, 95, 96, 106, 107, 108, 109, 110, 111, 112, 113] (by decide +kernel) (by decide +kernel)
set_option maxRecDepth 20000 in
theorem gX2_issue_X2_makeCertificate : GoodIn wsX2_issue (wsV RX2 95 RX2 yX2_makeCertificate wsX2_makeCertificate) := goodIn_app (goodIn_of _ (by decide +kernel)) ggX2_issue_X2_makeCertificate
theorem dX2_issue_0 : decode cX2_issue 0 = .ok (.aload_n 0, 1) := by decide +kernel
theorem dX2_issue_1 : decode cX2_issue 1 = .ok (.iload_n 1, 1) := by decide +kernel
theorem dX2_issue_2 : decode cX2_issue 2 = .ok (.invokevirtual 34, 3) := by decide +kernel
theorem dX2_issue_5 : decode cX2_issue 5 = .ok (.iload_n 2, 1) := by decide +kernel
theorem dX2_issue_6 : decode cX2_issue 6 = .ok (.ifCond .lt 9, 3) := by decide +kernel
theorem dX2_issue_9 : decode cX2_issue 9 = .ok (.iload_n 2, 1) := by decide +kernel
theorem dX2_issue_10 : decode cX2_issue 10 = .ok (.bipush 20, 2) := by decide +kernel
theorem dX2_issue_12 : decode cX2_issue 12 = .ok (.if_icmp .lt 13, 3) := by decide +kernel
theorem dX2_issue_15 : decode cX2_issue 15 = .ok (.new 41, 3) := by decide +kernel
theorem dX2_issue_18 : decode cX2_issue 18 = .ok (.dup, 1) := by decide +kernel
theorem dX2_issue_19 : decode cX2_issue 19 = .ok (.ldc 86, 2) := by decide +kernel
theorem dX2_issue_21 : decode cX2_issue 21 = .ok (.invokespecial 45, 3) := by decide +kernel
theorem dX2_issue_24 : decode cX2_issue 24 = .ok (.athrow, 1) := by decide +kernel
theorem dX2_issue_25 : decode cX2_issue 25 = .ok (.iload_n 3, 1) := by decide +kernel
theorem dX2_issue_26 : decode cX2_issue 26 = .ok (.iconst 1, 1) := by decide +kernel
theorem dX2_issue_27 : decode cX2_issue 27 = .ok (.if_icmp .lt 10, 3) := by decide +kernel
theorem dX2_issue_30 : decode cX2_issue 30 = .ok (.iload_n 3, 1) := by decide +kernel
theorem dX2_issue_31 : decode cX2_issue 31 = .ok (.sipush 400, 3) := by decide +kernel
theorem dX2_issue_34 : decode cX2_issue 34 = .ok (.if_icmp .le 13, 3) := by decide +kernel
theorem dX2_issue_37 : decode cX2_issue 37 = .ok (.new 41, 3) := by decide +kernel
theorem dX2_issue_40 : decode cX2_issue 40 = .ok (.dup, 1) := by decide +kernel
theorem dX2_issue_41 : decode cX2_issue 41 = .ok (.ldc 88, 2) := by decide +kernel
theorem dX2_issue_43 : decode cX2_issue 43 = .ok (.invokespecial 45, 3) := by decide +kernel
theorem dX2_issue_46 : decode cX2_issue 46 = .ok (.athrow, 1) := by decide +kernel
theorem dX2_issue_47 : decode cX2_issue 47 = .ok (.aload_n 0, 1) := by decide +kernel
theorem dX2_issue_48 : decode cX2_issue 48 = .ok (.iload_n 1, 1) := by decide +kernel
theorem dX2_issue_49 : decode cX2_issue 49 = .ok (.iload_n 2, 1) := by decide +kernel
theorem dX2_issue_50 : decode cX2_issue 50 = .ok (.invokevirtual 90, 3) := by decide +kernel
theorem dX2_issue_53 : decode cX2_issue 53 = .ok (.ifCond .ne 13, 3) := by decide +kernel
theorem dX2_issue_56 : decode cX2_issue 56 = .ok (.new 54, 3) := by decide +kernel
theorem dX2_issue_59 : decode cX2_issue 59 = .ok (.dup, 1) := by decide +kernel
theorem dX2_issue_60 : decode cX2_issue 60 = .ok (.ldc 93, 2) := by decide +kernel
theorem dX2_issue_62 : decode cX2_issue 62 = .ok (.invokespecial 58, 3) := by decide +kernel
theorem dX2_issue_65 : decode cX2_issue 65 = .ok (.athrow, 1) := by decide +kernel
theorem dX2_issue_66 : decode cX2_issue 66 = .ok (.aload_n 0, 1) := by decide +kernel
theorem dX2_issue_67 : decode cX2_issue 67 = .ok (.iload_n 1, 1) := by decide +kernel
theorem dX2_issue_68 : decode cX2_issue 68 = .ok (.iload_n 2, 1) := by decide +kernel
theorem dX2_issue_69 : decode cX2_issue 69 = .ok (.iload_n 3, 1) := by decide +kernel
theorem dX2_issue_70 : decode cX2_issue 70 = .ok (.invokevirtual 95, 3) := by decide +kernel
theorem dX2_issue_73 : decode cX2_issue 73 = .ok (.ireturn, 1) := by decide +kernel
set_option maxRecDepth 20000 in
theorem ggX2_pass_X2_renewDueCertificates : GoodIn wsX2_pass wsX2_renewDueCertificates := goodIn_r _ [10, 11, 5, 12, 13, 14, 15, 16, 17, 18, 19, 20, 21, 22, 23, 24, 25, 26, 27, 28, 29, 30, 31, 32, 33, 34, 35, 36, 37, 38, 39, 40, 41, 42, 43, 44, 45, 46, 9, 47, 48, 49, 50, 51, 52, 53, 54, 55, 56, 57, 58, 59, 60, 61, 62, 63, 64, 65, 66, 67, 68, 69, 70, 71, 72, 73, 74, 75, 76, 77, 78, 79, 80, 81, 82, 83, 84, 85, 86, 87, 88, 89, 90, 91, 92, 93, 94, 95, 96, 97, 98, 99, 100, 101, 102, 103, 104, 105, 106, 107, 108, 109, 110, 111, 112, 113, 114, 115, 116, 117, 118, 119, 120, 121, 122, 123, 124, 125, 126, 127, 128, 129, 130, 131, 132, 133, 134, 135, 136] (by decide +kernel) (by decide +kernel)
set_option maxRecDepth 20000 in
theorem gX2_pass_X2_renewDueCertificates : GoodIn wsX2_pass (wsV RX2 103 RX2 yX2_renewDueCertificates wsX2_renewDueCertificates) := goodIn_app (goodIn_of _ (by decide +kernel)) ggX2_pass_X2_renewDueCertificates
theorem dX2_pass_0 : decode cX2_pass 0 = .ok (.iload_n 1, 1) := by decide +kernel
theorem dX2_pass_1 : decode cX2_pass 1 = .ok (.iconst 1, 1) := by decide +kernel
theorem dX2_pass_2 : decode cX2_pass 2 = .ok (.if_icmp .lt 9, 3) := by decide +kernel
theorem dX2_pass_5 : decode cX2_pass 5 = .ok (.iload_n 1, 1) := by decide +kernel
theorem dX2_pass_6 : decode cX2_pass 6 = .ok (.bipush 100, 2) := by decide +kernel
theorem dX2_pass_8 : decode cX2_pass 8 = .ok (.if_icmp .le 13, 3) := by decide +kernel
theorem dX2_pass_11 : decode cX2_pass 11 = .ok (.new 41, 3) := by decide +kernel
theorem dX2_pass_14 : decode cX2_pass 14 = .ok (.dup, 1) := by decide +kernel
theorem dX2_pass_15 : decode cX2_pass 15 = .ok (.ldc 99, 2) := by decide +kernel
theorem dX2_pass_17 : decode cX2_pass 17 = .ok (.invokespecial 45, 3) := by decide +kernel
theorem dX2_pass_20 : decode cX2_pass 20 = .ok (.athrow, 1) := by decide +kernel
theorem dX2_pass_21 : decode cX2_pass 21 = .ok (.aload_n 0, 1) := by decide +kernel
theorem dX2_pass_22 : decode cX2_pass 22 = .ok (.getfield 31, 3) := by decide +kernel
theorem dX2_pass_25 : decode cX2_pass 25 = .ok (.iload_n 1, 1) := by decide +kernel
theorem dX2_pass_26 : decode cX2_pass 26 = .ok (.iadd, 1) := by decide +kernel
theorem dX2_pass_27 : decode cX2_pass 27 = .ok (.sipush 3000, 3) := by decide +kernel
theorem dX2_pass_30 : decode cX2_pass 30 = .ok (.if_icmp .le 13, 3) := by decide +kernel
theorem dX2_pass_33 : decode cX2_pass 33 = .ok (.new 54, 3) := by decide +kernel
theorem dX2_pass_36 : decode cX2_pass 36 = .ok (.dup, 1) := by decide +kernel
theorem dX2_pass_37 : decode cX2_pass 37 = .ok (.ldc 101, 2) := by decide +kernel
theorem dX2_pass_39 : decode cX2_pass 39 = .ok (.invokespecial 58, 3) := by decide +kernel
theorem dX2_pass_42 : decode cX2_pass 42 = .ok (.athrow, 1) := by decide +kernel
theorem dX2_pass_43 : decode cX2_pass 43 = .ok (.iconst 0, 1) := by decide +kernel
theorem dX2_pass_44 : decode cX2_pass 44 = .ok (.istore_n 2, 1) := by decide +kernel
theorem dX2_pass_45 : decode cX2_pass 45 = .ok (.iconst 0, 1) := by decide +kernel
theorem dX2_pass_46 : decode cX2_pass 46 = .ok (.istore_n 3, 1) := by decide +kernel
theorem dX2_pass_47 : decode cX2_pass 47 = .ok (.iload_n 3, 1) := by decide +kernel
theorem dX2_pass_48 : decode cX2_pass 48 = .ok (.iload_n 1, 1) := by decide +kernel
theorem dX2_pass_49 : decode cX2_pass 49 = .ok (.if_icmp .ge 26, 3) := by decide +kernel
theorem dX2_pass_52 : decode cX2_pass 52 = .ok (.aload_n 0, 1) := by decide +kernel
theorem dX2_pass_53 : decode cX2_pass 53 = .ok (.dup, 1) := by decide +kernel
theorem dX2_pass_54 : decode cX2_pass 54 = .ok (.getfield 31, 3) := by decide +kernel
theorem dX2_pass_57 : decode cX2_pass 57 = .ok (.iconst 1, 1) := by decide +kernel
theorem dX2_pass_58 : decode cX2_pass 58 = .ok (.iadd, 1) := by decide +kernel
theorem dX2_pass_59 : decode cX2_pass 59 = .ok (.putfield 31, 3) := by decide +kernel
theorem dX2_pass_62 : decode cX2_pass 62 = .ok (.iload_n 2, 1) := by decide +kernel
theorem dX2_pass_63 : decode cX2_pass 63 = .ok (.aload_n 0, 1) := by decide +kernel
theorem dX2_pass_64 : decode cX2_pass 64 = .ok (.invokevirtual 103, 3) := by decide +kernel
theorem dX2_pass_67 : decode cX2_pass 67 = .ok (.iadd, 1) := by decide +kernel
theorem dX2_pass_68 : decode cX2_pass 68 = .ok (.istore_n 2, 1) := by decide +kernel
theorem dX2_pass_69 : decode cX2_pass 69 = .ok (.iinc 3 1, 3) := by decide +kernel
theorem dX2_pass_72 : decode cX2_pass 72 = .ok (.goto (-25), 3) := by decide +kernel
theorem dX2_pass_75 : decode cX2_pass 75 = .ok (.iload_n 2, 1) := by decide +kernel
theorem dX2_pass_76 : decode cX2_pass 76 = .ok (.ireturn, 1) := by decide +kernel
theorem dX2_today_0 : decode cX2_today 0 = .ok (.aload_n 0, 1) := by decide +kernel
theorem dX2_today_1 : decode cX2_today 1 = .ok (.getfield 31, 3) := by decide +kernel
theorem dX2_today_4 : decode cX2_today 4 = .ok (.ireturn, 1) := by decide +kernel
theorem dX2_certificates_0 : decode cX2_certificates 0 = .ok (.aload_n 0, 1) := by decide +kernel
theorem dX2_certificates_1 : decode cX2_certificates 1 = .ok (.getfield 19, 3) := by decide +kernel
theorem dX2_certificates_4 : decode cX2_certificates 4 = .ok (.getfield 110, 3) := by decide +kernel
theorem dX2_certificates_7 : decode cX2_certificates 7 = .ok (.ireturn, 1) := by decide +kernel
set_option maxRecDepth 20000 in
theorem ggX2_issuerOf_X2_checkCertificate : GoodIn wsX2_issuerOf wsX2_checkCertificate := goodIn_ca (goodIn_r _ [7, 8, 9, 1, 10, 11, 12, 13, 14, 15, 16, 17, 18, 19, 20, 21, 22, 23] (by decide +kernel) (by decide +kernel)) (goodIn_sub (fun _ h => List.mem_cons_of_mem _ (List.mem_append_right _ h)) (by decide +kernel))
set_option maxRecDepth 20000 in
theorem gX2_issuerOf_X2_checkCertificate : GoodIn wsX2_issuerOf (wsV RX2 111 RX2 yX2_checkCertificate wsX2_checkCertificate) := goodIn_app (goodIn_of _ (by decide +kernel)) ggX2_issuerOf_X2_checkCertificate
theorem dX2_issuerOf_0 : decode cX2_issuerOf 0 = .ok (.aload_n 0, 1) := by decide +kernel
theorem dX2_issuerOf_1 : decode cX2_issuerOf 1 = .ok (.iload_n 1, 1) := by decide +kernel
theorem dX2_issuerOf_2 : decode cX2_issuerOf 2 = .ok (.invokevirtual 111, 3) := by decide +kernel
theorem dX2_issuerOf_5 : decode cX2_issuerOf 5 = .ok (.aload_n 0, 1) := by decide +kernel
theorem dX2_issuerOf_6 : decode cX2_issuerOf 6 = .ok (.getfield 19, 3) := by decide +kernel
theorem dX2_issuerOf_9 : decode cX2_issuerOf 9 = .ok (.getfield 114, 3) := by decide +kernel
theorem dX2_issuerOf_12 : decode cX2_issuerOf 12 = .ok (.iload_n 1, 1) := by decide +kernel
theorem dX2_issuerOf_13 : decode cX2_issuerOf 13 = .ok (.iaload, 1) := by decide +kernel
theorem dX2_issuerOf_14 : decode cX2_issuerOf 14 = .ok (.ireturn, 1) := by decide +kernel
set_option maxRecDepth 20000 in
theorem ggX2_lastDay_X2_checkCertificate : GoodIn wsX2_lastDay wsX2_checkCertificate := goodIn_ca (goodIn_r _ [6, 7, 8, 1, 9, 17, 18, 19, 20, 21, 22, 23, 24, 25, 26, 27, 28, 29] (by decide +kernel) (by decide +kernel)) (goodIn_sub (fun _ h => List.mem_cons_of_mem _ (List.mem_append_right _ h)) (by decide +kernel))
set_option maxRecDepth 20000 in
theorem gX2_lastDay_X2_checkCertificate : GoodIn wsX2_lastDay (wsV RX2 111 RX2 yX2_checkCertificate wsX2_checkCertificate) := goodIn_app (goodIn_of _ (by decide +kernel)) ggX2_lastDay_X2_checkCertificate
set_option maxRecDepth 20000 in
theorem ggX2_lastDay_X0_endOf : GoodIn wsX2_lastDay wsX0_endOf := goodIn_r _ [14, 15, 16, 22, 23, 24, 25, 26, 27, 28, 29] (by decide +kernel) (by decide +kernel)
set_option maxRecDepth 20000 in
theorem gX2_lastDay_X0_endOf : GoodIn wsX2_lastDay (wsV RX2 117 RX0 yX0_endOf wsX0_endOf) := goodIn_app (goodIn_of _ (by decide +kernel)) ggX2_lastDay_X0_endOf
theorem dX2_lastDay_0 : decode cX2_lastDay 0 = .ok (.aload_n 0, 1) := by decide +kernel
theorem dX2_lastDay_1 : decode cX2_lastDay 1 = .ok (.iload_n 1, 1) := by decide +kernel
theorem dX2_lastDay_2 : decode cX2_lastDay 2 = .ok (.invokevirtual 111, 3) := by decide +kernel
theorem dX2_lastDay_5 : decode cX2_lastDay 5 = .ok (.aload_n 0, 1) := by decide +kernel
theorem dX2_lastDay_6 : decode cX2_lastDay 6 = .ok (.getfield 19, 3) := by decide +kernel
theorem dX2_lastDay_9 : decode cX2_lastDay 9 = .ok (.iload_n 1, 1) := by decide +kernel
theorem dX2_lastDay_10 : decode cX2_lastDay 10 = .ok (.invokevirtual 117, 3) := by decide +kernel
theorem dX2_lastDay_13 : decode cX2_lastDay 13 = .ok (.ireturn, 1) := by decide +kernel
set_option maxRecDepth 20000 in
theorem ggX2_dueOn_X2_checkCertificate : GoodIn wsX2_dueOn wsX2_checkCertificate := goodIn_ca (goodIn_r _ [6, 7, 8, 1, 9, 18, 19, 20, 21, 22, 23, 24, 25, 26, 27, 28, 29, 30] (by decide +kernel) (by decide +kernel)) (goodIn_sub (fun _ h => List.mem_cons_of_mem _ (List.mem_append_right _ h)) (by decide +kernel))
set_option maxRecDepth 20000 in
theorem gX2_dueOn_X2_checkCertificate : GoodIn wsX2_dueOn (wsV RX2 111 RX2 yX2_checkCertificate wsX2_checkCertificate) := goodIn_app (goodIn_of _ (by decide +kernel)) ggX2_dueOn_X2_checkCertificate
set_option maxRecDepth 20000 in
theorem ggX2_dueOn_X0_dueDayOf : GoodIn wsX2_dueOn wsX0_dueDayOf := goodIn_r _ [14, 15, 16, 17, 23, 24, 25, 26, 27, 28, 29, 30] (by decide +kernel) (by decide +kernel)
set_option maxRecDepth 20000 in
theorem gX2_dueOn_X0_dueDayOf : GoodIn wsX2_dueOn (wsV RX2 121 RX0 yX0_dueDayOf wsX0_dueDayOf) := goodIn_app (goodIn_of _ (by decide +kernel)) ggX2_dueOn_X0_dueDayOf
theorem dX2_dueOn_0 : decode cX2_dueOn 0 = .ok (.aload_n 0, 1) := by decide +kernel
theorem dX2_dueOn_1 : decode cX2_dueOn 1 = .ok (.iload_n 1, 1) := by decide +kernel
theorem dX2_dueOn_2 : decode cX2_dueOn 2 = .ok (.invokevirtual 111, 3) := by decide +kernel
theorem dX2_dueOn_5 : decode cX2_dueOn 5 = .ok (.aload_n 0, 1) := by decide +kernel
theorem dX2_dueOn_6 : decode cX2_dueOn 6 = .ok (.getfield 19, 3) := by decide +kernel
theorem dX2_dueOn_9 : decode cX2_dueOn 9 = .ok (.iload_n 1, 1) := by decide +kernel
theorem dX2_dueOn_10 : decode cX2_dueOn 10 = .ok (.invokevirtual 121, 3) := by decide +kernel
theorem dX2_dueOn_13 : decode cX2_dueOn 13 = .ok (.ireturn, 1) := by decide +kernel
set_option maxRecDepth 20000 in
theorem ggX2_renewal_X2_checkCertificate : GoodIn wsX2_renewal wsX2_checkCertificate := goodIn_ca (goodIn_r _ [7, 8, 9, 1, 10, 11, 12, 13, 14, 15, 16, 17, 18, 19, 20, 21, 22, 23] (by decide +kernel) (by decide +kernel)) (goodIn_sub (fun _ h => List.mem_cons_of_mem _ (List.mem_append_right _ h)) (by decide +kernel))
set_option maxRecDepth 20000 in
theorem gX2_renewal_X2_checkCertificate : GoodIn wsX2_renewal (wsV RX2 111 RX2 yX2_checkCertificate wsX2_checkCertificate) := goodIn_app (goodIn_of _ (by decide +kernel)) ggX2_renewal_X2_checkCertificate
theorem dX2_renewal_0 : decode cX2_renewal 0 = .ok (.aload_n 0, 1) := by decide +kernel
theorem dX2_renewal_1 : decode cX2_renewal 1 = .ok (.iload_n 1, 1) := by decide +kernel
theorem dX2_renewal_2 : decode cX2_renewal 2 = .ok (.invokevirtual 111, 3) := by decide +kernel
theorem dX2_renewal_5 : decode cX2_renewal 5 = .ok (.aload_n 0, 1) := by decide +kernel
theorem dX2_renewal_6 : decode cX2_renewal 6 = .ok (.getfield 19, 3) := by decide +kernel
theorem dX2_renewal_9 : decode cX2_renewal 9 = .ok (.getfield 124, 3) := by decide +kernel
theorem dX2_renewal_12 : decode cX2_renewal 12 = .ok (.iload_n 1, 1) := by decide +kernel
theorem dX2_renewal_13 : decode cX2_renewal 13 = .ok (.iaload, 1) := by decide +kernel
theorem dX2_renewal_14 : decode cX2_renewal 14 = .ok (.ireturn, 1) := by decide +kernel
set_option maxRecDepth 20000 in
theorem ggX2_waiting_X0_fillQueue : GoodIn wsX2_waiting wsX0_fillQueue := goodIn_r _ [7, 8, 9, 10, 11, 6, 12, 13, 14, 15, 16, 17, 18, 19, 20, 21, 22, 23, 24, 25, 26, 27, 28, 29, 35, 36, 37, 38, 39, 40, 41, 42] (by decide +kernel) (by decide +kernel)
set_option maxRecDepth 20000 in
theorem gX2_waiting_X0_fillQueue : GoodIn wsX2_waiting (wsV RX2 127 RX0 yX0_fillQueue wsX0_fillQueue) := goodIn_app (goodIn_of _ (by decide +kernel)) ggX2_waiting_X0_fillQueue
theorem dX2_waiting_0 : decode cX2_waiting 0 = .ok (.aload_n 0, 1) := by decide +kernel
theorem dX2_waiting_1 : decode cX2_waiting 1 = .ok (.getfield 19, 3) := by decide +kernel
theorem dX2_waiting_4 : decode cX2_waiting 4 = .ok (.aload_n 0, 1) := by decide +kernel
theorem dX2_waiting_5 : decode cX2_waiting 5 = .ok (.getfield 31, 3) := by decide +kernel
theorem dX2_waiting_8 : decode cX2_waiting 8 = .ok (.invokevirtual 127, 3) := by decide +kernel
theorem dX2_waiting_11 : decode cX2_waiting 11 = .ok (.ireturn, 1) := by decide +kernel
set_option maxRecDepth 20000 in
theorem ggX2_waitingAt_X0_fillQueue : GoodIn wsX2_waitingAt wsX0_fillQueue := goodIn_r _ [10, 11, 12, 13, 14, 9, 15, 16, 17, 18, 19, 20, 21, 22, 23, 24, 25, 26, 27, 28, 29, 30, 31, 32, 38, 39, 40, 41, 42, 43, 44, 45] (by decide +kernel) (by decide +kernel)
set_option maxRecDepth 20000 in
theorem gX2_waitingAt_X0_fillQueue : GoodIn wsX2_waitingAt (wsV RX2 127 RX0 yX0_fillQueue wsX0_fillQueue) := goodIn_app (goodIn_of _ (by decide +kernel)) ggX2_waitingAt_X0_fillQueue
theorem dX2_waitingAt_0 : decode cX2_waitingAt 0 = .ok (.aload_n 0, 1) := by decide +kernel
theorem dX2_waitingAt_1 : decode cX2_waitingAt 1 = .ok (.getfield 19, 3) := by decide +kernel
theorem dX2_waitingAt_4 : decode cX2_waitingAt 4 = .ok (.aload_n 0, 1) := by decide +kernel
theorem dX2_waitingAt_5 : decode cX2_waitingAt 5 = .ok (.getfield 31, 3) := by decide +kernel
theorem dX2_waitingAt_8 : decode cX2_waitingAt 8 = .ok (.invokevirtual 127, 3) := by decide +kernel
theorem dX2_waitingAt_11 : decode cX2_waitingAt 11 = .ok (.istore_n 2, 1) := by decide +kernel
theorem dX2_waitingAt_12 : decode cX2_waitingAt 12 = .ok (.iload_n 1, 1) := by decide +kernel
theorem dX2_waitingAt_13 : decode cX2_waitingAt 13 = .ok (.ifCond .lt 8, 3) := by decide +kernel
theorem dX2_waitingAt_16 : decode cX2_waitingAt 16 = .ok (.iload_n 1, 1) := by decide +kernel
theorem dX2_waitingAt_17 : decode cX2_waitingAt 17 = .ok (.iload_n 2, 1) := by decide +kernel
theorem dX2_waitingAt_18 : decode cX2_waitingAt 18 = .ok (.if_icmp .lt 13, 3) := by decide +kernel
theorem dX2_waitingAt_21 : decode cX2_waitingAt 21 = .ok (.new 130, 3) := by decide +kernel
theorem dX2_waitingAt_24 : decode cX2_waitingAt 24 = .ok (.dup, 1) := by decide +kernel
theorem dX2_waitingAt_25 : decode cX2_waitingAt 25 = .ok (.ldc 132, 2) := by decide +kernel
theorem dX2_waitingAt_27 : decode cX2_waitingAt 27 = .ok (.invokespecial 134, 3) := by decide +kernel
theorem dX2_waitingAt_30 : decode cX2_waitingAt 30 = .ok (.athrow, 1) := by decide +kernel
theorem dX2_waitingAt_31 : decode cX2_waitingAt 31 = .ok (.aload_n 0, 1) := by decide +kernel
theorem dX2_waitingAt_32 : decode cX2_waitingAt 32 = .ok (.getfield 19, 3) := by decide +kernel
theorem dX2_waitingAt_35 : decode cX2_waitingAt 35 = .ok (.getfield 135, 3) := by decide +kernel
theorem dX2_waitingAt_38 : decode cX2_waitingAt 38 = .ok (.iload_n 1, 1) := by decide +kernel
theorem dX2_waitingAt_39 : decode cX2_waitingAt 39 = .ok (.iaload, 1) := by decide +kernel
theorem dX2_waitingAt_40 : decode cX2_waitingAt 40 = .ok (.ireturn, 1) := by decide +kernel
set_option maxRecDepth 20000 in
theorem ggX2_room_X2_checkIssuer : GoodIn wsX2_room wsX2_checkIssuer := goodIn_ca (goodIn_r _ [5, 6, 7, 8, 9, 28, 29, 30, 31, 32, 33, 34, 35, 36, 37, 38, 39, 40, 41] (by decide +kernel) (by decide +kernel)) (goodIn_sub (fun _ h => List.mem_cons_of_mem _ (List.mem_append_right _ h)) (by decide +kernel))
set_option maxRecDepth 20000 in
theorem gX2_room_X2_checkIssuer : GoodIn wsX2_room (wsV RX2 34 RX2 yX2_checkIssuer wsX2_checkIssuer) := goodIn_app (goodIn_of _ (by decide +kernel)) ggX2_room_X2_checkIssuer
set_option maxRecDepth 20000 in
theorem ggX2_room_X2_roomThisWeek : GoodIn wsX2_room wsX2_roomThisWeek := goodIn_r _ [13, 8, 14, 15, 16, 17, 18, 4, 19, 20, 21, 22, 23, 24, 25, 26, 27, 28, 29, 30, 31, 32, 33, 34, 35, 36, 37, 38, 39, 40, 41, 42, 43, 44, 45, 46, 47, 48, 49] (by decide +kernel) (by decide +kernel)
set_option maxRecDepth 20000 in
theorem gX2_room_X2_roomThisWeek : GoodIn wsX2_room (wsV RX2 138 RX2 yX2_roomThisWeek wsX2_roomThisWeek) := goodIn_app (goodIn_of _ (by decide +kernel)) ggX2_room_X2_roomThisWeek
theorem dX2_room_0 : decode cX2_room 0 = .ok (.aload_n 0, 1) := by decide +kernel
theorem dX2_room_1 : decode cX2_room 1 = .ok (.iload_n 1, 1) := by decide +kernel
theorem dX2_room_2 : decode cX2_room 2 = .ok (.invokevirtual 34, 3) := by decide +kernel
theorem dX2_room_5 : decode cX2_room 5 = .ok (.aload_n 0, 1) := by decide +kernel
theorem dX2_room_6 : decode cX2_room 6 = .ok (.iload_n 1, 1) := by decide +kernel
theorem dX2_room_7 : decode cX2_room 7 = .ok (.invokevirtual 138, 3) := by decide +kernel
theorem dX2_room_10 : decode cX2_room 10 = .ok (.ireturn, 1) := by decide +kernel
set_option maxRecDepth 20000 in
theorem ggX2_isGood_X2_checkIssuer : GoodIn wsX2_isGood wsX2_checkIssuer := goodIn_ca (goodIn_r _ [6, 7, 8, 1, 9, 41, 42, 43, 44, 45, 46, 47, 48, 49, 50, 51, 52, 53, 54] (by decide +kernel) (by decide +kernel)) (goodIn_sub (fun _ h => List.mem_cons_of_mem _ (List.mem_append_left _ (List.mem_append_right _ h))) (by decide +kernel))
set_option maxRecDepth 20000 in
theorem gX2_isGood_X2_checkIssuer : GoodIn wsX2_isGood (wsV RX2 34 RX2 yX2_checkIssuer wsX2_checkIssuer) := goodIn_app (goodIn_of _ (by decide +kernel)) ggX2_isGood_X2_checkIssuer
set_option maxRecDepth 20000 in
theorem ggX2_isGood_X2_checkDay : GoodIn wsX2_isGood wsX2_checkDay := goodIn_ca (goodIn_r _ [12, 13, 14] (by decide +kernel) (by decide +kernel)) (goodIn_sub (fun _ h => List.mem_cons_of_mem _ (List.mem_append_right _ h)) (by decide +kernel))
set_option maxRecDepth 20000 in
theorem gX2_isGood_X2_checkDay : GoodIn wsX2_isGood (va_wsS RX2 38 yX2_checkDay wsX2_checkDay) := goodIn_app (goodIn_of _ (by decide +kernel)) ggX2_isGood_X2_checkDay
set_option maxRecDepth 20000 in
theorem ggX2_isGood_X1_goodOn : GoodIn wsX2_isGood wsX1_goodOn := goodIn_r _ [19, 20, 21, 22, 23, 18, 24, 25, 26, 27, 28, 29, 30, 31, 32, 33, 34, 35, 36, 37, 38, 5, 39, 46, 47, 48, 49, 50, 51, 52, 53, 54] (by decide +kernel) (by decide +kernel)
set_option maxRecDepth 20000 in
theorem gX2_isGood_X1_goodOn : GoodIn wsX2_isGood (wsV RX2 141 RX1 yX1_goodOn wsX1_goodOn) := goodIn_app (goodIn_of _ (by decide +kernel)) ggX2_isGood_X1_goodOn
set_option maxRecDepth 20000 in
theorem ggX2_isGood_X2_contains : GoodIn wsX2_isGood wsX2_contains := goodIn_r _ [39] (by decide +kernel) (by decide +kernel)
set_option maxRecDepth 20000 in
theorem gX2_isGood_X2_contains : GoodIn wsX2_isGood (va_wsS RX2 145 yX2_contains wsX2_contains) := goodIn_app (goodIn_of _ (by decide +kernel)) ggX2_isGood_X2_contains
theorem dX2_isGood_0 : decode cX2_isGood 0 = .ok (.aload_n 0, 1) := by decide +kernel
theorem dX2_isGood_1 : decode cX2_isGood 1 = .ok (.iload_n 1, 1) := by decide +kernel
theorem dX2_isGood_2 : decode cX2_isGood 2 = .ok (.invokevirtual 34, 3) := by decide +kernel
theorem dX2_isGood_5 : decode cX2_isGood 5 = .ok (.iload_n 2, 1) := by decide +kernel
theorem dX2_isGood_6 : decode cX2_isGood 6 = .ok (.invokestatic 38, 3) := by decide +kernel
theorem dX2_isGood_9 : decode cX2_isGood 9 = .ok (.aload_n 0, 1) := by decide +kernel
theorem dX2_isGood_10 : decode cX2_isGood 10 = .ok (.getfield 10, 3) := by decide +kernel
theorem dX2_isGood_13 : decode cX2_isGood 13 = .ok (.iload_n 2, 1) := by decide +kernel
theorem dX2_isGood_14 : decode cX2_isGood 14 = .ok (.iconst (-1), 1) := by decide +kernel
theorem dX2_isGood_15 : decode cX2_isGood 15 = .ok (.invokevirtual 141, 3) := by decide +kernel
theorem dX2_isGood_18 : decode cX2_isGood 18 = .ok (.iload_n 1, 1) := by decide +kernel
theorem dX2_isGood_19 : decode cX2_isGood 19 = .ok (.invokestatic 145, 3) := by decide +kernel
theorem dX2_isGood_22 : decode cX2_isGood 22 = .ok (.ireturn, 1) := by decide +kernel
set_option maxRecDepth 20000 in
theorem ggX2_chainEnd_X2_checkIssuer : GoodIn wsX2_chainEnd wsX2_checkIssuer := goodIn_ca (goodIn_r _ [7, 8, 9, 1, 10, 11, 12, 13, 14, 15, 16, 17, 18, 19, 20, 21, 22, 23, 24] (by decide +kernel) (by decide +kernel)) (goodIn_sub (fun _ h => List.mem_cons_of_mem _ (List.mem_append_right _ h)) (by decide +kernel))
set_option maxRecDepth 20000 in
theorem gX2_chainEnd_X2_checkIssuer : GoodIn wsX2_chainEnd (wsV RX2 34 RX2 yX2_checkIssuer wsX2_checkIssuer) := goodIn_app (goodIn_of _ (by decide +kernel)) ggX2_chainEnd_X2_checkIssuer
theorem dX2_chainEnd_0 : decode cX2_chainEnd 0 = .ok (.aload_n 0, 1) := by decide +kernel
theorem dX2_chainEnd_1 : decode cX2_chainEnd 1 = .ok (.iload_n 1, 1) := by decide +kernel
theorem dX2_chainEnd_2 : decode cX2_chainEnd 2 = .ok (.invokevirtual 34, 3) := by decide +kernel
theorem dX2_chainEnd_5 : decode cX2_chainEnd 5 = .ok (.aload_n 0, 1) := by decide +kernel
theorem dX2_chainEnd_6 : decode cX2_chainEnd 6 = .ok (.getfield 10, 3) := by decide +kernel
theorem dX2_chainEnd_9 : decode cX2_chainEnd 9 = .ok (.getfield 75, 3) := by decide +kernel
theorem dX2_chainEnd_12 : decode cX2_chainEnd 12 = .ok (.iload_n 1, 1) := by decide +kernel
theorem dX2_chainEnd_13 : decode cX2_chainEnd 13 = .ok (.iaload, 1) := by decide +kernel
theorem dX2_chainEnd_14 : decode cX2_chainEnd 14 = .ok (.ireturn, 1) := by decide +kernel
set_option maxRecDepth 20000 in
theorem ggX2_chains_X2_checkIssuer : GoodIn wsX2_chains wsX2_checkIssuer := goodIn_ca (goodIn_r _ [7, 8, 9, 1, 10, 11, 12, 13, 14, 15, 16, 17, 18, 19, 20, 21, 22, 23, 24] (by decide +kernel) (by decide +kernel)) (goodIn_sub (fun _ h => List.mem_cons_of_mem _ (List.mem_append_right _ h)) (by decide +kernel))
set_option maxRecDepth 20000 in
theorem gX2_chains_X2_checkIssuer : GoodIn wsX2_chains (wsV RX2 34 RX2 yX2_checkIssuer wsX2_checkIssuer) := goodIn_app (goodIn_of _ (by decide +kernel)) ggX2_chains_X2_checkIssuer
theorem dX2_chains_0 : decode cX2_chains 0 = .ok (.aload_n 0, 1) := by decide +kernel
theorem dX2_chains_1 : decode cX2_chains 1 = .ok (.iload_n 1, 1) := by decide +kernel
theorem dX2_chains_2 : decode cX2_chains 2 = .ok (.invokevirtual 34, 3) := by decide +kernel
theorem dX2_chains_5 : decode cX2_chains 5 = .ok (.aload_n 0, 1) := by decide +kernel
theorem dX2_chains_6 : decode cX2_chains 6 = .ok (.getfield 10, 3) := by decide +kernel
theorem dX2_chains_9 : decode cX2_chains 9 = .ok (.getfield 148, 3) := by decide +kernel
theorem dX2_chains_12 : decode cX2_chains 12 = .ok (.iload_n 1, 1) := by decide +kernel
theorem dX2_chains_13 : decode cX2_chains 13 = .ok (.iaload, 1) := by decide +kernel
theorem dX2_chains_14 : decode cX2_chains 14 = .ok (.ireturn, 1) := by decide +kernel
set_option maxRecDepth 20000 in
theorem ggX2_isCovered_X2_checkName : GoodIn wsX2_isCovered wsX2_checkName := goodIn_ca (goodIn_r _ [4, 5, 6] (by decide +kernel) (by decide +kernel)) (goodIn_sub (fun _ h => List.mem_cons_of_mem _ (List.mem_append_left _ (List.mem_append_right _ h))) (by decide +kernel))
set_option maxRecDepth 20000 in
theorem gX2_isCovered_X2_checkName : GoodIn wsX2_isCovered (va_wsS RX2 81 yX2_checkName wsX2_checkName) := goodIn_app (goodIn_of _ (by decide +kernel)) ggX2_isCovered_X2_checkName
set_option maxRecDepth 20000 in
theorem ggX2_isCovered_X2_checkDay : GoodIn wsX2_isCovered wsX2_checkDay := goodIn_ca (goodIn_r _ [9, 10, 11] (by decide +kernel) (by decide +kernel)) (goodIn_sub (fun _ h => List.mem_cons_of_mem _ (List.mem_append_right _ h)) (by decide +kernel))
set_option maxRecDepth 20000 in
theorem gX2_isCovered_X2_checkDay : GoodIn wsX2_isCovered (va_wsS RX2 38 yX2_checkDay wsX2_checkDay) := goodIn_app (goodIn_of _ (by decide +kernel)) ggX2_isCovered_X2_checkDay
set_option maxRecDepth 20000 in
theorem ggX2_isCovered_X2_namesCovered : GoodIn wsX2_isCovered wsX2_namesCovered := goodIn_r _ [15, 16, 17, 18, 19, 20, 21, 22, 23, 24, 25, 26, 27, 28, 29, 30, 31, 32, 33, 34, 35, 36, 37, 38, 39, 40, 41, 3, 42, 43, 44, 45, 46, 47, 48, 49, 50, 51, 52, 53, 54, 55, 56, 57, 58, 60, 61, 62, 63, 64, 65, 66, 67, 68, 69, 70, 71, 72, 73, 74, 75, 76, 77, 78, 79, 80, 81] (by decide +kernel) (by decide +kernel)
set_option maxRecDepth 20000 in
theorem gX2_isCovered_X2_namesCovered : GoodIn wsX2_isCovered (wsV RX2 151 RX2 yX2_namesCovered wsX2_namesCovered) := goodIn_app (goodIn_of _ (by decide +kernel)) ggX2_isCovered_X2_namesCovered
set_option maxRecDepth 20000 in
theorem ggX2_isCovered_X2_contains : GoodIn wsX2_isCovered wsX2_contains := goodIn_r _ [42] (by decide +kernel) (by decide +kernel)
set_option maxRecDepth 20000 in
theorem gX2_isCovered_X2_contains : GoodIn wsX2_isCovered (va_wsS RX2 145 yX2_contains wsX2_contains) := goodIn_app (goodIn_of _ (by decide +kernel)) ggX2_isCovered_X2_contains
theorem dX2_isCovered_0 : decode cX2_isCovered 0 = .ok (.iload_n 1, 1) := by decide +kernel
theorem dX2_isCovered_1 : decode cX2_isCovered 1 = .ok (.invokestatic 81, 3) := by decide +kernel
theorem dX2_isCovered_4 : decode cX2_isCovered 4 = .ok (.iload_n 2, 1) := by decide +kernel
theorem dX2_isCovered_5 : decode cX2_isCovered 5 = .ok (.invokestatic 38, 3) := by decide +kernel
theorem dX2_isCovered_8 : decode cX2_isCovered 8 = .ok (.aload_n 0, 1) := by decide +kernel
theorem dX2_isCovered_9 : decode cX2_isCovered 9 = .ok (.iload_n 2, 1) := by decide +kernel
theorem dX2_isCovered_10 : decode cX2_isCovered 10 = .ok (.iconst (-1), 1) := by decide +kernel
theorem dX2_isCovered_11 : decode cX2_isCovered 11 = .ok (.invokevirtual 151, 3) := by decide +kernel
theorem dX2_isCovered_14 : decode cX2_isCovered 14 = .ok (.iload_n 1, 1) := by decide +kernel
theorem dX2_isCovered_15 : decode cX2_isCovered 15 = .ok (.invokestatic 145, 3) := by decide +kernel
theorem dX2_isCovered_18 : decode cX2_isCovered 18 = .ok (.ireturn, 1) := by decide +kernel
set_option maxRecDepth 20000 in
theorem ggX2_nextGap_X2_checkName : GoodIn wsX2_nextGap wsX2_checkName := goodIn_ca (goodIn_r _ [4, 5, 6] (by decide +kernel) (by decide +kernel)) (goodIn_sub (fun _ h => List.mem_cons_of_mem _ (List.mem_append_left _ (List.mem_append_right _ h))) (by decide +kernel))
set_option maxRecDepth 20000 in
theorem gX2_nextGap_X2_checkName : GoodIn wsX2_nextGap (va_wsS RX2 81 yX2_checkName wsX2_checkName) := goodIn_app (goodIn_of _ (by decide +kernel)) ggX2_nextGap_X2_checkName
set_option maxRecDepth 20000 in
theorem ggX2_nextGap_X2_checkDay : GoodIn wsX2_nextGap wsX2_checkDay := goodIn_ca (goodIn_r _ [9, 10, 11] (by decide +kernel) (by decide +kernel)) (goodIn_sub (fun _ h => List.mem_cons_of_mem _ (List.mem_append_right _ h)) (by decide +kernel))
set_option maxRecDepth 20000 in
theorem gX2_nextGap_X2_checkDay : GoodIn wsX2_nextGap (va_wsS RX2 38 yX2_checkDay wsX2_checkDay) := goodIn_app (goodIn_of _ (by decide +kernel)) ggX2_nextGap_X2_checkDay
set_option maxRecDepth 20000 in
theorem ggX2_nextGap_X2_namesCovered : GoodIn wsX2_nextGap wsX2_namesCovered := goodIn_r _ [15, 16, 17, 18, 19, 20, 21, 22, 23, 24, 25, 26, 27, 28, 29, 30, 31, 32, 33, 34, 35, 36, 37, 38, 39, 40, 41, 3, 42, 43, 44, 45, 46, 47, 48, 49, 50, 51, 52, 53, 54, 55, 56, 57, 58, 60, 61, 62, 63, 64, 65, 66, 67, 68, 69, 70, 71, 72, 73, 74, 75, 76, 77, 78, 79, 80, 81] (by decide +kernel) (by decide +kernel)
set_option maxRecDepth 20000 in
theorem gX2_nextGap_X2_namesCovered : GoodIn wsX2_nextGap (wsV RX2 151 RX2 yX2_namesCovered wsX2_namesCovered) := goodIn_app (goodIn_of _ (by decide +kernel)) ggX2_nextGap_X2_namesCovered
set_option maxRecDepth 20000 in
theorem ggX2_nextGap_X2_contains : GoodIn wsX2_nextGap wsX2_contains := goodIn_r _ [42] (by decide +kernel) (by decide +kernel)
set_option maxRecDepth 20000 in
theorem gX2_nextGap_X2_contains : GoodIn wsX2_nextGap (va_wsS RX2 145 yX2_contains wsX2_contains) := goodIn_app (goodIn_of _ (by decide +kernel)) ggX2_nextGap_X2_contains
theorem dX2_nextGap_0 : decode cX2_nextGap 0 = .ok (.iload_n 1, 1) := by decide +kernel
theorem dX2_nextGap_1 : decode cX2_nextGap 1 = .ok (.invokestatic 81, 3) := by decide +kernel
theorem dX2_nextGap_4 : decode cX2_nextGap 4 = .ok (.iload_n 2, 1) := by decide +kernel
theorem dX2_nextGap_5 : decode cX2_nextGap 5 = .ok (.invokestatic 38, 3) := by decide +kernel
theorem dX2_nextGap_8 : decode cX2_nextGap 8 = .ok (.iload_n 2, 1) := by decide +kernel
theorem dX2_nextGap_9 : decode cX2_nextGap 9 = .ok (.istore_n 3, 1) := by decide +kernel
theorem dX2_nextGap_10 : decode cX2_nextGap 10 = .ok (.iload_n 3, 1) := by decide +kernel
theorem dX2_nextGap_11 : decode cX2_nextGap 11 = .ok (.sipush 5000, 3) := by decide +kernel
theorem dX2_nextGap_14 : decode cX2_nextGap 14 = .ok (.if_icmp .gt 24, 3) := by decide +kernel
theorem dX2_nextGap_17 : decode cX2_nextGap 17 = .ok (.aload_n 0, 1) := by decide +kernel
theorem dX2_nextGap_18 : decode cX2_nextGap 18 = .ok (.iload_n 3, 1) := by decide +kernel
theorem dX2_nextGap_19 : decode cX2_nextGap 19 = .ok (.iconst (-1), 1) := by decide +kernel
theorem dX2_nextGap_20 : decode cX2_nextGap 20 = .ok (.invokevirtual 151, 3) := by decide +kernel
theorem dX2_nextGap_23 : decode cX2_nextGap 23 = .ok (.iload_n 1, 1) := by decide +kernel
theorem dX2_nextGap_24 : decode cX2_nextGap 24 = .ok (.invokestatic 145, 3) := by decide +kernel
theorem dX2_nextGap_27 : decode cX2_nextGap 27 = .ok (.ifCond .ne 5, 3) := by decide +kernel
theorem dX2_nextGap_30 : decode cX2_nextGap 30 = .ok (.iload_n 3, 1) := by decide +kernel
theorem dX2_nextGap_31 : decode cX2_nextGap 31 = .ok (.ireturn, 1) := by decide +kernel
theorem dX2_nextGap_32 : decode cX2_nextGap 32 = .ok (.iinc 3 1, 3) := by decide +kernel
theorem dX2_nextGap_35 : decode cX2_nextGap 35 = .ok (.goto (-25), 3) := by decide +kernel
theorem dX2_nextGap_38 : decode cX2_nextGap 38 = .ok (.iconst (-1), 1) := by decide +kernel
theorem dX2_nextGap_39 : decode cX2_nextGap 39 = .ok (.ireturn, 1) := by decide +kernel
set_option maxRecDepth 20000 in
theorem ggX2_covered_X2_checkDay : GoodIn wsX2_covered wsX2_checkDay := goodIn_ca (goodIn_r _ [4, 5, 6] (by decide +kernel) (by decide +kernel)) (goodIn_sub (fun _ h => List.mem_cons_of_mem _ (List.mem_append_right _ h)) (by decide +kernel))
set_option maxRecDepth 20000 in
theorem gX2_covered_X2_checkDay : GoodIn wsX2_covered (va_wsS RX2 38 yX2_checkDay wsX2_checkDay) := goodIn_app (goodIn_of _ (by decide +kernel)) ggX2_covered_X2_checkDay
set_option maxRecDepth 20000 in
theorem ggX2_covered_X2_namesCovered : GoodIn wsX2_covered wsX2_namesCovered := goodIn_r _ [10, 11, 12, 13, 14, 15, 16, 17, 18, 19, 20, 21, 22, 23, 24, 25, 26, 27, 28, 29, 30, 31, 32, 33, 34, 35, 36, 3, 37, 38, 39, 40, 41, 42, 43, 44, 45, 46, 47, 48, 49, 50, 51, 52, 53, 54, 55, 56, 57, 58, 59, 60, 61, 62, 63, 64, 65, 66, 67, 68, 69, 70, 71, 72, 73, 74, 75] (by decide +kernel) (by decide +kernel)
set_option maxRecDepth 20000 in
theorem gX2_covered_X2_namesCovered : GoodIn wsX2_covered (wsV RX2 151 RX2 yX2_namesCovered wsX2_namesCovered) := goodIn_app (goodIn_of _ (by decide +kernel)) ggX2_covered_X2_namesCovered
theorem dX2_covered_0 : decode cX2_covered 0 = .ok (.iload_n 1, 1) := by decide +kernel
theorem dX2_covered_1 : decode cX2_covered 1 = .ok (.invokestatic 38, 3) := by decide +kernel
theorem dX2_covered_4 : decode cX2_covered 4 = .ok (.aload_n 0, 1) := by decide +kernel
theorem dX2_covered_5 : decode cX2_covered 5 = .ok (.iload_n 1, 1) := by decide +kernel
theorem dX2_covered_6 : decode cX2_covered 6 = .ok (.iconst (-1), 1) := by decide +kernel
theorem dX2_covered_7 : decode cX2_covered 7 = .ok (.invokevirtual 151, 3) := by decide +kernel
theorem dX2_covered_10 : decode cX2_covered 10 = .ok (.ireturn, 1) := by decide +kernel
set_option maxRecDepth 20000 in
theorem ggX2_breaks_X2_checkIssuer : GoodIn wsX2_breaks wsX2_checkIssuer := goodIn_ca (goodIn_r _ [5, 6, 7, 8, 9, 65, 66, 67, 68, 69, 70, 71, 72, 73, 74, 75, 76, 77, 78] (by decide +kernel) (by decide +kernel)) (goodIn_sub (fun _ h => List.mem_cons_of_mem _ (List.mem_append_left _ (List.mem_append_right _ h))) (by decide +kernel))
set_option maxRecDepth 20000 in
theorem gX2_breaks_X2_checkIssuer : GoodIn wsX2_breaks (wsV RX2 34 RX2 yX2_checkIssuer wsX2_checkIssuer) := goodIn_app (goodIn_of _ (by decide +kernel)) ggX2_breaks_X2_checkIssuer
set_option maxRecDepth 20000 in
theorem ggX2_breaks_X2_checkDay : GoodIn wsX2_breaks wsX2_checkDay := goodIn_ca (goodIn_r _ [12, 13, 14] (by decide +kernel) (by decide +kernel)) (goodIn_sub (fun _ h => List.mem_cons_of_mem _ (List.mem_append_right _ h)) (by decide +kernel))
set_option maxRecDepth 20000 in
theorem gX2_breaks_X2_checkDay : GoodIn wsX2_breaks (va_wsS RX2 38 yX2_checkDay wsX2_checkDay) := goodIn_app (goodIn_of _ (by decide +kernel)) ggX2_breaks_X2_checkDay
set_option maxRecDepth 20000 in
theorem ggX2_breaks_X2_namesLostWithout : GoodIn wsX2_breaks wsX2_namesLostWithout := goodIn_r _ [18, 19, 20, 21, 4, 22, 23, 8, 24, 25, 26, 27, 28, 29, 30, 31, 32, 33, 34, 35, 36, 37, 38, 39, 40, 41, 42, 43, 44, 45, 46, 47, 48, 49, 50, 51, 52, 53, 54, 55, 56, 57, 58, 59, 60, 61, 62, 63, 64, 65, 66, 67, 68, 69, 70, 71, 72, 73, 74, 75, 76, 77, 78, 79, 80, 81, 82, 83, 84, 85, 86] (by decide +kernel) (by decide +kernel)
set_option maxRecDepth 20000 in
theorem gX2_breaks_X2_namesLostWithout : GoodIn wsX2_breaks (wsV RX2 154 RX2 yX2_namesLostWithout wsX2_namesLostWithout) := goodIn_app (goodIn_of _ (by decide +kernel)) ggX2_breaks_X2_namesLostWithout
theorem dX2_breaks_0 : decode cX2_breaks 0 = .ok (.aload_n 0, 1) := by decide +kernel
theorem dX2_breaks_1 : decode cX2_breaks 1 = .ok (.iload_n 1, 1) := by decide +kernel
theorem dX2_breaks_2 : decode cX2_breaks 2 = .ok (.invokevirtual 34, 3) := by decide +kernel
theorem dX2_breaks_5 : decode cX2_breaks 5 = .ok (.iload_n 2, 1) := by decide +kernel
theorem dX2_breaks_6 : decode cX2_breaks 6 = .ok (.invokestatic 38, 3) := by decide +kernel
theorem dX2_breaks_9 : decode cX2_breaks 9 = .ok (.aload_n 0, 1) := by decide +kernel
theorem dX2_breaks_10 : decode cX2_breaks 10 = .ok (.iload_n 1, 1) := by decide +kernel
theorem dX2_breaks_11 : decode cX2_breaks 11 = .ok (.iload_n 2, 1) := by decide +kernel
theorem dX2_breaks_12 : decode cX2_breaks 12 = .ok (.invokevirtual 154, 3) := by decide +kernel
theorem dX2_breaks_15 : decode cX2_breaks 15 = .ok (.ireturn, 1) := by decide +kernel
set_option maxRecDepth 20000 in
theorem ggX2_weakest_X2_checkDay : GoodIn wsX2_weakest wsX2_checkDay := goodIn_ca (goodIn_r _ [6, 7, 8] (by decide +kernel) (by decide +kernel)) (goodIn_sub (fun _ h => List.mem_cons_of_mem _ (List.mem_append_right _ h)) (by decide +kernel))
set_option maxRecDepth 20000 in
theorem gX2_weakest_X2_checkDay : GoodIn wsX2_weakest (va_wsS RX2 38 yX2_checkDay wsX2_checkDay) := goodIn_app (goodIn_of _ (by decide +kernel)) ggX2_weakest_X2_checkDay
set_option maxRecDepth 20000 in
theorem ggX2_weakest_X2_namesLostWithout : GoodIn wsX2_weakest wsX2_namesLostWithout := goodIn_r _ [12, 13, 14, 15, 5, 16, 17, 1, 18, 19, 20, 21, 22, 23, 24, 25, 26, 27, 28, 29, 30, 31, 32, 33, 34, 35, 36, 37, 38, 39, 40, 41, 42, 43, 44, 45, 46, 47, 48, 49, 50, 51, 52, 53, 54, 55, 56, 57, 58, 66, 67, 68, 69, 70, 71, 72, 73, 74, 75, 76, 77, 78, 79, 80, 81, 82, 83, 84, 85, 86, 87] (by decide +kernel) (by decide +kernel)
set_option maxRecDepth 20000 in
theorem gX2_weakest_X2_namesLostWithout : GoodIn wsX2_weakest (wsV RX2 154 RX2 yX2_namesLostWithout wsX2_namesLostWithout) := goodIn_app (goodIn_of _ (by decide +kernel)) ggX2_weakest_X2_namesLostWithout
set_option maxRecDepth 20000 in
theorem ggX2_weakest_J6_bitCount_0f7a4 : GoodIn wsX2_weakest wsJ6_bitCount_0f7a4 := goodIn_r _ [62, 63, 64, 65] (by decide +kernel) (by decide +kernel)
set_option maxRecDepth 20000 in
theorem gX2_weakest_J6_bitCount_0f7a4 : GoodIn wsX2_weakest (va_wsS RX2 157 yJ6_bitCount_0f7a4 wsJ6_bitCount_0f7a4) := goodIn_app (goodIn_of _ (by decide +kernel)) ggX2_weakest_J6_bitCount_0f7a4
theorem dX2_weakest_0 : decode cX2_weakest 0 = .ok (.iload_n 1, 1) := by decide +kernel
theorem dX2_weakest_1 : decode cX2_weakest 1 = .ok (.invokestatic 38, 3) := by decide +kernel
theorem dX2_weakest_4 : decode cX2_weakest 4 = .ok (.iconst (-1), 1) := by decide +kernel
theorem dX2_weakest_5 : decode cX2_weakest 5 = .ok (.istore_n 2, 1) := by decide +kernel
theorem dX2_weakest_6 : decode cX2_weakest 6 = .ok (.iconst 0, 1) := by decide +kernel
theorem dX2_weakest_7 : decode cX2_weakest 7 = .ok (.istore_n 3, 1) := by decide +kernel
theorem dX2_weakest_8 : decode cX2_weakest 8 = .ok (.iconst 0, 1) := by decide +kernel
theorem dX2_weakest_9 : decode cX2_weakest 9 = .ok (.istore 4, 2) := by decide +kernel
theorem dX2_weakest_11 : decode cX2_weakest 11 = .ok (.iload 4, 2) := by decide +kernel
theorem dX2_weakest_13 : decode cX2_weakest 13 = .ok (.aload_n 0, 1) := by decide +kernel
theorem dX2_weakest_14 : decode cX2_weakest 14 = .ok (.getfield 10, 3) := by decide +kernel
theorem dX2_weakest_17 : decode cX2_weakest 17 = .ok (.getfield 107, 3) := by decide +kernel
theorem dX2_weakest_20 : decode cX2_weakest 20 = .ok (.if_icmp .ge 33, 3) := by decide +kernel
theorem dX2_weakest_23 : decode cX2_weakest 23 = .ok (.aload_n 0, 1) := by decide +kernel
theorem dX2_weakest_24 : decode cX2_weakest 24 = .ok (.iload 4, 2) := by decide +kernel
theorem dX2_weakest_26 : decode cX2_weakest 26 = .ok (.iload_n 1, 1) := by decide +kernel
theorem dX2_weakest_27 : decode cX2_weakest 27 = .ok (.invokevirtual 154, 3) := by decide +kernel
theorem dX2_weakest_30 : decode cX2_weakest 30 = .ok (.invokestatic 157, 3) := by decide +kernel
theorem dX2_weakest_33 : decode cX2_weakest 33 = .ok (.istore 5, 2) := by decide +kernel
theorem dX2_weakest_35 : decode cX2_weakest 35 = .ok (.iload 5, 2) := by decide +kernel
theorem dX2_weakest_37 : decode cX2_weakest 37 = .ok (.iload_n 3, 1) := by decide +kernel
theorem dX2_weakest_38 : decode cX2_weakest 38 = .ok (.if_icmp .le 9, 3) := by decide +kernel
theorem dX2_weakest_41 : decode cX2_weakest 41 = .ok (.iload 5, 2) := by decide +kernel
theorem dX2_weakest_43 : decode cX2_weakest 43 = .ok (.istore_n 3, 1) := by decide +kernel
theorem dX2_weakest_44 : decode cX2_weakest 44 = .ok (.iload 4, 2) := by decide +kernel
theorem dX2_weakest_46 : decode cX2_weakest 46 = .ok (.istore_n 2, 1) := by decide +kernel
theorem dX2_weakest_47 : decode cX2_weakest 47 = .ok (.iinc 4 1, 3) := by decide +kernel
theorem dX2_weakest_50 : decode cX2_weakest 50 = .ok (.goto (-39), 3) := by decide +kernel
theorem dX2_weakest_53 : decode cX2_weakest 53 = .ok (.iload_n 2, 1) := by decide +kernel
theorem dX2_weakest_54 : decode cX2_weakest 54 = .ok (.ireturn, 1) := by decide +kernel
theorem dX2_checkIssuer_0 : decode cX2_checkIssuer 0 = .ok (.iload_n 1, 1) := by decide +kernel
theorem dX2_checkIssuer_1 : decode cX2_checkIssuer 1 = .ok (.ifCond .lt 14, 3) := by decide +kernel
theorem dX2_checkIssuer_4 : decode cX2_checkIssuer 4 = .ok (.iload_n 1, 1) := by decide +kernel
theorem dX2_checkIssuer_5 : decode cX2_checkIssuer 5 = .ok (.aload_n 0, 1) := by decide +kernel
theorem dX2_checkIssuer_6 : decode cX2_checkIssuer 6 = .ok (.getfield 10, 3) := by decide +kernel
theorem dX2_checkIssuer_9 : decode cX2_checkIssuer 9 = .ok (.getfield 107, 3) := by decide +kernel
theorem dX2_checkIssuer_12 : decode cX2_checkIssuer 12 = .ok (.if_icmp .lt 13, 3) := by decide +kernel
theorem dX2_checkIssuer_15 : decode cX2_checkIssuer 15 = .ok (.new 130, 3) := by decide +kernel
theorem dX2_checkIssuer_18 : decode cX2_checkIssuer 18 = .ok (.dup, 1) := by decide +kernel
theorem dX2_checkIssuer_19 : decode cX2_checkIssuer 19 = .ok (.ldc 162, 2) := by decide +kernel
theorem dX2_checkIssuer_21 : decode cX2_checkIssuer 21 = .ok (.invokespecial 134, 3) := by decide +kernel
theorem dX2_checkIssuer_24 : decode cX2_checkIssuer 24 = .ok (.athrow, 1) := by decide +kernel
theorem dX2_checkIssuer_25 : decode cX2_checkIssuer 25 = .ok (.return_, 1) := by decide +kernel
theorem dX2_checkCertificate_0 : decode cX2_checkCertificate 0 = .ok (.iload_n 1, 1) := by decide +kernel
theorem dX2_checkCertificate_1 : decode cX2_checkCertificate 1 = .ok (.ifCond .lt 14, 3) := by decide +kernel
theorem dX2_checkCertificate_4 : decode cX2_checkCertificate 4 = .ok (.iload_n 1, 1) := by decide +kernel
theorem dX2_checkCertificate_5 : decode cX2_checkCertificate 5 = .ok (.aload_n 0, 1) := by decide +kernel
theorem dX2_checkCertificate_6 : decode cX2_checkCertificate 6 = .ok (.getfield 19, 3) := by decide +kernel
theorem dX2_checkCertificate_9 : decode cX2_checkCertificate 9 = .ok (.getfield 110, 3) := by decide +kernel
theorem dX2_checkCertificate_12 : decode cX2_checkCertificate 12 = .ok (.if_icmp .lt 13, 3) := by decide +kernel
theorem dX2_checkCertificate_15 : decode cX2_checkCertificate 15 = .ok (.new 130, 3) := by decide +kernel
theorem dX2_checkCertificate_18 : decode cX2_checkCertificate 18 = .ok (.dup, 1) := by decide +kernel
theorem dX2_checkCertificate_19 : decode cX2_checkCertificate 19 = .ok (.ldc 164, 2) := by decide +kernel
theorem dX2_checkCertificate_21 : decode cX2_checkCertificate 21 = .ok (.invokespecial 134, 3) := by decide +kernel
theorem dX2_checkCertificate_24 : decode cX2_checkCertificate 24 = .ok (.athrow, 1) := by decide +kernel
theorem dX2_checkCertificate_25 : decode cX2_checkCertificate 25 = .ok (.return_, 1) := by decide +kernel
theorem dX2_checkName_0 : decode cX2_checkName 0 = .ok (.iload_n 0, 1) := by decide +kernel
theorem dX2_checkName_1 : decode cX2_checkName 1 = .ok (.ifCond .lt 9, 3) := by decide +kernel
theorem dX2_checkName_4 : decode cX2_checkName 4 = .ok (.iload_n 0, 1) := by decide +kernel
theorem dX2_checkName_5 : decode cX2_checkName 5 = .ok (.bipush 16, 2) := by decide +kernel
theorem dX2_checkName_7 : decode cX2_checkName 7 = .ok (.if_icmp .lt 13, 3) := by decide +kernel
theorem dX2_checkName_10 : decode cX2_checkName 10 = .ok (.new 130, 3) := by decide +kernel
theorem dX2_checkName_13 : decode cX2_checkName 13 = .ok (.dup, 1) := by decide +kernel
theorem dX2_checkName_14 : decode cX2_checkName 14 = .ok (.ldc 166, 2) := by decide +kernel
theorem dX2_checkName_16 : decode cX2_checkName 16 = .ok (.invokespecial 134, 3) := by decide +kernel
theorem dX2_checkName_19 : decode cX2_checkName 19 = .ok (.athrow, 1) := by decide +kernel
theorem dX2_checkName_20 : decode cX2_checkName 20 = .ok (.return_, 1) := by decide +kernel
theorem dX2_checkDay_0 : decode cX2_checkDay 0 = .ok (.iload_n 0, 1) := by decide +kernel
theorem dX2_checkDay_1 : decode cX2_checkDay 1 = .ok (.ifCond .lt 10, 3) := by decide +kernel
theorem dX2_checkDay_4 : decode cX2_checkDay 4 = .ok (.iload_n 0, 1) := by decide +kernel
theorem dX2_checkDay_5 : decode cX2_checkDay 5 = .ok (.sipush 5000, 3) := by decide +kernel
theorem dX2_checkDay_8 : decode cX2_checkDay 8 = .ok (.if_icmp .le 13, 3) := by decide +kernel
theorem dX2_checkDay_11 : decode cX2_checkDay 11 = .ok (.new 41, 3) := by decide +kernel
theorem dX2_checkDay_14 : decode cX2_checkDay 14 = .ok (.dup, 1) := by decide +kernel
theorem dX2_checkDay_15 : decode cX2_checkDay 15 = .ok (.ldc 168, 2) := by decide +kernel
theorem dX2_checkDay_17 : decode cX2_checkDay 17 = .ok (.invokespecial 45, 3) := by decide +kernel
theorem dX2_checkDay_20 : decode cX2_checkDay 20 = .ok (.athrow, 1) := by decide +kernel
theorem dX2_checkDay_21 : decode cX2_checkDay 21 = .ok (.return_, 1) := by decide +kernel
set_option maxRecDepth 20000 in
theorem ggX2_canIssue_X0_isFull : GoodIn wsX2_canIssue wsX0_isFull := goodIn_r _ [8, 9, 64, 65, 66, 67, 68, 69, 70, 71] (by decide +kernel) (by decide +kernel)
set_option maxRecDepth 20000 in
theorem gX2_canIssue_X0_isFull : GoodIn wsX2_canIssue (wsV RX2 170 RX0 yX0_isFull wsX0_isFull) := goodIn_app (goodIn_of _ (by decide +kernel)) ggX2_canIssue_X0_isFull
set_option maxRecDepth 20000 in
theorem ggX2_canIssue_X2_roomThisWeek : GoodIn wsX2_canIssue wsX2_roomThisWeek := goodIn_r _ [14, 2, 15, 1, 3, 16, 17, 13, 18, 19, 20, 21, 7, 22, 9, 23, 24, 59, 60, 61, 62, 63, 72, 73, 74, 75, 76, 77, 78, 79, 80, 64, 65, 66, 67, 68, 69, 70, 71] (by decide +kernel) (by decide +kernel)
set_option maxRecDepth 20000 in
theorem gX2_canIssue_X2_roomThisWeek : GoodIn wsX2_canIssue (wsV RX2 138 RX2 yX2_roomThisWeek wsX2_roomThisWeek) := goodIn_app (goodIn_of _ (by decide +kernel)) ggX2_canIssue_X2_roomThisWeek
set_option maxRecDepth 20000 in
theorem ggX2_canIssue_X2_mayIssueFor : GoodIn wsX2_canIssue wsX2_mayIssueFor := goodIn_r _ [28, 29, 30, 31, 13, 32, 33, 34, 35, 59, 60, 61, 62, 63] (by decide +kernel) (by decide +kernel)
set_option maxRecDepth 20000 in
theorem gX2_canIssue_X2_mayIssueFor : GoodIn wsX2_canIssue (wsV RX2 171 RX2 yX2_mayIssueFor wsX2_mayIssueFor) := goodIn_app (goodIn_of _ (by decide +kernel)) ggX2_canIssue_X2_mayIssueFor
set_option maxRecDepth 20000 in
theorem ggX2_canIssue_X1_goodOn : GoodIn wsX2_canIssue wsX1_goodOn := goodIn_r _ [40, 41, 42, 43, 44, 39, 45, 46, 47, 48, 49, 50, 51, 52, 53, 54, 55, 56, 57, 58, 34, 13, 35, 72, 73, 74, 75, 76, 77, 78, 79, 80] (by decide +kernel) (by decide +kernel)
set_option maxRecDepth 20000 in
theorem gX2_canIssue_X1_goodOn : GoodIn wsX2_canIssue (wsV RX2 141 RX1 yX1_goodOn wsX1_goodOn) := goodIn_app (goodIn_of _ (by decide +kernel)) ggX2_canIssue_X1_goodOn
set_option maxRecDepth 20000 in
theorem ggX2_canIssue_X2_contains : GoodIn wsX2_canIssue wsX2_contains := goodIn_r _ [35] (by decide +kernel) (by decide +kernel)
set_option maxRecDepth 20000 in
theorem gX2_canIssue_X2_contains : GoodIn wsX2_canIssue (va_wsS RX2 145 yX2_contains wsX2_contains) := goodIn_app (goodIn_of _ (by decide +kernel)) ggX2_canIssue_X2_contains
theorem dX2_canIssue_0 : decode cX2_canIssue 0 = .ok (.aload_n 0, 1) := by decide +kernel
theorem dX2_canIssue_1 : decode cX2_canIssue 1 = .ok (.getfield 19, 3) := by decide +kernel
theorem dX2_canIssue_4 : decode cX2_canIssue 4 = .ok (.invokevirtual 170, 3) := by decide +kernel
theorem dX2_canIssue_7 : decode cX2_canIssue 7 = .ok (.ifCond .ne 43, 3) := by decide +kernel
theorem dX2_canIssue_10 : decode cX2_canIssue 10 = .ok (.aload_n 0, 1) := by decide +kernel
theorem dX2_canIssue_11 : decode cX2_canIssue 11 = .ok (.iload_n 1, 1) := by decide +kernel
theorem dX2_canIssue_12 : decode cX2_canIssue 12 = .ok (.invokevirtual 138, 3) := by decide +kernel
theorem dX2_canIssue_15 : decode cX2_canIssue 15 = .ok (.ifCond .le 35, 3) := by decide +kernel
theorem dX2_canIssue_18 : decode cX2_canIssue 18 = .ok (.aload_n 0, 1) := by decide +kernel
theorem dX2_canIssue_19 : decode cX2_canIssue 19 = .ok (.iload_n 1, 1) := by decide +kernel
theorem dX2_canIssue_20 : decode cX2_canIssue 20 = .ok (.iload_n 2, 1) := by decide +kernel
theorem dX2_canIssue_21 : decode cX2_canIssue 21 = .ok (.invokevirtual 171, 3) := by decide +kernel
theorem dX2_canIssue_24 : decode cX2_canIssue 24 = .ok (.ifCond .eq 26, 3) := by decide +kernel
theorem dX2_canIssue_27 : decode cX2_canIssue 27 = .ok (.aload_n 0, 1) := by decide +kernel
theorem dX2_canIssue_28 : decode cX2_canIssue 28 = .ok (.getfield 10, 3) := by decide +kernel
theorem dX2_canIssue_31 : decode cX2_canIssue 31 = .ok (.aload_n 0, 1) := by decide +kernel
theorem dX2_canIssue_32 : decode cX2_canIssue 32 = .ok (.getfield 31, 3) := by decide +kernel
theorem dX2_canIssue_35 : decode cX2_canIssue 35 = .ok (.iconst (-1), 1) := by decide +kernel
theorem dX2_canIssue_36 : decode cX2_canIssue 36 = .ok (.invokevirtual 141, 3) := by decide +kernel
theorem dX2_canIssue_39 : decode cX2_canIssue 39 = .ok (.iload_n 1, 1) := by decide +kernel
theorem dX2_canIssue_40 : decode cX2_canIssue 40 = .ok (.invokestatic 145, 3) := by decide +kernel
theorem dX2_canIssue_43 : decode cX2_canIssue 43 = .ok (.ifCond .eq 7, 3) := by decide +kernel
theorem dX2_canIssue_46 : decode cX2_canIssue 46 = .ok (.iconst 1, 1) := by decide +kernel
theorem dX2_canIssue_47 : decode cX2_canIssue 47 = .ok (.goto 4, 3) := by decide +kernel
theorem dX2_canIssue_50 : decode cX2_canIssue 50 = .ok (.iconst 0, 1) := by decide +kernel
theorem dX2_canIssue_51 : decode cX2_canIssue 51 = .ok (.ireturn, 1) := by decide +kernel
set_option maxRecDepth 20000 in
theorem ggX2_mayIssueFor_X2_namesOf : GoodIn wsX2_mayIssueFor wsX2_namesOf := goodIn_r _ [5] (by decide +kernel) (by decide +kernel)
set_option maxRecDepth 20000 in
theorem gX2_mayIssueFor_X2_namesOf : GoodIn wsX2_mayIssueFor (va_wsS RX2 174 yX2_namesOf wsX2_namesOf) := goodIn_app (goodIn_of _ (by decide +kernel)) ggX2_mayIssueFor_X2_namesOf
set_option maxRecDepth 20000 in
theorem ggX2_mayIssueFor_X2_contains : GoodIn wsX2_mayIssueFor wsX2_contains := goodIn_r _ [8] (by decide +kernel) (by decide +kernel)
set_option maxRecDepth 20000 in
theorem gX2_mayIssueFor_X2_contains : GoodIn wsX2_mayIssueFor (va_wsS RX2 145 yX2_contains wsX2_contains) := goodIn_app (goodIn_of _ (by decide +kernel)) ggX2_mayIssueFor_X2_contains
theorem dX2_mayIssueFor_0 : decode cX2_mayIssueFor 0 = .ok (.iload_n 2, 1) := by decide +kernel
theorem dX2_mayIssueFor_1 : decode cX2_mayIssueFor 1 = .ok (.invokestatic 174, 3) := by decide +kernel
theorem dX2_mayIssueFor_4 : decode cX2_mayIssueFor 4 = .ok (.istore_n 3, 1) := by decide +kernel
theorem dX2_mayIssueFor_5 : decode cX2_mayIssueFor 5 = .ok (.iconst 0, 1) := by decide +kernel
theorem dX2_mayIssueFor_6 : decode cX2_mayIssueFor 6 = .ok (.istore 4, 2) := by decide +kernel
theorem dX2_mayIssueFor_8 : decode cX2_mayIssueFor 8 = .ok (.iload 4, 2) := by decide +kernel
theorem dX2_mayIssueFor_10 : decode cX2_mayIssueFor 10 = .ok (.bipush 16, 2) := by decide +kernel
theorem dX2_mayIssueFor_12 : decode cX2_mayIssueFor 12 = .ok (.if_icmp .ge 43, 3) := by decide +kernel
theorem dX2_mayIssueFor_15 : decode cX2_mayIssueFor 15 = .ok (.aload_n 0, 1) := by decide +kernel
theorem dX2_mayIssueFor_16 : decode cX2_mayIssueFor 16 = .ok (.getfield 23, 3) := by decide +kernel
theorem dX2_mayIssueFor_19 : decode cX2_mayIssueFor 19 = .ok (.iload 4, 2) := by decide +kernel
theorem dX2_mayIssueFor_21 : decode cX2_mayIssueFor 21 = .ok (.iaload, 1) := by decide +kernel
theorem dX2_mayIssueFor_22 : decode cX2_mayIssueFor 22 = .ok (.istore 5, 2) := by decide +kernel
theorem dX2_mayIssueFor_24 : decode cX2_mayIssueFor 24 = .ok (.iload_n 3, 1) := by decide +kernel
theorem dX2_mayIssueFor_25 : decode cX2_mayIssueFor 25 = .ok (.iload 4, 2) := by decide +kernel
theorem dX2_mayIssueFor_27 : decode cX2_mayIssueFor 27 = .ok (.invokestatic 145, 3) := by decide +kernel
theorem dX2_mayIssueFor_30 : decode cX2_mayIssueFor 30 = .ok (.ifCond .eq 19, 3) := by decide +kernel
theorem dX2_mayIssueFor_33 : decode cX2_mayIssueFor 33 = .ok (.iload 5, 2) := by decide +kernel
theorem dX2_mayIssueFor_35 : decode cX2_mayIssueFor 35 = .ok (.ifCond .eq 14, 3) := by decide +kernel
theorem dX2_mayIssueFor_38 : decode cX2_mayIssueFor 38 = .ok (.iload 5, 2) := by decide +kernel
theorem dX2_mayIssueFor_40 : decode cX2_mayIssueFor 40 = .ok (.iload_n 1, 1) := by decide +kernel
theorem dX2_mayIssueFor_41 : decode cX2_mayIssueFor 41 = .ok (.invokestatic 145, 3) := by decide +kernel
theorem dX2_mayIssueFor_44 : decode cX2_mayIssueFor 44 = .ok (.ifCond .ne 5, 3) := by decide +kernel
theorem dX2_mayIssueFor_47 : decode cX2_mayIssueFor 47 = .ok (.iconst 0, 1) := by decide +kernel
theorem dX2_mayIssueFor_48 : decode cX2_mayIssueFor 48 = .ok (.ireturn, 1) := by decide +kernel
theorem dX2_mayIssueFor_49 : decode cX2_mayIssueFor 49 = .ok (.iinc 4 1, 3) := by decide +kernel
theorem dX2_mayIssueFor_52 : decode cX2_mayIssueFor 52 = .ok (.goto (-44), 3) := by decide +kernel
theorem dX2_mayIssueFor_55 : decode cX2_mayIssueFor 55 = .ok (.iconst 1, 1) := by decide +kernel
theorem dX2_mayIssueFor_56 : decode cX2_mayIssueFor 56 = .ok (.ireturn, 1) := by decide +kernel
set_option maxRecDepth 20000 in
theorem ggX2_roomThisWeek_X2_weekOf : GoodIn wsX2_roomThisWeek wsX2_weekOf := goodIn_r _ [8] (by decide +kernel) (by decide +kernel)
set_option maxRecDepth 20000 in
theorem gX2_roomThisWeek_X2_weekOf : GoodIn wsX2_roomThisWeek (va_wsS RX2 180 yX2_weekOf wsX2_weekOf) := goodIn_app (goodIn_of _ (by decide +kernel)) ggX2_roomThisWeek_X2_weekOf
set_option maxRecDepth 20000 in
theorem ggX2_roomThisWeek_X0_issuedInWeek : GoodIn wsX2_roomThisWeek wsX0_issuedInWeek := goodIn_r _ [13, 14, 15, 16, 6, 7, 8, 31, 32, 33, 34, 35, 36, 37, 38] (by decide +kernel) (by decide +kernel)
set_option maxRecDepth 20000 in
theorem gX2_roomThisWeek_X0_issuedInWeek : GoodIn wsX2_roomThisWeek (wsV RX2 183 RX0 yX0_issuedInWeek wsX0_issuedInWeek) := goodIn_app (goodIn_of _ (by decide +kernel)) ggX2_roomThisWeek_X0_issuedInWeek
theorem dX2_roomThisWeek_0 : decode cX2_roomThisWeek 0 = .ok (.aload_n 0, 1) := by decide +kernel
theorem dX2_roomThisWeek_1 : decode cX2_roomThisWeek 1 = .ok (.getfield 10, 3) := by decide +kernel
theorem dX2_roomThisWeek_4 : decode cX2_roomThisWeek 4 = .ok (.getfield 177, 3) := by decide +kernel
theorem dX2_roomThisWeek_7 : decode cX2_roomThisWeek 7 = .ok (.iload_n 1, 1) := by decide +kernel
theorem dX2_roomThisWeek_8 : decode cX2_roomThisWeek 8 = .ok (.iaload, 1) := by decide +kernel
theorem dX2_roomThisWeek_9 : decode cX2_roomThisWeek 9 = .ok (.aload_n 0, 1) := by decide +kernel
theorem dX2_roomThisWeek_10 : decode cX2_roomThisWeek 10 = .ok (.getfield 19, 3) := by decide +kernel
theorem dX2_roomThisWeek_13 : decode cX2_roomThisWeek 13 = .ok (.iload_n 1, 1) := by decide +kernel
theorem dX2_roomThisWeek_14 : decode cX2_roomThisWeek 14 = .ok (.aload_n 0, 1) := by decide +kernel
theorem dX2_roomThisWeek_15 : decode cX2_roomThisWeek 15 = .ok (.getfield 31, 3) := by decide +kernel
theorem dX2_roomThisWeek_18 : decode cX2_roomThisWeek 18 = .ok (.invokestatic 180, 3) := by decide +kernel
theorem dX2_roomThisWeek_21 : decode cX2_roomThisWeek 21 = .ok (.invokevirtual 183, 3) := by decide +kernel
theorem dX2_roomThisWeek_24 : decode cX2_roomThisWeek 24 = .ok (.isub, 1) := by decide +kernel
theorem dX2_roomThisWeek_25 : decode cX2_roomThisWeek 25 = .ok (.ireturn, 1) := by decide +kernel
set_option maxRecDepth 20000 in
theorem ggX2_makeCertificate_X2_drawOffset : GoodIn wsX2_makeCertificate wsX2_drawOffset := goodIn_r _ [7, 8, 9, 22, 23, 24, 25, 26] (by decide +kernel) (by decide +kernel)
set_option maxRecDepth 20000 in
theorem gX2_makeCertificate_X2_drawOffset : GoodIn wsX2_makeCertificate (wsV RX2 186 RX2 yX2_drawOffset wsX2_drawOffset) := goodIn_app (goodIn_of _ (by decide +kernel)) ggX2_makeCertificate_X2_drawOffset
set_option maxRecDepth 20000 in
theorem ggX2_makeCertificate_X0_append : GoodIn wsX2_makeCertificate wsX0_append := goodIn_r _ [14, 15, 16, 17, 18, 19, 20, 21, 27, 28, 29, 30, 31, 32, 33, 34] (by decide +kernel) (by decide +kernel)
set_option maxRecDepth 20000 in
theorem gX2_makeCertificate_X0_append : GoodIn wsX2_makeCertificate (wsV RX2 189 RX0 yX0_append wsX0_append) := goodIn_app (goodIn_of _ (by decide +kernel)) ggX2_makeCertificate_X0_append
theorem dX2_makeCertificate_0 : decode cX2_makeCertificate 0 = .ok (.aload_n 0, 1) := by decide +kernel
theorem dX2_makeCertificate_1 : decode cX2_makeCertificate 1 = .ok (.getfield 19, 3) := by decide +kernel
theorem dX2_makeCertificate_4 : decode cX2_makeCertificate 4 = .ok (.iload_n 1, 1) := by decide +kernel
theorem dX2_makeCertificate_5 : decode cX2_makeCertificate 5 = .ok (.iload_n 2, 1) := by decide +kernel
theorem dX2_makeCertificate_6 : decode cX2_makeCertificate 6 = .ok (.aload_n 0, 1) := by decide +kernel
theorem dX2_makeCertificate_7 : decode cX2_makeCertificate 7 = .ok (.getfield 31, 3) := by decide +kernel
theorem dX2_makeCertificate_10 : decode cX2_makeCertificate 10 = .ok (.iload_n 3, 1) := by decide +kernel
theorem dX2_makeCertificate_11 : decode cX2_makeCertificate 11 = .ok (.aload_n 0, 1) := by decide +kernel
theorem dX2_makeCertificate_12 : decode cX2_makeCertificate 12 = .ok (.iload_n 3, 1) := by decide +kernel
theorem dX2_makeCertificate_13 : decode cX2_makeCertificate 13 = .ok (.invokevirtual 186, 3) := by decide +kernel
theorem dX2_makeCertificate_16 : decode cX2_makeCertificate 16 = .ok (.invokevirtual 189, 3) := by decide +kernel
theorem dX2_makeCertificate_19 : decode cX2_makeCertificate 19 = .ok (.ireturn, 1) := by decide +kernel
theorem dX2_drawOffset_0 : decode cX2_drawOffset 0 = .ok (.aload_n 0, 1) := by decide +kernel
theorem dX2_drawOffset_1 : decode cX2_drawOffset 1 = .ok (.aload_n 0, 1) := by decide +kernel
theorem dX2_drawOffset_2 : decode cX2_drawOffset 2 = .ok (.getfield 27, 3) := by decide +kernel
theorem dX2_drawOffset_5 : decode cX2_drawOffset 5 = .ok (.ldc 192, 2) := by decide +kernel
theorem dX2_drawOffset_7 : decode cX2_drawOffset 7 = .ok (.imul, 1) := by decide +kernel
theorem dX2_drawOffset_8 : decode cX2_drawOffset 8 = .ok (.sipush 12345, 3) := by decide +kernel
theorem dX2_drawOffset_11 : decode cX2_drawOffset 11 = .ok (.iadd, 1) := by decide +kernel
theorem dX2_drawOffset_12 : decode cX2_drawOffset 12 = .ok (.putfield 27, 3) := by decide +kernel
theorem dX2_drawOffset_15 : decode cX2_drawOffset 15 = .ok (.aload_n 0, 1) := by decide +kernel
theorem dX2_drawOffset_16 : decode cX2_drawOffset 16 = .ok (.getfield 27, 3) := by decide +kernel
theorem dX2_drawOffset_19 : decode cX2_drawOffset 19 = .ok (.bipush 16, 2) := by decide +kernel
theorem dX2_drawOffset_21 : decode cX2_drawOffset 21 = .ok (.iushr, 1) := by decide +kernel
theorem dX2_drawOffset_22 : decode cX2_drawOffset 22 = .ok (.iload_n 1, 1) := by decide +kernel
theorem dX2_drawOffset_23 : decode cX2_drawOffset 23 = .ok (.bipush 6, 2) := by decide +kernel
theorem dX2_drawOffset_25 : decode cX2_drawOffset 25 = .ok (.idiv, 1) := by decide +kernel
theorem dX2_drawOffset_26 : decode cX2_drawOffset 26 = .ok (.iconst 1, 1) := by decide +kernel
theorem dX2_drawOffset_27 : decode cX2_drawOffset 27 = .ok (.iadd, 1) := by decide +kernel
theorem dX2_drawOffset_28 : decode cX2_drawOffset 28 = .ok (.irem, 1) := by decide +kernel
theorem dX2_drawOffset_29 : decode cX2_drawOffset 29 = .ok (.ireturn, 1) := by decide +kernel
set_option maxRecDepth 20000 in
theorem ggX2_renewDueCertificates_X0_fillQueue : GoodIn wsX2_renewDueCertificates wsX0_fillQueue := goodIn_r _ [12, 13, 14, 15, 16, 11, 17, 18, 19, 20, 21, 22, 23, 24, 25, 26, 27, 28, 29, 30, 31, 32, 33, 34, 112, 113, 114, 115, 116, 117, 118, 119] (by decide +kernel) (by decide +kernel)
set_option maxRecDepth 20000 in
theorem gX2_renewDueCertificates_X0_fillQueue : GoodIn wsX2_renewDueCertificates (wsV RX2 127 RX0 yX0_fillQueue wsX0_fillQueue) := goodIn_app (goodIn_of _ (by decide +kernel)) ggX2_renewDueCertificates_X0_fillQueue
set_option maxRecDepth 20000 in
theorem ggX2_renewDueCertificates_X2_canIssue : GoodIn wsX2_renewDueCertificates wsX2_canIssue := goodIn_r _ [39, 1, 40, 2, 41, 42, 43, 11, 44, 13, 45, 46, 47, 38, 48, 49, 50, 51, 52, 53, 54, 55, 56, 57, 23, 58, 59, 60, 61, 62, 63, 64, 65, 66, 67, 68, 69, 70, 71, 72, 73, 74, 75, 76, 77, 78, 79, 80, 81, 82, 83, 84, 85, 86, 87, 88, 89, 90, 91, 107, 108, 109, 110, 111, 112, 113, 114, 115, 116, 117, 118, 119, 120, 121, 122, 123, 124, 125, 126, 127, 128] (by decide +kernel) (by decide +kernel)
set_option maxRecDepth 20000 in
theorem gX2_renewDueCertificates_X2_canIssue : GoodIn wsX2_renewDueCertificates (wsV RX2 90 RX2 yX2_canIssue wsX2_canIssue) := goodIn_app (goodIn_of _ (by decide +kernel)) ggX2_renewDueCertificates_X2_canIssue
set_option maxRecDepth 20000 in
theorem ggX2_renewDueCertificates_X2_makeCertificate : GoodIn wsX2_renewDueCertificates wsX2_makeCertificate := goodIn_r _ [95, 1, 2, 96, 97, 98, 38, 99, 100, 101, 102, 103, 104, 11, 105, 13, 57, 106, 23, 24, 25, 18, 107, 108, 109, 110, 111, 112, 113, 114, 115, 116, 117, 118, 119] (by decide +kernel) (by decide +kernel)
set_option maxRecDepth 20000 in
theorem gX2_renewDueCertificates_X2_makeCertificate : GoodIn wsX2_renewDueCertificates (wsV RX2 95 RX2 yX2_makeCertificate wsX2_makeCertificate) := goodIn_app (goodIn_of _ (by decide +kernel)) ggX2_renewDueCertificates_X2_makeCertificate
theorem dX2_renewDueCertificates_0 : decode cX2_renewDueCertificates 0 = .ok (.aload_n 0, 1) := by decide +kernel
theorem dX2_renewDueCertificates_1 : decode cX2_renewDueCertificates 1 = .ok (.getfield 19, 3) := by decide +kernel
theorem dX2_renewDueCertificates_4 : decode cX2_renewDueCertificates 4 = .ok (.aload_n 0, 1) := by decide +kernel
theorem dX2_renewDueCertificates_5 : decode cX2_renewDueCertificates 5 = .ok (.getfield 31, 3) := by decide +kernel
theorem dX2_renewDueCertificates_8 : decode cX2_renewDueCertificates 8 = .ok (.invokevirtual 127, 3) := by decide +kernel
theorem dX2_renewDueCertificates_11 : decode cX2_renewDueCertificates 11 = .ok (.istore_n 1, 1) := by decide +kernel
theorem dX2_renewDueCertificates_12 : decode cX2_renewDueCertificates 12 = .ok (.iconst 0, 1) := by decide +kernel
theorem dX2_renewDueCertificates_13 : decode cX2_renewDueCertificates 13 = .ok (.istore_n 2, 1) := by decide +kernel
theorem dX2_renewDueCertificates_14 : decode cX2_renewDueCertificates 14 = .ok (.iconst 0, 1) := by decide +kernel
theorem dX2_renewDueCertificates_15 : decode cX2_renewDueCertificates 15 = .ok (.istore_n 3, 1) := by decide +kernel
theorem dX2_renewDueCertificates_16 : decode cX2_renewDueCertificates 16 = .ok (.iload_n 3, 1) := by decide +kernel
theorem dX2_renewDueCertificates_17 : decode cX2_renewDueCertificates 17 = .ok (.iload_n 1, 1) := by decide +kernel
theorem dX2_renewDueCertificates_18 : decode cX2_renewDueCertificates 18 = .ok (.if_icmp .ge 86, 3) := by decide +kernel
theorem dX2_renewDueCertificates_21 : decode cX2_renewDueCertificates 21 = .ok (.aload_n 0, 1) := by decide +kernel
theorem dX2_renewDueCertificates_22 : decode cX2_renewDueCertificates 22 = .ok (.getfield 19, 3) := by decide +kernel
theorem dX2_renewDueCertificates_25 : decode cX2_renewDueCertificates 25 = .ok (.getfield 135, 3) := by decide +kernel
theorem dX2_renewDueCertificates_28 : decode cX2_renewDueCertificates 28 = .ok (.iload_n 3, 1) := by decide +kernel
theorem dX2_renewDueCertificates_29 : decode cX2_renewDueCertificates 29 = .ok (.iaload, 1) := by decide +kernel
theorem dX2_renewDueCertificates_30 : decode cX2_renewDueCertificates 30 = .ok (.istore 4, 2) := by decide +kernel
theorem dX2_renewDueCertificates_32 : decode cX2_renewDueCertificates 32 = .ok (.aload_n 0, 1) := by decide +kernel
theorem dX2_renewDueCertificates_33 : decode cX2_renewDueCertificates 33 = .ok (.getfield 19, 3) := by decide +kernel
theorem dX2_renewDueCertificates_36 : decode cX2_renewDueCertificates 36 = .ok (.getfield 114, 3) := by decide +kernel
theorem dX2_renewDueCertificates_39 : decode cX2_renewDueCertificates 39 = .ok (.iload 4, 2) := by decide +kernel
theorem dX2_renewDueCertificates_41 : decode cX2_renewDueCertificates 41 = .ok (.iaload, 1) := by decide +kernel
theorem dX2_renewDueCertificates_42 : decode cX2_renewDueCertificates 42 = .ok (.istore 5, 2) := by decide +kernel
theorem dX2_renewDueCertificates_44 : decode cX2_renewDueCertificates 44 = .ok (.aload_n 0, 1) := by decide +kernel
theorem dX2_renewDueCertificates_45 : decode cX2_renewDueCertificates 45 = .ok (.getfield 19, 3) := by decide +kernel
theorem dX2_renewDueCertificates_48 : decode cX2_renewDueCertificates 48 = .ok (.getfield 193, 3) := by decide +kernel
theorem dX2_renewDueCertificates_51 : decode cX2_renewDueCertificates 51 = .ok (.iload 4, 2) := by decide +kernel
theorem dX2_renewDueCertificates_53 : decode cX2_renewDueCertificates 53 = .ok (.iaload, 1) := by decide +kernel
theorem dX2_renewDueCertificates_54 : decode cX2_renewDueCertificates 54 = .ok (.istore 6, 2) := by decide +kernel
theorem dX2_renewDueCertificates_56 : decode cX2_renewDueCertificates 56 = .ok (.aload_n 0, 1) := by decide +kernel
theorem dX2_renewDueCertificates_57 : decode cX2_renewDueCertificates 57 = .ok (.iload 5, 2) := by decide +kernel
theorem dX2_renewDueCertificates_59 : decode cX2_renewDueCertificates 59 = .ok (.iload 6, 2) := by decide +kernel
theorem dX2_renewDueCertificates_61 : decode cX2_renewDueCertificates 61 = .ok (.invokevirtual 90, 3) := by decide +kernel
theorem dX2_renewDueCertificates_64 : decode cX2_renewDueCertificates 64 = .ok (.ifCond .eq 34, 3) := by decide +kernel
theorem dX2_renewDueCertificates_67 : decode cX2_renewDueCertificates 67 = .ok (.aload_n 0, 1) := by decide +kernel
theorem dX2_renewDueCertificates_68 : decode cX2_renewDueCertificates 68 = .ok (.getfield 19, 3) := by decide +kernel
theorem dX2_renewDueCertificates_71 : decode cX2_renewDueCertificates 71 = .ok (.getfield 124, 3) := by decide +kernel
theorem dX2_renewDueCertificates_74 : decode cX2_renewDueCertificates 74 = .ok (.iload 4, 2) := by decide +kernel
theorem dX2_renewDueCertificates_76 : decode cX2_renewDueCertificates 76 = .ok (.aload_n 0, 1) := by decide +kernel
theorem dX2_renewDueCertificates_77 : decode cX2_renewDueCertificates 77 = .ok (.iload 5, 2) := by decide +kernel
theorem dX2_renewDueCertificates_79 : decode cX2_renewDueCertificates 79 = .ok (.iload 6, 2) := by decide +kernel
theorem dX2_renewDueCertificates_81 : decode cX2_renewDueCertificates 81 = .ok (.aload_n 0, 1) := by decide +kernel
theorem dX2_renewDueCertificates_82 : decode cX2_renewDueCertificates 82 = .ok (.getfield 19, 3) := by decide +kernel
theorem dX2_renewDueCertificates_85 : decode cX2_renewDueCertificates 85 = .ok (.getfield 196, 3) := by decide +kernel
theorem dX2_renewDueCertificates_88 : decode cX2_renewDueCertificates 88 = .ok (.iload 4, 2) := by decide +kernel
theorem dX2_renewDueCertificates_90 : decode cX2_renewDueCertificates 90 = .ok (.iaload, 1) := by decide +kernel
theorem dX2_renewDueCertificates_91 : decode cX2_renewDueCertificates 91 = .ok (.invokevirtual 95, 3) := by decide +kernel
theorem dX2_renewDueCertificates_94 : decode cX2_renewDueCertificates 94 = .ok (.iastore, 1) := by decide +kernel
theorem dX2_renewDueCertificates_95 : decode cX2_renewDueCertificates 95 = .ok (.iinc 2 1, 3) := by decide +kernel
theorem dX2_renewDueCertificates_98 : decode cX2_renewDueCertificates 98 = .ok (.iinc 3 1, 3) := by decide +kernel
theorem dX2_renewDueCertificates_101 : decode cX2_renewDueCertificates 101 = .ok (.goto (-85), 3) := by decide +kernel
theorem dX2_renewDueCertificates_104 : decode cX2_renewDueCertificates 104 = .ok (.iload_n 2, 1) := by decide +kernel
theorem dX2_renewDueCertificates_105 : decode cX2_renewDueCertificates 105 = .ok (.ireturn, 1) := by decide +kernel
set_option maxRecDepth 20000 in
theorem ggX2_namesCovered_X1_goodOn : GoodIn wsX2_namesCovered wsX1_goodOn := goodIn_r _ [7, 8, 9, 10, 11, 6, 12, 13, 14, 15, 16, 17, 18, 19, 20, 21, 22, 23, 24, 25, 26, 27, 28, 50, 51, 52, 53, 54, 55, 56, 57, 58] (by decide +kernel) (by decide +kernel)
set_option maxRecDepth 20000 in
theorem gX2_namesCovered_X1_goodOn : GoodIn wsX2_namesCovered (wsV RX2 141 RX1 yX1_goodOn wsX1_goodOn) := goodIn_app (goodIn_of _ (by decide +kernel)) ggX2_namesCovered_X1_goodOn
set_option maxRecDepth 20000 in
theorem ggX2_namesCovered_X0_namesHeld : GoodIn wsX2_namesCovered wsX0_namesHeld := goodIn_r _ [33, 34, 35, 36, 37, 38, 39, 40, 32, 41, 42, 26, 27, 28, 43, 44, 59, 60, 61, 62, 63, 64, 65, 66] (by decide +kernel) (by decide +kernel)
set_option maxRecDepth 20000 in
theorem gX2_namesCovered_X0_namesHeld : GoodIn wsX2_namesCovered (wsV RX2 199 RX0 yX0_namesHeld wsX0_namesHeld) := goodIn_app (goodIn_of _ (by decide +kernel)) ggX2_namesCovered_X0_namesHeld
theorem dX2_namesCovered_0 : decode cX2_namesCovered 0 = .ok (.aload_n 0, 1) := by decide +kernel
theorem dX2_namesCovered_1 : decode cX2_namesCovered 1 = .ok (.getfield 19, 3) := by decide +kernel
theorem dX2_namesCovered_4 : decode cX2_namesCovered 4 = .ok (.iload_n 1, 1) := by decide +kernel
theorem dX2_namesCovered_5 : decode cX2_namesCovered 5 = .ok (.aload_n 0, 1) := by decide +kernel
theorem dX2_namesCovered_6 : decode cX2_namesCovered 6 = .ok (.getfield 10, 3) := by decide +kernel
theorem dX2_namesCovered_9 : decode cX2_namesCovered 9 = .ok (.iload_n 1, 1) := by decide +kernel
theorem dX2_namesCovered_10 : decode cX2_namesCovered 10 = .ok (.iload_n 2, 1) := by decide +kernel
theorem dX2_namesCovered_11 : decode cX2_namesCovered 11 = .ok (.invokevirtual 141, 3) := by decide +kernel
theorem dX2_namesCovered_14 : decode cX2_namesCovered 14 = .ok (.invokevirtual 199, 3) := by decide +kernel
theorem dX2_namesCovered_17 : decode cX2_namesCovered 17 = .ok (.ireturn, 1) := by decide +kernel
set_option maxRecDepth 20000 in
theorem ggX2_namesLostWithout_X2_namesCovered : GoodIn wsX2_namesLostWithout wsX2_namesCovered := goodIn_r _ [5, 6, 7, 8, 9, 10, 11, 12, 13, 14, 15, 16, 17, 18, 19, 20, 21, 22, 23, 24, 25, 26, 27, 28, 29, 30, 31, 4, 32, 33, 34, 35, 36, 37, 38, 39, 40, 41, 42, 43, 44, 45, 46, 47, 48, 49, 50, 51, 52, 53, 54, 55, 56, 57, 58, 59, 60, 61, 62, 63, 64, 65, 66, 67, 68, 69, 70] (by decide +kernel) (by decide +kernel)
set_option maxRecDepth 20000 in
theorem gX2_namesLostWithout_X2_namesCovered : GoodIn wsX2_namesLostWithout (wsV RX2 151 RX2 yX2_namesCovered wsX2_namesCovered) := goodIn_app (goodIn_of _ (by decide +kernel)) ggX2_namesLostWithout_X2_namesCovered
theorem dX2_namesLostWithout_0 : decode cX2_namesLostWithout 0 = .ok (.aload_n 0, 1) := by decide +kernel
theorem dX2_namesLostWithout_1 : decode cX2_namesLostWithout 1 = .ok (.iload_n 2, 1) := by decide +kernel
theorem dX2_namesLostWithout_2 : decode cX2_namesLostWithout 2 = .ok (.iconst (-1), 1) := by decide +kernel
theorem dX2_namesLostWithout_3 : decode cX2_namesLostWithout 3 = .ok (.invokevirtual 151, 3) := by decide +kernel
theorem dX2_namesLostWithout_6 : decode cX2_namesLostWithout 6 = .ok (.aload_n 0, 1) := by decide +kernel
theorem dX2_namesLostWithout_7 : decode cX2_namesLostWithout 7 = .ok (.iload_n 2, 1) := by decide +kernel
theorem dX2_namesLostWithout_8 : decode cX2_namesLostWithout 8 = .ok (.iload_n 1, 1) := by decide +kernel
theorem dX2_namesLostWithout_9 : decode cX2_namesLostWithout 9 = .ok (.invokevirtual 151, 3) := by decide +kernel
theorem dX2_namesLostWithout_12 : decode cX2_namesLostWithout 12 = .ok (.iconst (-1), 1) := by decide +kernel
theorem dX2_namesLostWithout_13 : decode cX2_namesLostWithout 13 = .ok (.ixor, 1) := by decide +kernel
theorem dX2_namesLostWithout_14 : decode cX2_namesLostWithout 14 = .ok (.iand, 1) := by decide +kernel
theorem dX2_namesLostWithout_15 : decode cX2_namesLostWithout 15 = .ok (.ireturn, 1) := by decide +kernel
theorem dX2_namesOf_0 : decode cX2_namesOf 0 = .ok (.iload_n 0, 1) := by decide +kernel
theorem dX2_namesOf_1 : decode cX2_namesOf 1 = .ok (.bipush 16, 2) := by decide +kernel
theorem dX2_namesOf_3 : decode cX2_namesOf 3 = .ok (.if_icmp .ge 7, 3) := by decide +kernel
theorem dX2_namesOf_6 : decode cX2_namesOf 6 = .ok (.iconst 1, 1) := by decide +kernel
theorem dX2_namesOf_7 : decode cX2_namesOf 7 = .ok (.iload_n 0, 1) := by decide +kernel
theorem dX2_namesOf_8 : decode cX2_namesOf 8 = .ok (.ishl, 1) := by decide +kernel
theorem dX2_namesOf_9 : decode cX2_namesOf 9 = .ok (.ireturn, 1) := by decide +kernel
theorem dX2_namesOf_10 : decode cX2_namesOf 10 = .ok (.bipush 15, 2) := by decide +kernel
theorem dX2_namesOf_12 : decode cX2_namesOf 12 = .ok (.iload_n 0, 1) := by decide +kernel
theorem dX2_namesOf_13 : decode cX2_namesOf 13 = .ok (.bipush 16, 2) := by decide +kernel
theorem dX2_namesOf_15 : decode cX2_namesOf 15 = .ok (.isub, 1) := by decide +kernel
theorem dX2_namesOf_16 : decode cX2_namesOf 16 = .ok (.iconst 4, 1) := by decide +kernel
theorem dX2_namesOf_17 : decode cX2_namesOf 17 = .ok (.imul, 1) := by decide +kernel
theorem dX2_namesOf_18 : decode cX2_namesOf 18 = .ok (.ishl, 1) := by decide +kernel
theorem dX2_namesOf_19 : decode cX2_namesOf 19 = .ok (.ireturn, 1) := by decide +kernel
theorem dX2_contains_0 : decode cX2_contains 0 = .ok (.iload_n 0, 1) := by decide +kernel
theorem dX2_contains_1 : decode cX2_contains 1 = .ok (.iload_n 1, 1) := by decide +kernel
theorem dX2_contains_2 : decode cX2_contains 2 = .ok (.ishr, 1) := by decide +kernel
theorem dX2_contains_3 : decode cX2_contains 3 = .ok (.iconst 1, 1) := by decide +kernel
theorem dX2_contains_4 : decode cX2_contains 4 = .ok (.iand, 1) := by decide +kernel
theorem dX2_contains_5 : decode cX2_contains 5 = .ok (.ifCond .eq 7, 3) := by decide +kernel
theorem dX2_contains_8 : decode cX2_contains 8 = .ok (.iconst 1, 1) := by decide +kernel
theorem dX2_contains_9 : decode cX2_contains 9 = .ok (.goto 4, 3) := by decide +kernel
theorem dX2_contains_12 : decode cX2_contains 12 = .ok (.iconst 0, 1) := by decide +kernel
theorem dX2_contains_13 : decode cX2_contains 13 = .ok (.ireturn, 1) := by decide +kernel
theorem dX2_weekOf_0 : decode cX2_weekOf 0 = .ok (.iload_n 0, 1) := by decide +kernel
theorem dX2_weekOf_1 : decode cX2_weekOf 1 = .ok (.bipush 7, 2) := by decide +kernel
theorem dX2_weekOf_3 : decode cX2_weekOf 3 = .ok (.idiv, 1) := by decide +kernel
theorem dX2_weekOf_4 : decode cX2_weekOf 4 = .ok (.ireturn, 1) := by decide +kernel
theorem dJ6_bitCount_0f7a4_0 : decode cJ6_bitCount_0f7a4 0 = .ok (.iload_n 0, 1) := by decide +kernel
theorem dJ6_bitCount_0f7a4_1 : decode cJ6_bitCount_0f7a4 1 = .ok (.iload_n 0, 1) := by decide +kernel
theorem dJ6_bitCount_0f7a4_2 : decode cJ6_bitCount_0f7a4 2 = .ok (.iconst 1, 1) := by decide +kernel
theorem dJ6_bitCount_0f7a4_3 : decode cJ6_bitCount_0f7a4 3 = .ok (.iushr, 1) := by decide +kernel
theorem dJ6_bitCount_0f7a4_4 : decode cJ6_bitCount_0f7a4 4 = .ok (.ldc_w 265, 3) := by decide +kernel
theorem dJ6_bitCount_0f7a4_7 : decode cJ6_bitCount_0f7a4 7 = .ok (.iand, 1) := by decide +kernel
theorem dJ6_bitCount_0f7a4_8 : decode cJ6_bitCount_0f7a4 8 = .ok (.isub, 1) := by decide +kernel
theorem dJ6_bitCount_0f7a4_9 : decode cJ6_bitCount_0f7a4 9 = .ok (.istore_n 0, 1) := by decide +kernel
theorem dJ6_bitCount_0f7a4_10 : decode cJ6_bitCount_0f7a4 10 = .ok (.iload_n 0, 1) := by decide +kernel
theorem dJ6_bitCount_0f7a4_11 : decode cJ6_bitCount_0f7a4 11 = .ok (.ldc_w 266, 3) := by decide +kernel
theorem dJ6_bitCount_0f7a4_14 : decode cJ6_bitCount_0f7a4 14 = .ok (.iand, 1) := by decide +kernel
theorem dJ6_bitCount_0f7a4_15 : decode cJ6_bitCount_0f7a4 15 = .ok (.iload_n 0, 1) := by decide +kernel
theorem dJ6_bitCount_0f7a4_16 : decode cJ6_bitCount_0f7a4 16 = .ok (.iconst 2, 1) := by decide +kernel
theorem dJ6_bitCount_0f7a4_17 : decode cJ6_bitCount_0f7a4 17 = .ok (.iushr, 1) := by decide +kernel
theorem dJ6_bitCount_0f7a4_18 : decode cJ6_bitCount_0f7a4 18 = .ok (.ldc_w 266, 3) := by decide +kernel
theorem dJ6_bitCount_0f7a4_21 : decode cJ6_bitCount_0f7a4 21 = .ok (.iand, 1) := by decide +kernel
theorem dJ6_bitCount_0f7a4_22 : decode cJ6_bitCount_0f7a4 22 = .ok (.iadd, 1) := by decide +kernel
theorem dJ6_bitCount_0f7a4_23 : decode cJ6_bitCount_0f7a4 23 = .ok (.istore_n 0, 1) := by decide +kernel
theorem dJ6_bitCount_0f7a4_24 : decode cJ6_bitCount_0f7a4 24 = .ok (.iload_n 0, 1) := by decide +kernel
theorem dJ6_bitCount_0f7a4_25 : decode cJ6_bitCount_0f7a4 25 = .ok (.iload_n 0, 1) := by decide +kernel
theorem dJ6_bitCount_0f7a4_26 : decode cJ6_bitCount_0f7a4 26 = .ok (.iconst 4, 1) := by decide +kernel
theorem dJ6_bitCount_0f7a4_27 : decode cJ6_bitCount_0f7a4 27 = .ok (.iushr, 1) := by decide +kernel
theorem dJ6_bitCount_0f7a4_28 : decode cJ6_bitCount_0f7a4 28 = .ok (.iadd, 1) := by decide +kernel
theorem dJ6_bitCount_0f7a4_29 : decode cJ6_bitCount_0f7a4 29 = .ok (.ldc_w 267, 3) := by decide +kernel
theorem dJ6_bitCount_0f7a4_32 : decode cJ6_bitCount_0f7a4 32 = .ok (.iand, 1) := by decide +kernel
theorem dJ6_bitCount_0f7a4_33 : decode cJ6_bitCount_0f7a4 33 = .ok (.istore_n 0, 1) := by decide +kernel
theorem dJ6_bitCount_0f7a4_34 : decode cJ6_bitCount_0f7a4 34 = .ok (.iload_n 0, 1) := by decide +kernel
theorem dJ6_bitCount_0f7a4_35 : decode cJ6_bitCount_0f7a4 35 = .ok (.iload_n 0, 1) := by decide +kernel
theorem dJ6_bitCount_0f7a4_36 : decode cJ6_bitCount_0f7a4 36 = .ok (.bipush 8, 2) := by decide +kernel
theorem dJ6_bitCount_0f7a4_38 : decode cJ6_bitCount_0f7a4 38 = .ok (.iushr, 1) := by decide +kernel
theorem dJ6_bitCount_0f7a4_39 : decode cJ6_bitCount_0f7a4 39 = .ok (.iadd, 1) := by decide +kernel
theorem dJ6_bitCount_0f7a4_40 : decode cJ6_bitCount_0f7a4 40 = .ok (.istore_n 0, 1) := by decide +kernel
theorem dJ6_bitCount_0f7a4_41 : decode cJ6_bitCount_0f7a4 41 = .ok (.iload_n 0, 1) := by decide +kernel
theorem dJ6_bitCount_0f7a4_42 : decode cJ6_bitCount_0f7a4 42 = .ok (.iload_n 0, 1) := by decide +kernel
theorem dJ6_bitCount_0f7a4_43 : decode cJ6_bitCount_0f7a4 43 = .ok (.bipush 16, 2) := by decide +kernel
theorem dJ6_bitCount_0f7a4_45 : decode cJ6_bitCount_0f7a4 45 = .ok (.iushr, 1) := by decide +kernel
theorem dJ6_bitCount_0f7a4_46 : decode cJ6_bitCount_0f7a4 46 = .ok (.iadd, 1) := by decide +kernel
theorem dJ6_bitCount_0f7a4_47 : decode cJ6_bitCount_0f7a4 47 = .ok (.istore_n 0, 1) := by decide +kernel
theorem dJ6_bitCount_0f7a4_48 : decode cJ6_bitCount_0f7a4 48 = .ok (.iload_n 0, 1) := by decide +kernel
theorem dJ6_bitCount_0f7a4_49 : decode cJ6_bitCount_0f7a4 49 = .ok (.bipush 63, 2) := by decide +kernel
theorem dJ6_bitCount_0f7a4_51 : decode cJ6_bitCount_0f7a4 51 = .ok (.iand, 1) := by decide +kernel
theorem dJ6_bitCount_0f7a4_52 : decode cJ6_bitCount_0f7a4 52 = .ok (.ireturn, 1) := by decide +kernel
theorem dJ9_max_7cf53_0 : decode cJ9_max_7cf53 0 = .ok (.iload_n 0, 1) := by decide +kernel
theorem dJ9_max_7cf53_1 : decode cJ9_max_7cf53 1 = .ok (.iload_n 1, 1) := by decide +kernel
theorem dJ9_max_7cf53_2 : decode cJ9_max_7cf53 2 = .ok (.if_icmp .lt 7, 3) := by decide +kernel
theorem dJ9_max_7cf53_5 : decode cJ9_max_7cf53 5 = .ok (.iload_n 0, 1) := by decide +kernel
theorem dJ9_max_7cf53_6 : decode cJ9_max_7cf53 6 = .ok (.goto 4, 3) := by decide +kernel
theorem dJ9_max_7cf53_9 : decode cJ9_max_7cf53 9 = .ok (.iload_n 1, 1) := by decide +kernel
theorem dJ9_max_7cf53_10 : decode cJ9_max_7cf53 10 = .ok (.ireturn, 1) := by decide +kernel
theorem dJ9_min_7cf53_0 : decode cJ9_min_7cf53 0 = .ok (.iload_n 0, 1) := by decide +kernel
theorem dJ9_min_7cf53_1 : decode cJ9_min_7cf53 1 = .ok (.iload_n 1, 1) := by decide +kernel
theorem dJ9_min_7cf53_2 : decode cJ9_min_7cf53 2 = .ok (.if_icmp .gt 7, 3) := by decide +kernel
theorem dJ9_min_7cf53_5 : decode cJ9_min_7cf53 5 = .ok (.iload_n 0, 1) := by decide +kernel
theorem dJ9_min_7cf53_6 : decode cJ9_min_7cf53 6 = .ok (.goto 4, 3) := by decide +kernel
theorem dJ9_min_7cf53_9 : decode cJ9_min_7cf53 9 = .ok (.iload_n 1, 1) := by decide +kernel
theorem dJ9_min_7cf53_10 : decode cJ9_min_7cf53 10 = .ok (.ireturn, 1) := by decide +kernel
