theorem dX3_isAllowedWord_4 : decode cX3_isAllowedWord 4 = .ok (.iload_n 2, 1) := by decide +kernel
theorem dX3_isAllowedWord_5 : decode cX3_isAllowedWord 5 = .ok (.aload_n 0, 1) := by decide +kernel
theorem dX3_isAllowedWord_6 : decode cX3_isAllowedWord 6 = .ok (.getfield 122, 3) := by decide +kernel
theorem dX3_isAllowedWord_9 : decode cX3_isAllowedWord 9 = .ok (.if_icmp .ge 39, 3) := by decide +kernel
theorem dX3_isAllowedWord_12 : decode cX3_isAllowedWord 12 = .ok (.iload_n 1, 1) := by decide +kernel
theorem dX3_isAllowedWord_13 : decode cX3_isAllowedWord 13 = .ok (.ifCond .eq 27, 3) := by decide +kernel
theorem dX3_isAllowedWord_16 : decode cX3_isAllowedWord 16 = .ok (.aload_n 0, 1) := by decide +kernel
theorem dX3_isAllowedWord_17 : decode cX3_isAllowedWord 17 = .ok (.getfield 96, 3) := by decide +kernel
theorem dX3_isAllowedWord_20 : decode cX3_isAllowedWord 20 = .ok (.aload_n 0, 1) := by decide +kernel
theorem dX3_isAllowedWord_21 : decode cX3_isAllowedWord 21 = .ok (.aload_n 0, 1) := by decide +kernel
theorem dX3_isAllowedWord_22 : decode cX3_isAllowedWord 22 = .ok (.getfield 20, 3) := by decide +kernel
theorem dX3_isAllowedWord_25 : decode cX3_isAllowedWord 25 = .ok (.iload_n 2, 1) := by decide +kernel
theorem dX3_isAllowedWord_26 : decode cX3_isAllowedWord 26 = .ok (.iaload, 1) := by decide +kernel
theorem dX3_isAllowedWord_27 : decode cX3_isAllowedWord 27 = .ok (.invokevirtual 125, 3) := by decide +kernel
theorem dX3_isAllowedWord_30 : decode cX3_isAllowedWord 30 = .ok (.invokestatic 60, 3) := by decide +kernel
theorem dX3_isAllowedWord_33 : decode cX3_isAllowedWord 33 = .ok (.ifCond .eq 7, 3) := by decide +kernel
theorem dX3_isAllowedWord_36 : decode cX3_isAllowedWord 36 = .ok (.iconst 1, 1) := by decide +kernel
theorem dX3_isAllowedWord_37 : decode cX3_isAllowedWord 37 = .ok (.goto 4, 3) := by decide +kernel
theorem dX3_isAllowedWord_40 : decode cX3_isAllowedWord 40 = .ok (.iconst 0, 1) := by decide +kernel
theorem dX3_isAllowedWord_41 : decode cX3_isAllowedWord 41 = .ok (.istore_n 1, 1) := by decide +kernel
theorem dX3_isAllowedWord_42 : decode cX3_isAllowedWord 42 = .ok (.iinc 2 1, 3) := by decide +kernel
theorem dX3_isAllowedWord_45 : decode cX3_isAllowedWord 45 = .ok (.goto (-41), 3) := by decide +kernel
theorem dX3_isAllowedWord_48 : decode cX3_isAllowedWord 48 = .ok (.iload_n 1, 1) := by decide +kernel
theorem dX3_isAllowedWord_49 : decode cX3_isAllowedWord 49 = .ok (.ireturn, 1) := by decide +kernel
set_option maxRecDepth 20000 in
theorem ggX3_run_X3_isWord : GoodIn wsX3_run wsX3_isWord := goodIn_r _ [8, 2, 9, 10, 11, 7, 12, 3, 13, 14, 15, 16, 17, 18, 19, 20, 21, 22, 23, 24, 45, 46, 47, 48, 49, 50, 51, 52, 53, 54, 55, 56, 57, 58, 59, 60, 61, 62, 63] (by decide +kernel) (by decide +kernel)
set_option maxRecDepth 20000 in
theorem gX3_run_X3_isWord : GoodIn wsX3_run (wsV RX3 145 RX3 yX3_isWord wsX3_isWord) := goodIn_app (goodIn_of _ (by decide +kernel)) ggX3_run_X3_isWord
set_option maxRecDepth 20000 in
theorem ggX3_run_X3_isAllowedWord : GoodIn wsX3_run wsX3_isAllowedWord := goodIn_r _ [28, 2, 29, 3, 13, 14, 15, 7, 16, 17, 18, 19, 20, 21, 22, 23, 24, 30, 31, 32, 45, 46, 47, 48, 49, 50, 51, 52, 53, 54, 55, 56, 57, 58, 59, 60, 61, 62, 63] (by decide +kernel) (by decide +kernel)
set_option maxRecDepth 20000 in
theorem gX3_run_X3_isAllowedWord : GoodIn wsX3_run (wsV RX3 149 RX3 yX3_isAllowedWord wsX3_isAllowedWord) := goodIn_app (goodIn_of _ (by decide +kernel)) ggX3_run_X3_isAllowedWord
set_option maxRecDepth 20000 in
theorem ggX3_run_X3_moveBy : GoodIn wsX3_run wsX3_moveBy := goodIn_r _ [16, 17, 18, 7, 19, 20, 21, 22, 23, 24, 45, 46, 47, 48, 49, 50, 51, 52, 53, 54, 55, 56, 57, 58, 59, 60, 61, 62, 63] (by decide +kernel) (by decide +kernel)
set_option maxRecDepth 20000 in
theorem gX3_run_X3_moveBy : GoodIn wsX3_run (wsV RX3 125 RX3 yX3_moveBy wsX3_moveBy) := goodIn_app (goodIn_of _ (by decide +kernel)) ggX3_run_X3_moveBy
set_option maxRecDepth 20000 in
theorem ggX3_run_X3_doMove : GoodIn wsX3_run wsX3_doMove := goodIn_r _ [36, 37, 38, 39, 40, 41, 42, 7, 43, 44, 45, 46, 47, 48, 49, 50, 51, 52, 53, 54, 55, 56, 57, 58, 59, 60, 61, 62, 63] (by decide +kernel) (by decide +kernel)
set_option maxRecDepth 20000 in
theorem gX3_run_X3_doMove : GoodIn wsX3_run (wsV RX3 109 RX3 yX3_doMove wsX3_doMove) := goodIn_app (goodIn_of _ (by decide +kernel)) ggX3_run_X3_doMove
theorem dX3_run_0 : decode cX3_run 0 = .ok (.aload_n 0, 1) := by decide +kernel
theorem dX3_run_1 : decode cX3_run 1 = .ok (.aload_n 0, 1) := by decide +kernel
theorem dX3_run_2 : decode cX3_run 2 = .ok (.invokevirtual 145, 3) := by decide +kernel
theorem dX3_run_5 : decode cX3_run 5 = .ok (.ifCond .ne 7, 3) := by decide +kernel
theorem dX3_run_8 : decode cX3_run 8 = .ok (.iconst 1, 1) := by decide +kernel
theorem dX3_run_9 : decode cX3_run 9 = .ok (.goto 15, 3) := by decide +kernel
theorem dX3_run_12 : decode cX3_run 12 = .ok (.aload_n 0, 1) := by decide +kernel
theorem dX3_run_13 : decode cX3_run 13 = .ok (.invokevirtual 149, 3) := by decide +kernel
theorem dX3_run_16 : decode cX3_run 16 = .ok (.ifCond .eq 7, 3) := by decide +kernel
theorem dX3_run_19 : decode cX3_run 19 = .ok (.iconst 0, 1) := by decide +kernel
theorem dX3_run_20 : decode cX3_run 20 = .ok (.goto 4, 3) := by decide +kernel
theorem dX3_run_23 : decode cX3_run 23 = .ok (.iconst 2, 1) := by decide +kernel
theorem dX3_run_24 : decode cX3_run 24 = .ok (.putfield 46, 3) := by decide +kernel
theorem dX3_run_27 : decode cX3_run 27 = .ok (.aload_n 0, 1) := by decide +kernel
theorem dX3_run_28 : decode cX3_run 28 = .ok (.getfield 46, 3) := by decide +kernel
theorem dX3_run_31 : decode cX3_run 31 = .ok (.ifCond .le 5, 3) := by decide +kernel
theorem dX3_run_34 : decode cX3_run 34 = .ok (.iconst 0, 1) := by decide +kernel
theorem dX3_run_35 : decode cX3_run 35 = .ok (.ireturn, 1) := by decide +kernel
theorem dX3_run_36 : decode cX3_run 36 = .ok (.aload_n 0, 1) := by decide +kernel
theorem dX3_run_37 : decode cX3_run 37 = .ok (.getfield 122, 3) := by decide +kernel
theorem dX3_run_40 : decode cX3_run 40 = .ok (.istore_n 1, 1) := by decide +kernel
theorem dX3_run_41 : decode cX3_run 41 = .ok (.iconst 0, 1) := by decide +kernel
theorem dX3_run_42 : decode cX3_run 42 = .ok (.istore_n 2, 1) := by decide +kernel
theorem dX3_run_43 : decode cX3_run 43 = .ok (.iload_n 2, 1) := by decide +kernel
theorem dX3_run_44 : decode cX3_run 44 = .ok (.iload_n 1, 1) := by decide +kernel
theorem dX3_run_45 : decode cX3_run 45 = .ok (.if_icmp .ge 24, 3) := by decide +kernel
theorem dX3_run_48 : decode cX3_run 48 = .ok (.aload_n 0, 1) := by decide +kernel
theorem dX3_run_49 : decode cX3_run 49 = .ok (.aload_n 0, 1) := by decide +kernel
theorem dX3_run_50 : decode cX3_run 50 = .ok (.aload_n 0, 1) := by decide +kernel
theorem dX3_run_51 : decode cX3_run 51 = .ok (.getfield 20, 3) := by decide +kernel
theorem dX3_run_54 : decode cX3_run 54 = .ok (.iload_n 2, 1) := by decide +kernel
theorem dX3_run_55 : decode cX3_run 55 = .ok (.iaload, 1) := by decide +kernel
theorem dX3_run_56 : decode cX3_run 56 = .ok (.invokevirtual 125, 3) := by decide +kernel
theorem dX3_run_59 : decode cX3_run 59 = .ok (.invokevirtual 109, 3) := by decide +kernel
theorem dX3_run_62 : decode cX3_run 62 = .ok (.pop, 1) := by decide +kernel
theorem dX3_run_63 : decode cX3_run 63 = .ok (.iinc 2 1, 3) := by decide +kernel
theorem dX3_run_66 : decode cX3_run 66 = .ok (.goto (-23), 3) := by decide +kernel
theorem dX3_run_69 : decode cX3_run 69 = .ok (.aload_n 0, 1) := by decide +kernel
theorem dX3_run_70 : decode cX3_run 70 = .ok (.iconst 0, 1) := by decide +kernel
theorem dX3_run_71 : decode cX3_run 71 = .ok (.putfield 122, 3) := by decide +kernel
theorem dX3_run_74 : decode cX3_run 74 = .ok (.iload_n 1, 1) := by decide +kernel
theorem dX3_run_75 : decode cX3_run 75 = .ok (.ireturn, 1) := by decide +kernel
set_option maxRecDepth 20000 in
theorem ggX3_order_X3_isWord : GoodIn wsX3_order wsX3_isWord := goodIn_r _ [10, 3, 11, 12, 13, 9, 14, 4, 15, 16, 17, 18, 19, 20, 21, 22, 23, 24, 25, 26, 52, 53, 54, 55, 56, 57, 58, 59, 60, 61, 62, 63, 64, 65, 66, 67, 68, 69, 70] (by decide +kernel) (by decide +kernel)
set_option maxRecDepth 20000 in
theorem gX3_order_X3_isWord : GoodIn wsX3_order (wsV RX3 145 RX3 yX3_isWord wsX3_isWord) := goodIn_app (goodIn_of _ (by decide +kernel)) ggX3_order_X3_isWord
set_option maxRecDepth 20000 in
theorem ggX3_order_X3_read : GoodIn wsX3_order wsX3_read := goodIn_r _ [30, 31, 32, 33, 34, 9, 35, 36, 37, 38, 52, 53, 54, 55, 56, 57, 58, 59, 60, 61, 62, 63, 64, 65, 66, 67, 68, 69, 70] (by decide +kernel) (by decide +kernel)
set_option maxRecDepth 20000 in
theorem gX3_order_X3_read : GoodIn wsX3_order (wsV RX3 64 RX3 yX3_read wsX3_read) := goodIn_app (goodIn_of _ (by decide +kernel)) ggX3_order_X3_read
set_option maxRecDepth 20000 in
theorem ggX3_order_X3_moveBy : GoodIn wsX3_order wsX3_moveBy := goodIn_r _ [18, 19, 20, 9, 21, 22, 23, 24, 25, 26, 52, 53, 54, 55, 56, 57, 58, 59, 60, 61, 62, 63, 64, 65, 66, 67, 68, 69, 70] (by decide +kernel) (by decide +kernel)
set_option maxRecDepth 20000 in
theorem gX3_order_X3_moveBy : GoodIn wsX3_order (wsV RX3 125 RX3 yX3_moveBy wsX3_moveBy) := goodIn_app (goodIn_of _ (by decide +kernel)) ggX3_order_X3_moveBy
set_option maxRecDepth 20000 in
theorem ggX3_order_X3_shift : GoodIn wsX3_order wsX3_shift := goodIn_r _ [42, 31, 43, 52, 53, 54, 55, 56, 57, 58, 59, 60, 61, 62, 63, 64, 65, 66, 67, 68, 69, 70] (by decide +kernel) (by decide +kernel)
set_option maxRecDepth 20000 in
theorem gX3_order_X3_shift : GoodIn wsX3_order (wsV RX3 68 RX3 yX3_shift wsX3_shift) := goodIn_app (goodIn_of _ (by decide +kernel)) ggX3_order_X3_shift
set_option maxRecDepth 20000 in
theorem ggX3_order_X3_copy : GoodIn wsX3_order wsX3_copy := goodIn_r _ [47, 31, 2, 5, 52, 53, 54, 55, 56, 57, 58, 59, 60, 61, 62, 63, 64, 65, 66, 67, 68, 69, 70] (by decide +kernel) (by decide +kernel)
set_option maxRecDepth 20000 in
theorem gX3_order_X3_copy : GoodIn wsX3_order (wsV RX3 152 RX3 yX3_copy wsX3_copy) := goodIn_app (goodIn_of _ (by decide +kernel)) ggX3_order_X3_copy
set_option maxRecDepth 20000 in
theorem ggX3_order_X3_numberOf : GoodIn wsX3_order wsX3_numberOf := goodIn_r _ [51, 31, 52, 53, 54, 55, 56, 57, 58, 59, 60, 61, 62, 63, 64, 65, 66, 67, 68, 69, 70] (by decide +kernel) (by decide +kernel)
set_option maxRecDepth 20000 in
theorem gX3_order_X3_numberOf : GoodIn wsX3_order (wsV RX3 72 RX3 yX3_numberOf wsX3_numberOf) := goodIn_app (goodIn_of _ (by decide +kernel)) ggX3_order_X3_numberOf
theorem dX3_order_0 : decode cX3_order 0 = .ok (.aload_n 0, 1) := by decide +kernel
theorem dX3_order_1 : decode cX3_order 1 = .ok (.aload_n 0, 1) := by decide +kernel
theorem dX3_order_2 : decode cX3_order 2 = .ok (.invokevirtual 145, 3) := by decide +kernel
theorem dX3_order_5 : decode cX3_order 5 = .ok (.ifCond .eq 7, 3) := by decide +kernel
theorem dX3_order_8 : decode cX3_order 8 = .ok (.iconst 0, 1) := by decide +kernel
theorem dX3_order_9 : decode cX3_order 9 = .ok (.goto 4, 3) := by decide +kernel
theorem dX3_order_12 : decode cX3_order 12 = .ok (.iconst 1, 1) := by decide +kernel
theorem dX3_order_13 : decode cX3_order 13 = .ok (.putfield 46, 3) := by decide +kernel
theorem dX3_order_16 : decode cX3_order 16 = .ok (.aload_n 0, 1) := by decide +kernel
theorem dX3_order_17 : decode cX3_order 17 = .ok (.getfield 46, 3) := by decide +kernel
theorem dX3_order_20 : decode cX3_order 20 = .ok (.ifCond .le 5, 3) := by decide +kernel
theorem dX3_order_23 : decode cX3_order 23 = .ok (.iconst 0, 1) := by decide +kernel
theorem dX3_order_24 : decode cX3_order 24 = .ok (.ireturn, 1) := by decide +kernel
theorem dX3_order_25 : decode cX3_order 25 = .ok (.aload_n 0, 1) := by decide +kernel
theorem dX3_order_26 : decode cX3_order 26 = .ok (.iconst 0, 1) := by decide +kernel
theorem dX3_order_27 : decode cX3_order 27 = .ok (.aload_n 0, 1) := by decide +kernel
theorem dX3_order_28 : decode cX3_order 28 = .ok (.getfield 23, 3) := by decide +kernel
theorem dX3_order_31 : decode cX3_order 31 = .ok (.invokevirtual 64, 3) := by decide +kernel
theorem dX3_order_34 : decode cX3_order 34 = .ok (.iconst 0, 1) := by decide +kernel
theorem dX3_order_35 : decode cX3_order 35 = .ok (.istore_n 1, 1) := by decide +kernel
theorem dX3_order_36 : decode cX3_order 36 = .ok (.iconst 1, 1) := by decide +kernel
theorem dX3_order_37 : decode cX3_order 37 = .ok (.istore_n 2, 1) := by decide +kernel
theorem dX3_order_38 : decode cX3_order 38 = .ok (.iload_n 2, 1) := by decide +kernel
theorem dX3_order_39 : decode cX3_order 39 = .ok (.ifCond .eq 68, 3) := by decide +kernel
theorem dX3_order_42 : decode cX3_order 42 = .ok (.iconst 0, 1) := by decide +kernel
theorem dX3_order_43 : decode cX3_order 43 = .ok (.istore_n 3, 1) := by decide +kernel
theorem dX3_order_44 : decode cX3_order 44 = .ok (.iload_n 3, 1) := by decide +kernel
theorem dX3_order_45 : decode cX3_order 45 = .ok (.aload_n 0, 1) := by decide +kernel
theorem dX3_order_46 : decode cX3_order 46 = .ok (.getfield 122, 3) := by decide +kernel
theorem dX3_order_49 : decode cX3_order 49 = .ok (.if_icmp .ge 35, 3) := by decide +kernel
theorem dX3_order_52 : decode cX3_order 52 = .ok (.aload_n 0, 1) := by decide +kernel
theorem dX3_order_53 : decode cX3_order 53 = .ok (.aload_n 0, 1) := by decide +kernel
theorem dX3_order_54 : decode cX3_order 54 = .ok (.aload_n 0, 1) := by decide +kernel
theorem dX3_order_55 : decode cX3_order 55 = .ok (.getfield 20, 3) := by decide +kernel
theorem dX3_order_58 : decode cX3_order 58 = .ok (.iload_n 3, 1) := by decide +kernel
theorem dX3_order_59 : decode cX3_order 59 = .ok (.iaload, 1) := by decide +kernel
theorem dX3_order_60 : decode cX3_order 60 = .ok (.invokevirtual 125, 3) := by decide +kernel
theorem dX3_order_63 : decode cX3_order 63 = .ok (.aload_n 0, 1) := by decide +kernel
theorem dX3_order_64 : decode cX3_order 64 = .ok (.getfield 23, 3) := by decide +kernel
theorem dX3_order_67 : decode cX3_order 67 = .ok (.aload_n 0, 1) := by decide +kernel
theorem dX3_order_68 : decode cX3_order 68 = .ok (.getfield 26, 3) := by decide +kernel
theorem dX3_order_71 : decode cX3_order 71 = .ok (.invokevirtual 68, 3) := by decide +kernel
theorem dX3_order_74 : decode cX3_order 74 = .ok (.aload_n 0, 1) := by decide +kernel
theorem dX3_order_75 : decode cX3_order 75 = .ok (.invokevirtual 152, 3) := by decide +kernel
theorem dX3_order_78 : decode cX3_order 78 = .ok (.iinc 3 1, 3) := by decide +kernel
theorem dX3_order_81 : decode cX3_order 81 = .ok (.goto (-37), 3) := by decide +kernel
theorem dX3_order_84 : decode cX3_order 84 = .ok (.iinc 1 1, 3) := by decide +kernel
theorem dX3_order_87 : decode cX3_order 87 = .ok (.aload_n 0, 1) := by decide +kernel
theorem dX3_order_88 : decode cX3_order 88 = .ok (.aload_n 0, 1) := by decide +kernel
theorem dX3_order_89 : decode cX3_order 89 = .ok (.getfield 23, 3) := by decide +kernel
theorem dX3_order_92 : decode cX3_order 92 = .ok (.invokevirtual 72, 3) := by decide +kernel
theorem dX3_order_95 : decode cX3_order 95 = .ok (.ifCond .eq 7, 3) := by decide +kernel
theorem dX3_order_98 : decode cX3_order 98 = .ok (.iconst 1, 1) := by decide +kernel
theorem dX3_order_99 : decode cX3_order 99 = .ok (.goto 4, 3) := by decide +kernel
theorem dX3_order_102 : decode cX3_order 102 = .ok (.iconst 0, 1) := by decide +kernel
theorem dX3_order_103 : decode cX3_order 103 = .ok (.istore_n 2, 1) := by decide +kernel
theorem dX3_order_104 : decode cX3_order 104 = .ok (.goto (-66), 3) := by decide +kernel
theorem dX3_order_107 : decode cX3_order 107 = .ok (.iload_n 1, 1) := by decide +kernel
theorem dX3_order_108 : decode cX3_order 108 = .ok (.ireturn, 1) := by decide +kernel
theorem dX3_copy_0 : decode cX3_copy 0 = .ok (.iconst 0, 1) := by decide +kernel
theorem dX3_copy_1 : decode cX3_copy 1 = .ok (.istore_n 1, 1) := by decide +kernel
theorem dX3_copy_2 : decode cX3_copy 2 = .ok (.iload_n 1, 1) := by decide +kernel
theorem dX3_copy_3 : decode cX3_copy 3 = .ok (.aload_n 0, 1) := by decide +kernel
theorem dX3_copy_4 : decode cX3_copy 4 = .ok (.getfield 7, 3) := by decide +kernel
theorem dX3_copy_7 : decode cX3_copy 7 = .ok (.if_icmp .ge 21, 3) := by decide +kernel
theorem dX3_copy_10 : decode cX3_copy 10 = .ok (.aload_n 0, 1) := by decide +kernel
theorem dX3_copy_11 : decode cX3_copy 11 = .ok (.getfield 23, 3) := by decide +kernel
theorem dX3_copy_14 : decode cX3_copy 14 = .ok (.iload_n 1, 1) := by decide +kernel
theorem dX3_copy_15 : decode cX3_copy 15 = .ok (.aload_n 0, 1) := by decide +kernel
theorem dX3_copy_16 : decode cX3_copy 16 = .ok (.getfield 26, 3) := by decide +kernel
theorem dX3_copy_19 : decode cX3_copy 19 = .ok (.iload_n 1, 1) := by decide +kernel
theorem dX3_copy_20 : decode cX3_copy 20 = .ok (.iaload, 1) := by decide +kernel
theorem dX3_copy_21 : decode cX3_copy 21 = .ok (.iastore, 1) := by decide +kernel
theorem dX3_copy_22 : decode cX3_copy 22 = .ok (.iinc 1 1, 3) := by decide +kernel
theorem dX3_copy_25 : decode cX3_copy 25 = .ok (.goto (-23), 3) := by decide +kernel
theorem dX3_copy_28 : decode cX3_copy 28 = .ok (.return_, 1) := by decide +kernel
set_option maxRecDepth 20000 in
theorem ggX3_orbits_X3_has : GoodIn wsX3_orbits wsX3_has := goodIn_r _ [5] (by decide +kernel) (by decide +kernel)
set_option maxRecDepth 20000 in
theorem gX3_orbits_X3_has : GoodIn wsX3_orbits (va_wsS RX3 60 yX3_has wsX3_has) := goodIn_app (goodIn_of _ (by decide +kernel)) ggX3_orbits_X3_has
set_option maxRecDepth 20000 in
theorem ggX3_orbits_X3_reached : GoodIn wsX3_orbits wsX3_reached := goodIn_r _ [9, 10, 1, 11, 12, 2, 3, 4, 5, 13, 14, 15, 16, 17, 18, 19, 20, 21, 22, 23, 24, 25, 26, 27, 28, 29, 30, 31] (by decide +kernel) (by decide +kernel)
set_option maxRecDepth 20000 in
theorem gX3_orbits_X3_reached : GoodIn wsX3_orbits (wsV RX3 155 RX3 yX3_reached wsX3_reached) := goodIn_app (goodIn_of _ (by decide +kernel)) ggX3_orbits_X3_reached
theorem dX3_orbits_0 : decode cX3_orbits 0 = .ok (.iconst 0, 1) := by decide +kernel
theorem dX3_orbits_1 : decode cX3_orbits 1 = .ok (.istore_n 1, 1) := by decide +kernel
theorem dX3_orbits_2 : decode cX3_orbits 2 = .ok (.iconst 0, 1) := by decide +kernel
theorem dX3_orbits_3 : decode cX3_orbits 3 = .ok (.istore_n 2, 1) := by decide +kernel
theorem dX3_orbits_4 : decode cX3_orbits 4 = .ok (.iconst 0, 1) := by decide +kernel
theorem dX3_orbits_5 : decode cX3_orbits 5 = .ok (.istore_n 3, 1) := by decide +kernel
theorem dX3_orbits_6 : decode cX3_orbits 6 = .ok (.iload_n 3, 1) := by decide +kernel
theorem dX3_orbits_7 : decode cX3_orbits 7 = .ok (.aload_n 0, 1) := by decide +kernel
theorem dX3_orbits_8 : decode cX3_orbits 8 = .ok (.getfield 7, 3) := by decide +kernel
theorem dX3_orbits_11 : decode cX3_orbits 11 = .ok (.if_icmp .ge 57, 3) := by decide +kernel
theorem dX3_orbits_14 : decode cX3_orbits 14 = .ok (.iload_n 1, 1) := by decide +kernel
theorem dX3_orbits_15 : decode cX3_orbits 15 = .ok (.iload_n 3, 1) := by decide +kernel
theorem dX3_orbits_16 : decode cX3_orbits 16 = .ok (.invokestatic 60, 3) := by decide +kernel
theorem dX3_orbits_19 : decode cX3_orbits 19 = .ok (.ifCond .ne 43, 3) := by decide +kernel
theorem dX3_orbits_22 : decode cX3_orbits 22 = .ok (.iconst 1, 1) := by decide +kernel
theorem dX3_orbits_23 : decode cX3_orbits 23 = .ok (.iload_n 3, 1) := by decide +kernel
theorem dX3_orbits_24 : decode cX3_orbits 24 = .ok (.ishl, 1) := by decide +kernel
theorem dX3_orbits_25 : decode cX3_orbits 25 = .ok (.istore 4, 2) := by decide +kernel
theorem dX3_orbits_27 : decode cX3_orbits 27 = .ok (.iconst 0, 1) := by decide +kernel
theorem dX3_orbits_28 : decode cX3_orbits 28 = .ok (.istore 5, 2) := by decide +kernel
theorem dX3_orbits_30 : decode cX3_orbits 30 = .ok (.iload 5, 2) := by decide +kernel
theorem dX3_orbits_32 : decode cX3_orbits 32 = .ok (.bipush 8, 2) := by decide +kernel
theorem dX3_orbits_34 : decode cX3_orbits 34 = .ok (.if_icmp .ge 20, 3) := by decide +kernel
theorem dX3_orbits_37 : decode cX3_orbits 37 = .ok (.iload 4, 2) := by decide +kernel
theorem dX3_orbits_39 : decode cX3_orbits 39 = .ok (.aload_n 0, 1) := by decide +kernel
theorem dX3_orbits_40 : decode cX3_orbits 40 = .ok (.iload 4, 2) := by decide +kernel
theorem dX3_orbits_42 : decode cX3_orbits 42 = .ok (.invokevirtual 155, 3) := by decide +kernel
theorem dX3_orbits_45 : decode cX3_orbits 45 = .ok (.ior, 1) := by decide +kernel
theorem dX3_orbits_46 : decode cX3_orbits 46 = .ok (.istore 4, 2) := by decide +kernel
theorem dX3_orbits_48 : decode cX3_orbits 48 = .ok (.iinc 5 1, 3) := by decide +kernel
theorem dX3_orbits_51 : decode cX3_orbits 51 = .ok (.goto (-21), 3) := by decide +kernel
theorem dX3_orbits_54 : decode cX3_orbits 54 = .ok (.iload_n 1, 1) := by decide +kernel
theorem dX3_orbits_55 : decode cX3_orbits 55 = .ok (.iload 4, 2) := by decide +kernel
theorem dX3_orbits_57 : decode cX3_orbits 57 = .ok (.ior, 1) := by decide +kernel
theorem dX3_orbits_58 : decode cX3_orbits 58 = .ok (.istore_n 1, 1) := by decide +kernel
theorem dX3_orbits_59 : decode cX3_orbits 59 = .ok (.iinc 2 1, 3) := by decide +kernel
theorem dX3_orbits_62 : decode cX3_orbits 62 = .ok (.iinc 3 1, 3) := by decide +kernel
theorem dX3_orbits_65 : decode cX3_orbits 65 = .ok (.goto (-59), 3) := by decide +kernel
theorem dX3_orbits_68 : decode cX3_orbits 68 = .ok (.iload_n 2, 1) := by decide +kernel
theorem dX3_orbits_69 : decode cX3_orbits 69 = .ok (.ireturn, 1) := by decide +kernel
set_option maxRecDepth 20000 in
theorem ggX3_reached_X3_has : GoodIn wsX3_reached wsX3_has := goodIn_r _ [8] (by decide +kernel) (by decide +kernel)
set_option maxRecDepth 20000 in
theorem gX3_reached_X3_has : GoodIn wsX3_reached (va_wsS RX3 60 yX3_has wsX3_has) := goodIn_app (goodIn_of _ (by decide +kernel)) ggX3_reached_X3_has
theorem dX3_reached_0 : decode cX3_reached 0 = .ok (.iconst 0, 1) := by decide +kernel
theorem dX3_reached_1 : decode cX3_reached 1 = .ok (.istore_n 2, 1) := by decide +kernel
theorem dX3_reached_2 : decode cX3_reached 2 = .ok (.iconst 0, 1) := by decide +kernel
theorem dX3_reached_3 : decode cX3_reached 3 = .ok (.istore_n 3, 1) := by decide +kernel
theorem dX3_reached_4 : decode cX3_reached 4 = .ok (.iload_n 3, 1) := by decide +kernel
theorem dX3_reached_5 : decode cX3_reached 5 = .ok (.iconst 2, 1) := by decide +kernel
theorem dX3_reached_6 : decode cX3_reached 6 = .ok (.aload_n 0, 1) := by decide +kernel
theorem dX3_reached_7 : decode cX3_reached 7 = .ok (.getfield 53, 3) := by decide +kernel
theorem dX3_reached_10 : decode cX3_reached 10 = .ok (.imul, 1) := by decide +kernel
theorem dX3_reached_11 : decode cX3_reached 11 = .ok (.if_icmp .ge 92, 3) := by decide +kernel
theorem dX3_reached_14 : decode cX3_reached 14 = .ok (.iconst 0, 1) := by decide +kernel
theorem dX3_reached_15 : decode cX3_reached 15 = .ok (.istore 4, 2) := by decide +kernel
theorem dX3_reached_17 : decode cX3_reached 17 = .ok (.iload 4, 2) := by decide +kernel
theorem dX3_reached_19 : decode cX3_reached 19 = .ok (.aload_n 0, 1) := by decide +kernel
theorem dX3_reached_20 : decode cX3_reached 20 = .ok (.getfield 7, 3) := by decide +kernel
theorem dX3_reached_23 : decode cX3_reached 23 = .ok (.if_icmp .ge 74, 3) := by decide +kernel
theorem dX3_reached_26 : decode cX3_reached 26 = .ok (.aload_n 0, 1) := by decide +kernel
theorem dX3_reached_27 : decode cX3_reached 27 = .ok (.getfield 96, 3) := by decide +kernel
theorem dX3_reached_30 : decode cX3_reached 30 = .ok (.iload_n 3, 1) := by decide +kernel
theorem dX3_reached_31 : decode cX3_reached 31 = .ok (.invokestatic 60, 3) := by decide +kernel
theorem dX3_reached_34 : decode cX3_reached 34 = .ok (.ifCond .eq 63, 3) := by decide +kernel
theorem dX3_reached_37 : decode cX3_reached 37 = .ok (.aload_n 0, 1) := by decide +kernel
theorem dX3_reached_38 : decode cX3_reached 38 = .ok (.getfield 17, 3) := by decide +kernel
theorem dX3_reached_41 : decode cX3_reached 41 = .ok (.bipush 8, 2) := by decide +kernel
theorem dX3_reached_43 : decode cX3_reached 43 = .ok (.iload_n 3, 1) := by decide +kernel
theorem dX3_reached_44 : decode cX3_reached 44 = .ok (.imul, 1) := by decide +kernel
theorem dX3_reached_45 : decode cX3_reached 45 = .ok (.iload 4, 2) := by decide +kernel
theorem dX3_reached_47 : decode cX3_reached 47 = .ok (.iadd, 1) := by decide +kernel
theorem dX3_reached_48 : decode cX3_reached 48 = .ok (.iaload, 1) := by decide +kernel
theorem dX3_reached_49 : decode cX3_reached 49 = .ok (.istore 5, 2) := by decide +kernel
theorem dX3_reached_51 : decode cX3_reached 51 = .ok (.iload_n 2, 1) := by decide +kernel
theorem dX3_reached_52 : decode cX3_reached 52 = .ok (.iload_n 1, 1) := by decide +kernel
theorem dX3_reached_53 : decode cX3_reached 53 = .ok (.iload 4, 2) := by decide +kernel
theorem dX3_reached_55 : decode cX3_reached 55 = .ok (.invokestatic 60, 3) := by decide +kernel
theorem dX3_reached_58 : decode cX3_reached 58 = .ok (.ifCond .eq 10, 3) := by decide +kernel
theorem dX3_reached_61 : decode cX3_reached 61 = .ok (.iconst 1, 1) := by decide +kernel
theorem dX3_reached_62 : decode cX3_reached 62 = .ok (.iload 5, 2) := by decide +kernel
theorem dX3_reached_64 : decode cX3_reached 64 = .ok (.ishl, 1) := by decide +kernel
theorem dX3_reached_65 : decode cX3_reached 65 = .ok (.goto 4, 3) := by decide +kernel
theorem dX3_reached_68 : decode cX3_reached 68 = .ok (.iconst 0, 1) := by decide +kernel
theorem dX3_reached_69 : decode cX3_reached 69 = .ok (.ior, 1) := by decide +kernel
theorem dX3_reached_70 : decode cX3_reached 70 = .ok (.istore_n 2, 1) := by decide +kernel
theorem dX3_reached_71 : decode cX3_reached 71 = .ok (.iload_n 2, 1) := by decide +kernel
theorem dX3_reached_72 : decode cX3_reached 72 = .ok (.iload_n 1, 1) := by decide +kernel
theorem dX3_reached_73 : decode cX3_reached 73 = .ok (.iload 5, 2) := by decide +kernel
theorem dX3_reached_75 : decode cX3_reached 75 = .ok (.invokestatic 60, 3) := by decide +kernel
theorem dX3_reached_78 : decode cX3_reached 78 = .ok (.ifCond .eq 10, 3) := by decide +kernel
theorem dX3_reached_81 : decode cX3_reached 81 = .ok (.iconst 1, 1) := by decide +kernel
theorem dX3_reached_82 : decode cX3_reached 82 = .ok (.iload 4, 2) := by decide +kernel
theorem dX3_reached_84 : decode cX3_reached 84 = .ok (.ishl, 1) := by decide +kernel
theorem dX3_reached_85 : decode cX3_reached 85 = .ok (.goto 4, 3) := by decide +kernel
theorem dX3_reached_88 : decode cX3_reached 88 = .ok (.iconst 0, 1) := by decide +kernel
theorem dX3_reached_89 : decode cX3_reached 89 = .ok (.ior, 1) := by decide +kernel
theorem dX3_reached_90 : decode cX3_reached 90 = .ok (.istore_n 2, 1) := by decide +kernel
theorem dX3_reached_91 : decode cX3_reached 91 = .ok (.iinc 4 1, 3) := by decide +kernel
theorem dX3_reached_94 : decode cX3_reached 94 = .ok (.goto (-77), 3) := by decide +kernel
theorem dX3_reached_97 : decode cX3_reached 97 = .ok (.iinc 3 1, 3) := by decide +kernel
theorem dX3_reached_100 : decode cX3_reached 100 = .ok (.goto (-96), 3) := by decide +kernel
theorem dX3_reached_103 : decode cX3_reached 103 = .ok (.iload_n 2, 1) := by decide +kernel
theorem dX3_reached_104 : decode cX3_reached 104 = .ok (.ireturn, 1) := by decide +kernel
set_option maxRecDepth 20000 in
theorem ggX3_evenOnes_X3_read : GoodIn wsX3_evenOnes wsX3_read := goodIn_r _ [8, 9, 10, 11, 12, 7, 13, 14, 15, 16, 21, 22, 23, 24, 25, 26, 27, 28, 29, 30, 31, 32, 33, 34, 35, 36, 37, 38, 39] (by decide +kernel) (by decide +kernel)
set_option maxRecDepth 20000 in
theorem gX3_evenOnes_X3_read : GoodIn wsX3_evenOnes (wsV RX3 64 RX3 yX3_read wsX3_read) := goodIn_app (goodIn_of _ (by decide +kernel)) ggX3_evenOnes_X3_read
set_option maxRecDepth 20000 in
theorem ggX3_evenOnes_X3_isEven : GoodIn wsX3_evenOnes wsX3_isEven := goodIn_r _ [20, 9, 21, 22, 23, 24, 25, 26, 27, 28, 29, 30, 31, 32, 33, 34, 35, 36, 37, 38, 39] (by decide +kernel) (by decide +kernel)
set_option maxRecDepth 20000 in
theorem gX3_evenOnes_X3_isEven : GoodIn wsX3_evenOnes (wsV RX3 158 RX3 yX3_isEven wsX3_isEven) := goodIn_app (goodIn_of _ (by decide +kernel)) ggX3_evenOnes_X3_isEven
theorem dX3_evenOnes_0 : decode cX3_evenOnes 0 = .ok (.iconst 0, 1) := by decide +kernel
theorem dX3_evenOnes_1 : decode cX3_evenOnes 1 = .ok (.istore_n 1, 1) := by decide +kernel
theorem dX3_evenOnes_2 : decode cX3_evenOnes 2 = .ok (.iconst 0, 1) := by decide +kernel
theorem dX3_evenOnes_3 : decode cX3_evenOnes 3 = .ok (.istore_n 2, 1) := by decide +kernel
theorem dX3_evenOnes_4 : decode cX3_evenOnes 4 = .ok (.iload_n 2, 1) := by decide +kernel
theorem dX3_evenOnes_5 : decode cX3_evenOnes 5 = .ok (.aload_n 0, 1) := by decide +kernel
theorem dX3_evenOnes_6 : decode cX3_evenOnes 6 = .ok (.getfield 76, 3) := by decide +kernel
theorem dX3_evenOnes_9 : decode cX3_evenOnes 9 = .ok (.if_icmp .ge 42, 3) := by decide +kernel
theorem dX3_evenOnes_12 : decode cX3_evenOnes 12 = .ok (.aload_n 0, 1) := by decide +kernel
theorem dX3_evenOnes_13 : decode cX3_evenOnes 13 = .ok (.aload_n 0, 1) := by decide +kernel
theorem dX3_evenOnes_14 : decode cX3_evenOnes 14 = .ok (.getfield 33, 3) := by decide +kernel
theorem dX3_evenOnes_17 : decode cX3_evenOnes 17 = .ok (.iload_n 2, 1) := by decide +kernel
theorem dX3_evenOnes_18 : decode cX3_evenOnes 18 = .ok (.iaload, 1) := by decide +kernel
theorem dX3_evenOnes_19 : decode cX3_evenOnes 19 = .ok (.aload_n 0, 1) := by decide +kernel
theorem dX3_evenOnes_20 : decode cX3_evenOnes 20 = .ok (.getfield 23, 3) := by decide +kernel
theorem dX3_evenOnes_23 : decode cX3_evenOnes 23 = .ok (.invokevirtual 64, 3) := by decide +kernel
theorem dX3_evenOnes_26 : decode cX3_evenOnes 26 = .ok (.iload_n 1, 1) := by decide +kernel
theorem dX3_evenOnes_27 : decode cX3_evenOnes 27 = .ok (.aload_n 0, 1) := by decide +kernel
theorem dX3_evenOnes_28 : decode cX3_evenOnes 28 = .ok (.aload_n 0, 1) := by decide +kernel
theorem dX3_evenOnes_29 : decode cX3_evenOnes 29 = .ok (.getfield 23, 3) := by decide +kernel
theorem dX3_evenOnes_32 : decode cX3_evenOnes 32 = .ok (.invokevirtual 158, 3) := by decide +kernel
theorem dX3_evenOnes_35 : decode cX3_evenOnes 35 = .ok (.ifCond .eq 7, 3) := by decide +kernel
theorem dX3_evenOnes_38 : decode cX3_evenOnes 38 = .ok (.iconst 1, 1) := by decide +kernel
theorem dX3_evenOnes_39 : decode cX3_evenOnes 39 = .ok (.goto 4, 3) := by decide +kernel
theorem dX3_evenOnes_42 : decode cX3_evenOnes 42 = .ok (.iconst 0, 1) := by decide +kernel
theorem dX3_evenOnes_43 : decode cX3_evenOnes 43 = .ok (.iadd, 1) := by decide +kernel
theorem dX3_evenOnes_44 : decode cX3_evenOnes 44 = .ok (.istore_n 1, 1) := by decide +kernel
theorem dX3_evenOnes_45 : decode cX3_evenOnes 45 = .ok (.iinc 2 1, 3) := by decide +kernel
theorem dX3_evenOnes_48 : decode cX3_evenOnes 48 = .ok (.goto (-44), 3) := by decide +kernel
theorem dX3_evenOnes_51 : decode cX3_evenOnes 51 = .ok (.iload_n 1, 1) := by decide +kernel
theorem dX3_evenOnes_52 : decode cX3_evenOnes 52 = .ok (.ireturn, 1) := by decide +kernel
set_option maxRecDepth 20000 in
theorem ggX3_groupNow_X3_orbits : GoodIn wsX3_groupNow wsX3_orbits := goodIn_r _ [8, 9, 10, 11, 7, 12, 13, 14, 15, 16, 17, 18, 19, 37, 38, 39, 40, 41, 42, 43, 44, 45, 46, 47, 48, 49, 50, 51, 52, 53, 54, 55] (by decide +kernel) (by decide +kernel)
set_option maxRecDepth 20000 in
theorem gX3_groupNow_X3_orbits : GoodIn wsX3_groupNow (wsV RX3 162 RX3 yX3_orbits wsX3_orbits) := goodIn_app (goodIn_of _ (by decide +kernel)) ggX3_groupNow_X3_orbits
set_option maxRecDepth 20000 in
theorem ggX3_groupNow_X3_evenOnes : GoodIn wsX3_groupNow wsX3_evenOnes := goodIn_r _ [23, 1, 3, 24, 25, 26, 27, 7, 28, 9, 29, 30, 31, 32, 10, 11, 12, 33, 34, 35, 36, 37, 38, 39, 40, 41, 42, 43, 44, 45, 46, 47, 48, 49, 50, 51, 52, 53, 54, 55] (by decide +kernel) (by decide +kernel)
set_option maxRecDepth 20000 in
theorem gX3_groupNow_X3_evenOnes : GoodIn wsX3_groupNow (wsV RX3 165 RX3 yX3_evenOnes wsX3_evenOnes) := goodIn_app (goodIn_of _ (by decide +kernel)) ggX3_groupNow_X3_evenOnes
theorem dX3_groupNow_0 : decode cX3_groupNow 0 = .ok (.iload_n 1, 1) := by decide +kernel
theorem dX3_groupNow_1 : decode cX3_groupNow 1 = .ok (.tableswitch 54 0 2 #[27, 32, 37], 27) := by decide +kernel
theorem dX3_groupNow_28 : decode cX3_groupNow 28 = .ok (.aload_n 0, 1) := by decide +kernel
theorem dX3_groupNow_29 : decode cX3_groupNow 29 = .ok (.getfield 76, 3) := by decide +kernel
theorem dX3_groupNow_32 : decode cX3_groupNow 32 = .ok (.ireturn, 1) := by decide +kernel
theorem dX3_groupNow_33 : decode cX3_groupNow 33 = .ok (.aload_n 0, 1) := by decide +kernel
theorem dX3_groupNow_34 : decode cX3_groupNow 34 = .ok (.invokevirtual 162, 3) := by decide +kernel
theorem dX3_groupNow_37 : decode cX3_groupNow 37 = .ok (.ireturn, 1) := by decide +kernel
theorem dX3_groupNow_38 : decode cX3_groupNow 38 = .ok (.aload_n 0, 1) := by decide +kernel
theorem dX3_groupNow_39 : decode cX3_groupNow 39 = .ok (.getfield 30, 3) := by decide +kernel
theorem dX3_groupNow_42 : decode cX3_groupNow 42 = .ok (.aload_n 0, 1) := by decide +kernel
theorem dX3_groupNow_43 : decode cX3_groupNow 43 = .ok (.getfield 33, 3) := by decide +kernel
theorem dX3_groupNow_46 : decode cX3_groupNow 46 = .ok (.aload_n 0, 1) := by decide +kernel
theorem dX3_groupNow_47 : decode cX3_groupNow 47 = .ok (.getfield 76, 3) := by decide +kernel
theorem dX3_groupNow_50 : decode cX3_groupNow 50 = .ok (.iconst 1, 1) := by decide +kernel
theorem dX3_groupNow_51 : decode cX3_groupNow 51 = .ok (.isub, 1) := by decide +kernel
theorem dX3_groupNow_52 : decode cX3_groupNow 52 = .ok (.iaload, 1) := by decide +kernel
theorem dX3_groupNow_53 : decode cX3_groupNow 53 = .ok (.iaload, 1) := by decide +kernel
theorem dX3_groupNow_54 : decode cX3_groupNow 54 = .ok (.ireturn, 1) := by decide +kernel
theorem dX3_groupNow_55 : decode cX3_groupNow 55 = .ok (.aload_n 0, 1) := by decide +kernel
theorem dX3_groupNow_56 : decode cX3_groupNow 56 = .ok (.invokevirtual 165, 3) := by decide +kernel
theorem dX3_groupNow_59 : decode cX3_groupNow 59 = .ok (.ireturn, 1) := by decide +kernel
set_option maxRecDepth 20000 in
theorem ggX3_group_X3_within : GoodIn wsX3_group wsX3_within := goodIn_r _ [6] (by decide +kernel) (by decide +kernel)
set_option maxRecDepth 20000 in
theorem gX3_group_X3_within : GoodIn wsX3_group (va_wsS RX3 49 yX3_within wsX3_within) := goodIn_app (goodIn_of _ (by decide +kernel)) ggX3_group_X3_within
set_option maxRecDepth 20000 in
theorem ggX3_group_X3_layFor : GoodIn wsX3_group wsX3_layFor := goodIn_r _ [10, 11, 12, 13, 5, 14, 15, 16, 17, 18, 19, 20, 21, 22, 23, 24, 25, 26, 27, 28, 29, 30, 31, 32, 33, 34, 35, 36, 37, 38, 39, 40, 41, 42, 43, 44, 45, 46, 47, 48, 49, 50, 51, 52, 73, 74, 75, 76, 77, 78, 79, 80, 81, 82, 83, 84, 85, 86, 87, 88, 89, 90, 91] (by decide +kernel) (by decide +kernel)
set_option maxRecDepth 20000 in
theorem gX3_group_X3_layFor : GoodIn wsX3_group (wsV RX3 112 RX3 yX3_layFor wsX3_layFor) := goodIn_app (goodIn_of _ (by decide +kernel)) ggX3_group_X3_layFor
set_option maxRecDepth 20000 in
theorem ggX3_group_X3_groupNow : GoodIn wsX3_group wsX3_groupNow := goodIn_r _ [56, 17, 16, 26, 57, 58, 59, 5, 60, 15, 38, 39, 40, 61, 62, 63, 64, 32, 2, 48, 65, 66, 67, 68, 31, 34, 35, 36, 37, 18, 19, 20, 21, 69, 70, 71, 72, 73, 74, 75, 76, 77, 78, 79, 80, 81, 82, 83, 84, 85, 86, 87, 88, 89, 90, 91] (by decide +kernel) (by decide +kernel)
set_option maxRecDepth 20000 in
theorem gX3_group_X3_groupNow : GoodIn wsX3_group (wsV RX3 168 RX3 yX3_groupNow wsX3_groupNow) := goodIn_app (goodIn_of _ (by decide +kernel)) ggX3_group_X3_groupNow
theorem dX3_group_0 : decode cX3_group 0 = .ok (.aload_n 0, 1) := by decide +kernel
theorem dX3_group_1 : decode cX3_group 1 = .ok (.iload_n 1, 1) := by decide +kernel
theorem dX3_group_2 : decode cX3_group 2 = .ok (.iconst 0, 1) := by decide +kernel
theorem dX3_group_3 : decode cX3_group 3 = .ok (.iconst 3, 1) := by decide +kernel
theorem dX3_group_4 : decode cX3_group 4 = .ok (.invokestatic 49, 3) := by decide +kernel
theorem dX3_group_7 : decode cX3_group 7 = .ok (.ifCond .eq 7, 3) := by decide +kernel
theorem dX3_group_10 : decode cX3_group 10 = .ok (.iconst 0, 1) := by decide +kernel
theorem dX3_group_11 : decode cX3_group 11 = .ok (.goto 4, 3) := by decide +kernel
theorem dX3_group_14 : decode cX3_group 14 = .ok (.iconst 1, 1) := by decide +kernel
theorem dX3_group_15 : decode cX3_group 15 = .ok (.putfield 46, 3) := by decide +kernel
theorem dX3_group_18 : decode cX3_group 18 = .ok (.aload_n 0, 1) := by decide +kernel
theorem dX3_group_19 : decode cX3_group 19 = .ok (.getfield 46, 3) := by decide +kernel
theorem dX3_group_22 : decode cX3_group 22 = .ok (.ifCond .le 5, 3) := by decide +kernel
theorem dX3_group_25 : decode cX3_group 25 = .ok (.iconst 0, 1) := by decide +kernel
theorem dX3_group_26 : decode cX3_group 26 = .ok (.ireturn, 1) := by decide +kernel
theorem dX3_group_27 : decode cX3_group 27 = .ok (.aload_n 0, 1) := by decide +kernel
theorem dX3_group_28 : decode cX3_group 28 = .ok (.aload_n 0, 1) := by decide +kernel
theorem dX3_group_29 : decode cX3_group 29 = .ok (.getfield 96, 3) := by decide +kernel
theorem dX3_group_32 : decode cX3_group 32 = .ok (.invokevirtual 112, 3) := by decide +kernel
theorem dX3_group_35 : decode cX3_group 35 = .ok (.aload_n 0, 1) := by decide +kernel
theorem dX3_group_36 : decode cX3_group 36 = .ok (.iload_n 1, 1) := by decide +kernel
theorem dX3_group_37 : decode cX3_group 37 = .ok (.invokevirtual 168, 3) := by decide +kernel
theorem dX3_group_40 : decode cX3_group 40 = .ok (.ireturn, 1) := by decide +kernel
set_option maxRecDepth 20000 in
theorem ggX3_basicNow_X3_read : GoodIn wsX3_basicNow wsX3_read := goodIn_r _ [9, 4, 10, 11, 12, 8, 13, 14, 15, 16, 17, 18, 19, 20, 21, 22, 23, 24, 25, 26, 27, 28, 29, 30, 31, 32, 33, 34, 35] (by decide +kernel) (by decide +kernel)
set_option maxRecDepth 20000 in
theorem gX3_basicNow_X3_read : GoodIn wsX3_basicNow (wsV RX3 64 RX3 yX3_read wsX3_read) := goodIn_app (goodIn_of _ (by decide +kernel)) ggX3_basicNow_X3_read
theorem dX3_basicNow_0 : decode cX3_basicNow 0 = .ok (.iconst 0, 1) := by decide +kernel
theorem dX3_basicNow_1 : decode cX3_basicNow 1 = .ok (.istore_n 2, 1) := by decide +kernel
theorem dX3_basicNow_2 : decode cX3_basicNow 2 = .ok (.iconst 0, 1) := by decide +kernel
theorem dX3_basicNow_3 : decode cX3_basicNow 3 = .ok (.istore_n 3, 1) := by decide +kernel
theorem dX3_basicNow_4 : decode cX3_basicNow 4 = .ok (.iload_n 3, 1) := by decide +kernel
theorem dX3_basicNow_5 : decode cX3_basicNow 5 = .ok (.aload_n 0, 1) := by decide +kernel
theorem dX3_basicNow_6 : decode cX3_basicNow 6 = .ok (.getfield 76, 3) := by decide +kernel
theorem dX3_basicNow_9 : decode cX3_basicNow 9 = .ok (.if_icmp .ge 110, 3) := by decide +kernel
theorem dX3_basicNow_12 : decode cX3_basicNow 12 = .ok (.aload_n 0, 1) := by decide +kernel
theorem dX3_basicNow_13 : decode cX3_basicNow 13 = .ok (.aload_n 0, 1) := by decide +kernel
theorem dX3_basicNow_14 : decode cX3_basicNow 14 = .ok (.getfield 33, 3) := by decide +kernel
theorem dX3_basicNow_17 : decode cX3_basicNow 17 = .ok (.iload_n 3, 1) := by decide +kernel
theorem dX3_basicNow_18 : decode cX3_basicNow 18 = .ok (.iaload, 1) := by decide +kernel
theorem dX3_basicNow_19 : decode cX3_basicNow 19 = .ok (.aload_n 0, 1) := by decide +kernel
theorem dX3_basicNow_20 : decode cX3_basicNow 20 = .ok (.getfield 23, 3) := by decide +kernel
theorem dX3_basicNow_23 : decode cX3_basicNow 23 = .ok (.invokevirtual 64, 3) := by decide +kernel
theorem dX3_basicNow_26 : decode cX3_basicNow 26 = .ok (.iconst 1, 1) := by decide +kernel
theorem dX3_basicNow_27 : decode cX3_basicNow 27 = .ok (.istore 4, 2) := by decide +kernel
theorem dX3_basicNow_29 : decode cX3_basicNow 29 = .ok (.iconst 0, 1) := by decide +kernel
theorem dX3_basicNow_30 : decode cX3_basicNow 30 = .ok (.istore 5, 2) := by decide +kernel
theorem dX3_basicNow_32 : decode cX3_basicNow 32 = .ok (.iload 5, 2) := by decide +kernel
theorem dX3_basicNow_34 : decode cX3_basicNow 34 = .ok (.iload_n 1, 1) := by decide +kernel
theorem dX3_basicNow_35 : decode cX3_basicNow 35 = .ok (.if_icmp .ge 33, 3) := by decide +kernel
theorem dX3_basicNow_38 : decode cX3_basicNow 38 = .ok (.iload 4, 2) := by decide +kernel
theorem dX3_basicNow_40 : decode cX3_basicNow 40 = .ok (.ifCond .eq 19, 3) := by decide +kernel
theorem dX3_basicNow_43 : decode cX3_basicNow 43 = .ok (.aload_n 0, 1) := by decide +kernel
theorem dX3_basicNow_44 : decode cX3_basicNow 44 = .ok (.getfield 23, 3) := by decide +kernel
theorem dX3_basicNow_47 : decode cX3_basicNow 47 = .ok (.iload 5, 2) := by decide +kernel
theorem dX3_basicNow_49 : decode cX3_basicNow 49 = .ok (.iaload, 1) := by decide +kernel
theorem dX3_basicNow_50 : decode cX3_basicNow 50 = .ok (.iload 5, 2) := by decide +kernel
theorem dX3_basicNow_52 : decode cX3_basicNow 52 = .ok (.if_icmp .ne 7, 3) := by decide +kernel
theorem dX3_basicNow_55 : decode cX3_basicNow 55 = .ok (.iconst 1, 1) := by decide +kernel
theorem dX3_basicNow_56 : decode cX3_basicNow 56 = .ok (.goto 4, 3) := by decide +kernel
theorem dX3_basicNow_59 : decode cX3_basicNow 59 = .ok (.iconst 0, 1) := by decide +kernel
theorem dX3_basicNow_60 : decode cX3_basicNow 60 = .ok (.istore 4, 2) := by decide +kernel
theorem dX3_basicNow_62 : decode cX3_basicNow 62 = .ok (.iinc 5 1, 3) := by decide +kernel
theorem dX3_basicNow_65 : decode cX3_basicNow 65 = .ok (.goto (-33), 3) := by decide +kernel
theorem dX3_basicNow_68 : decode cX3_basicNow 68 = .ok (.iconst 0, 1) := by decide +kernel
theorem dX3_basicNow_69 : decode cX3_basicNow 69 = .ok (.istore 5, 2) := by decide +kernel
theorem dX3_basicNow_71 : decode cX3_basicNow 71 = .ok (.iload 5, 2) := by decide +kernel
theorem dX3_basicNow_73 : decode cX3_basicNow 73 = .ok (.aload_n 0, 1) := by decide +kernel
theorem dX3_basicNow_74 : decode cX3_basicNow 74 = .ok (.getfield 7, 3) := by decide +kernel
theorem dX3_basicNow_77 : decode cX3_basicNow 77 = .ok (.if_icmp .ge 36, 3) := by decide +kernel
theorem dX3_basicNow_80 : decode cX3_basicNow 80 = .ok (.iload 4, 2) := by decide +kernel
theorem dX3_basicNow_82 : decode cX3_basicNow 82 = .ok (.ifCond .eq 31, 3) := by decide +kernel
theorem dX3_basicNow_85 : decode cX3_basicNow 85 = .ok (.iload_n 2, 1) := by decide +kernel
theorem dX3_basicNow_86 : decode cX3_basicNow 86 = .ok (.aload_n 0, 1) := by decide +kernel
theorem dX3_basicNow_87 : decode cX3_basicNow 87 = .ok (.getfield 23, 3) := by decide +kernel
theorem dX3_basicNow_90 : decode cX3_basicNow 90 = .ok (.iload 5, 2) := by decide +kernel
theorem dX3_basicNow_92 : decode cX3_basicNow 92 = .ok (.iaload, 1) := by decide +kernel
theorem dX3_basicNow_93 : decode cX3_basicNow 93 = .ok (.iload_n 1, 1) := by decide +kernel
theorem dX3_basicNow_94 : decode cX3_basicNow 94 = .ok (.if_icmp .ne 10, 3) := by decide +kernel
theorem dX3_basicNow_97 : decode cX3_basicNow 97 = .ok (.iconst 1, 1) := by decide +kernel
theorem dX3_basicNow_98 : decode cX3_basicNow 98 = .ok (.iload 5, 2) := by decide +kernel
theorem dX3_basicNow_100 : decode cX3_basicNow 100 = .ok (.ishl, 1) := by decide +kernel
theorem dX3_basicNow_101 : decode cX3_basicNow 101 = .ok (.goto 4, 3) := by decide +kernel
theorem dX3_basicNow_104 : decode cX3_basicNow 104 = .ok (.iconst 0, 1) := by decide +kernel
theorem dX3_basicNow_105 : decode cX3_basicNow 105 = .ok (.ior, 1) := by decide +kernel
theorem dX3_basicNow_106 : decode cX3_basicNow 106 = .ok (.istore_n 2, 1) := by decide +kernel
theorem dX3_basicNow_107 : decode cX3_basicNow 107 = .ok (.iinc 5 1, 3) := by decide +kernel
theorem dX3_basicNow_110 : decode cX3_basicNow 110 = .ok (.goto (-39), 3) := by decide +kernel
theorem dX3_basicNow_113 : decode cX3_basicNow 113 = .ok (.iinc 3 1, 3) := by decide +kernel
theorem dX3_basicNow_116 : decode cX3_basicNow 116 = .ok (.goto (-112), 3) := by decide +kernel
theorem dX3_basicNow_119 : decode cX3_basicNow 119 = .ok (.iload_n 2, 1) := by decide +kernel
theorem dX3_basicNow_120 : decode cX3_basicNow 120 = .ok (.ireturn, 1) := by decide +kernel
set_option maxRecDepth 20000 in
theorem ggX3_basicOrbit_X3_isPlace : GoodIn wsX3_basicOrbit wsX3_isPlace := goodIn_r _ [7, 8, 9, 10, 6, 11, 61, 62, 63, 64, 65, 66, 67, 68, 69, 70, 71, 72, 73, 74, 75, 76, 77, 78, 79] (by decide +kernel) (by decide +kernel)
set_option maxRecDepth 20000 in
theorem gX3_basicOrbit_X3_isPlace : GoodIn wsX3_basicOrbit (wsV RX3 99 RX3 yX3_isPlace wsX3_isPlace) := goodIn_app (goodIn_of _ (by decide +kernel)) ggX3_basicOrbit_X3_isPlace
set_option maxRecDepth 20000 in
theorem ggX3_basicOrbit_X3_layFor : GoodIn wsX3_basicOrbit wsX3_layFor := goodIn_r _ [15, 16, 17, 18, 6, 19, 8, 20, 21, 22, 23, 24, 25, 26, 27, 28, 29, 30, 31, 32, 33, 34, 35, 36, 37, 38, 39, 40, 41, 42, 43, 44, 45, 46, 47, 48, 49, 50, 51, 52, 53, 54, 55, 56, 61, 62, 63, 64, 65, 66, 67, 68, 69, 70, 71, 72, 73, 74, 75, 76, 77, 78, 79] (by decide +kernel) (by decide +kernel)
set_option maxRecDepth 20000 in
theorem gX3_basicOrbit_X3_layFor : GoodIn wsX3_basicOrbit (wsV RX3 112 RX3 yX3_layFor wsX3_layFor) := goodIn_app (goodIn_of _ (by decide +kernel)) ggX3_basicOrbit_X3_layFor
set_option maxRecDepth 20000 in
theorem ggX3_basicOrbit_X3_basicNow : GoodIn wsX3_basicOrbit wsX3_basicNow := goodIn_r _ [60, 21, 30, 35, 8, 38, 39, 40, 6, 41, 22, 23, 24, 25, 42, 43, 44, 61, 62, 63, 64, 65, 66, 67, 68, 69, 70, 71, 72, 73, 74, 75, 76, 77, 78, 79] (by decide +kernel) (by decide +kernel)
set_option maxRecDepth 20000 in
theorem gX3_basicOrbit_X3_basicNow : GoodIn wsX3_basicOrbit (wsV RX3 171 RX3 yX3_basicNow wsX3_basicNow) := goodIn_app (goodIn_of _ (by decide +kernel)) ggX3_basicOrbit_X3_basicNow
theorem dX3_basicOrbit_0 : decode cX3_basicOrbit 0 = .ok (.aload_n 0, 1) := by decide +kernel
theorem dX3_basicOrbit_1 : decode cX3_basicOrbit 1 = .ok (.aload_n 0, 1) := by decide +kernel
theorem dX3_basicOrbit_2 : decode cX3_basicOrbit 2 = .ok (.iload_n 1, 1) := by decide +kernel
theorem dX3_basicOrbit_3 : decode cX3_basicOrbit 3 = .ok (.invokevirtual 99, 3) := by decide +kernel
theorem dX3_basicOrbit_6 : decode cX3_basicOrbit 6 = .ok (.ifCond .eq 7, 3) := by decide +kernel
theorem dX3_basicOrbit_9 : decode cX3_basicOrbit 9 = .ok (.iconst 0, 1) := by decide +kernel
theorem dX3_basicOrbit_10 : decode cX3_basicOrbit 10 = .ok (.goto 4, 3) := by decide +kernel
theorem dX3_basicOrbit_13 : decode cX3_basicOrbit 13 = .ok (.iconst 1, 1) := by decide +kernel
theorem dX3_basicOrbit_14 : decode cX3_basicOrbit 14 = .ok (.putfield 46, 3) := by decide +kernel
theorem dX3_basicOrbit_17 : decode cX3_basicOrbit 17 = .ok (.aload_n 0, 1) := by decide +kernel
theorem dX3_basicOrbit_18 : decode cX3_basicOrbit 18 = .ok (.getfield 46, 3) := by decide +kernel
theorem dX3_basicOrbit_21 : decode cX3_basicOrbit 21 = .ok (.ifCond .le 5, 3) := by decide +kernel
theorem dX3_basicOrbit_24 : decode cX3_basicOrbit 24 = .ok (.iconst 0, 1) := by decide +kernel
theorem dX3_basicOrbit_25 : decode cX3_basicOrbit 25 = .ok (.ireturn, 1) := by decide +kernel
theorem dX3_basicOrbit_26 : decode cX3_basicOrbit 26 = .ok (.aload_n 0, 1) := by decide +kernel
theorem dX3_basicOrbit_27 : decode cX3_basicOrbit 27 = .ok (.aload_n 0, 1) := by decide +kernel
theorem dX3_basicOrbit_28 : decode cX3_basicOrbit 28 = .ok (.getfield 96, 3) := by decide +kernel
theorem dX3_basicOrbit_31 : decode cX3_basicOrbit 31 = .ok (.invokevirtual 112, 3) := by decide +kernel
theorem dX3_basicOrbit_34 : decode cX3_basicOrbit 34 = .ok (.aload_n 0, 1) := by decide +kernel
theorem dX3_basicOrbit_35 : decode cX3_basicOrbit 35 = .ok (.iload_n 1, 1) := by decide +kernel
theorem dX3_basicOrbit_36 : decode cX3_basicOrbit 36 = .ok (.invokevirtual 171, 3) := by decide +kernel
theorem dX3_basicOrbit_39 : decode cX3_basicOrbit 39 = .ok (.ireturn, 1) := by decide +kernel
theorem dX3_layerNow_0 : decode cX3_layerNow 0 = .ok (.iconst 0, 1) := by decide +kernel
theorem dX3_layerNow_1 : decode cX3_layerNow 1 = .ok (.istore_n 2, 1) := by decide +kernel
theorem dX3_layerNow_2 : decode cX3_layerNow 2 = .ok (.iconst 0, 1) := by decide +kernel
theorem dX3_layerNow_3 : decode cX3_layerNow 3 = .ok (.istore_n 3, 1) := by decide +kernel
theorem dX3_layerNow_4 : decode cX3_layerNow 4 = .ok (.iload_n 3, 1) := by decide +kernel
theorem dX3_layerNow_5 : decode cX3_layerNow 5 = .ok (.aload_n 0, 1) := by decide +kernel
theorem dX3_layerNow_6 : decode cX3_layerNow 6 = .ok (.getfield 76, 3) := by decide +kernel
theorem dX3_layerNow_9 : decode cX3_layerNow 9 = .ok (.if_icmp .ge 32, 3) := by decide +kernel
theorem dX3_layerNow_12 : decode cX3_layerNow 12 = .ok (.iload_n 2, 1) := by decide +kernel
theorem dX3_layerNow_13 : decode cX3_layerNow 13 = .ok (.aload_n 0, 1) := by decide +kernel
theorem dX3_layerNow_14 : decode cX3_layerNow 14 = .ok (.getfield 30, 3) := by decide +kernel
theorem dX3_layerNow_17 : decode cX3_layerNow 17 = .ok (.aload_n 0, 1) := by decide +kernel
theorem dX3_layerNow_18 : decode cX3_layerNow 18 = .ok (.getfield 33, 3) := by decide +kernel
theorem dX3_layerNow_21 : decode cX3_layerNow 21 = .ok (.iload_n 3, 1) := by decide +kernel
theorem dX3_layerNow_22 : decode cX3_layerNow 22 = .ok (.iaload, 1) := by decide +kernel
theorem dX3_layerNow_23 : decode cX3_layerNow 23 = .ok (.iaload, 1) := by decide +kernel
theorem dX3_layerNow_24 : decode cX3_layerNow 24 = .ok (.iload_n 1, 1) := by decide +kernel
theorem dX3_layerNow_25 : decode cX3_layerNow 25 = .ok (.if_icmp .ne 7, 3) := by decide +kernel
theorem dX3_layerNow_28 : decode cX3_layerNow 28 = .ok (.iconst 1, 1) := by decide +kernel
theorem dX3_layerNow_29 : decode cX3_layerNow 29 = .ok (.goto 4, 3) := by decide +kernel
theorem dX3_layerNow_32 : decode cX3_layerNow 32 = .ok (.iconst 0, 1) := by decide +kernel
theorem dX3_layerNow_33 : decode cX3_layerNow 33 = .ok (.iadd, 1) := by decide +kernel
theorem dX3_layerNow_34 : decode cX3_layerNow 34 = .ok (.istore_n 2, 1) := by decide +kernel
theorem dX3_layerNow_35 : decode cX3_layerNow 35 = .ok (.iinc 3 1, 3) := by decide +kernel
theorem dX3_layerNow_38 : decode cX3_layerNow 38 = .ok (.goto (-34), 3) := by decide +kernel
theorem dX3_layerNow_41 : decode cX3_layerNow 41 = .ok (.iload_n 2, 1) := by decide +kernel
theorem dX3_layerNow_42 : decode cX3_layerNow 42 = .ok (.ireturn, 1) := by decide +kernel
set_option maxRecDepth 20000 in
theorem ggX3_layer_X3_layFor : GoodIn wsX3_layer wsX3_layFor := goodIn_r _ [7, 8, 9, 10, 6, 11, 12, 13, 14, 15, 16, 17, 18, 19, 20, 21, 22, 23, 24, 25, 26, 27, 28, 29, 30, 31, 32, 33, 34, 35, 36, 37, 38, 39, 40, 41, 42, 43, 44, 45, 46, 47, 48, 49, 54, 55, 56, 57, 58, 59, 60, 61, 62, 63, 64, 65, 66, 67, 68, 69, 70, 71, 72] (by decide +kernel) (by decide +kernel)
set_option maxRecDepth 20000 in
theorem gX3_layer_X3_layFor : GoodIn wsX3_layer (wsV RX3 112 RX3 yX3_layFor wsX3_layFor) := goodIn_app (goodIn_of _ (by decide +kernel)) ggX3_layer_X3_layFor
set_option maxRecDepth 20000 in
theorem ggX3_layer_X3_layerNow : GoodIn wsX3_layer wsX3_layerNow := goodIn_r _ [53, 14, 13, 23, 54, 55, 56, 57, 58, 59, 60, 61, 62, 63, 64, 65, 66, 67, 68, 69, 70, 71, 72] (by decide +kernel) (by decide +kernel)
set_option maxRecDepth 20000 in
theorem gX3_layer_X3_layerNow : GoodIn wsX3_layer (wsV RX3 174 RX3 yX3_layerNow wsX3_layerNow) := goodIn_app (goodIn_of _ (by decide +kernel)) ggX3_layer_X3_layerNow
theorem dX3_layer_0 : decode cX3_layer 0 = .ok (.aload_n 0, 1) := by decide +kernel
theorem dX3_layer_1 : decode cX3_layer 1 = .ok (.iconst 0, 1) := by decide +kernel
theorem dX3_layer_2 : decode cX3_layer 2 = .ok (.putfield 46, 3) := by decide +kernel
theorem dX3_layer_5 : decode cX3_layer 5 = .ok (.aload_n 0, 1) := by decide +kernel
theorem dX3_layer_6 : decode cX3_layer 6 = .ok (.aload_n 0, 1) := by decide +kernel
theorem dX3_layer_7 : decode cX3_layer 7 = .ok (.getfield 96, 3) := by decide +kernel
theorem dX3_layer_10 : decode cX3_layer 10 = .ok (.invokevirtual 112, 3) := by decide +kernel
theorem dX3_layer_13 : decode cX3_layer 13 = .ok (.aload_n 0, 1) := by decide +kernel
theorem dX3_layer_14 : decode cX3_layer 14 = .ok (.iload_n 1, 1) := by decide +kernel
theorem dX3_layer_15 : decode cX3_layer 15 = .ok (.invokevirtual 174, 3) := by decide +kernel
theorem dX3_layer_18 : decode cX3_layer 18 = .ok (.ireturn, 1) := by decide +kernel
set_option maxRecDepth 20000 in
theorem ggX3_length_X3_layFor : GoodIn wsX3_length wsX3_layFor := goodIn_r _ [8, 9, 10, 11, 7, 12, 13, 3, 14, 15, 16, 17, 18, 19, 20, 21, 22, 23, 24, 25, 26, 27, 28, 29, 30, 31, 32, 33, 34, 35, 36, 37, 38, 39, 40, 41, 42, 43, 44, 45, 46, 47, 48, 49, 55, 56, 57, 58, 59, 60, 61, 62, 63, 64, 65, 66, 67, 68, 69, 70, 71, 72, 73] (by decide +kernel) (by decide +kernel)
set_option maxRecDepth 20000 in
theorem gX3_length_X3_layFor : GoodIn wsX3_length (wsV RX3 112 RX3 yX3_layFor wsX3_layFor) := goodIn_app (goodIn_of _ (by decide +kernel)) ggX3_length_X3_layFor
set_option maxRecDepth 20000 in
theorem ggX3_length_X3_present : GoodIn wsX3_length wsX3_present := goodIn_r _ [53, 54, 46, 47, 48, 7, 49, 13, 55, 56, 57, 58, 59, 60, 61, 62, 63, 64, 65, 66, 67, 68, 69, 70, 71, 72, 73] (by decide +kernel) (by decide +kernel)
set_option maxRecDepth 20000 in
theorem gX3_length_X3_present : GoodIn wsX3_length (wsV RX3 115 RX3 yX3_present wsX3_present) := goodIn_app (goodIn_of _ (by decide +kernel)) ggX3_length_X3_present
theorem dX3_length_0 : decode cX3_length 0 = .ok (.aload_n 0, 1) := by decide +kernel
theorem dX3_length_1 : decode cX3_length 1 = .ok (.iconst 0, 1) := by decide +kernel
theorem dX3_length_2 : decode cX3_length 2 = .ok (.putfield 46, 3) := by decide +kernel
theorem dX3_length_5 : decode cX3_length 5 = .ok (.aload_n 0, 1) := by decide +kernel
theorem dX3_length_6 : decode cX3_length 6 = .ok (.aload_n 0, 1) := by decide +kernel
theorem dX3_length_7 : decode cX3_length 7 = .ok (.getfield 96, 3) := by decide +kernel
theorem dX3_length_10 : decode cX3_length 10 = .ok (.invokevirtual 112, 3) := by decide +kernel
theorem dX3_length_13 : decode cX3_length 13 = .ok (.aload_n 0, 1) := by decide +kernel
theorem dX3_length_14 : decode cX3_length 14 = .ok (.getfield 30, 3) := by decide +kernel
theorem dX3_length_17 : decode cX3_length 17 = .ok (.aload_n 0, 1) := by decide +kernel
theorem dX3_length_18 : decode cX3_length 18 = .ok (.invokevirtual 115, 3) := by decide +kernel
theorem dX3_length_21 : decode cX3_length 21 = .ok (.iaload, 1) := by decide +kernel
theorem dX3_length_22 : decode cX3_length 22 = .ok (.ireturn, 1) := by decide +kernel
set_option maxRecDepth 20000 in
theorem ggX3_wordMoveNow_X3_present : GoodIn wsX3_wordMoveNow wsX3_present := goodIn_r _ [7, 8, 9, 10, 11, 6, 12, 13, 44, 45, 46, 47, 48, 49, 50, 51, 52, 53, 54, 55, 56, 57, 58, 59, 60, 61, 62] (by decide +kernel) (by decide +kernel)
set_option maxRecDepth 20000 in
theorem gX3_wordMoveNow_X3_present : GoodIn wsX3_wordMoveNow (wsV RX3 115 RX3 yX3_present wsX3_present) := goodIn_app (goodIn_of _ (by decide +kernel)) ggX3_wordMoveNow_X3_present
set_option maxRecDepth 20000 in
theorem ggX3_wordMoveNow_X3_within : GoodIn wsX3_wordMoveNow wsX3_within := goodIn_r _ [16] (by decide +kernel) (by decide +kernel)
set_option maxRecDepth 20000 in
theorem gX3_wordMoveNow_X3_within : GoodIn wsX3_wordMoveNow (va_wsS RX3 49 yX3_within wsX3_within) := goodIn_app (goodIn_of _ (by decide +kernel)) ggX3_wordMoveNow_X3_within
set_option maxRecDepth 20000 in
theorem ggX3_wordMoveNow_X3_nearer : GoodIn wsX3_wordMoveNow wsX3_nearer := goodIn_r _ [20, 21, 1, 22, 23, 6, 24, 25, 26, 27, 28, 29, 30, 31, 32, 33, 34, 13, 35, 36, 37, 38, 39, 40, 41, 42, 43, 9, 10, 11, 12, 44, 45, 46, 47, 48, 49, 50, 51, 52, 53, 54, 55, 56, 57, 58, 59, 60, 61, 62] (by decide +kernel) (by decide +kernel)
set_option maxRecDepth 20000 in
theorem gX3_wordMoveNow_X3_nearer : GoodIn wsX3_wordMoveNow (wsV RX3 119 RX3 yX3_nearer wsX3_nearer) := goodIn_app (goodIn_of _ (by decide +kernel)) ggX3_wordMoveNow_X3_nearer
set_option maxRecDepth 20000 in
theorem ggX3_wordMoveNow_X3_after : GoodIn wsX3_wordMoveNow wsX3_after := goodIn_r _ [28, 29, 30, 31, 32, 33, 6, 34, 13, 35, 36, 37, 38, 22, 23, 24, 39, 40, 41, 42, 43, 9, 10, 11, 12, 44, 45, 46, 47, 48, 49, 50, 51, 52, 53, 54, 55, 56, 57, 58, 59, 60, 61, 62] (by decide +kernel) (by decide +kernel)
set_option maxRecDepth 20000 in
theorem gX3_wordMoveNow_X3_after : GoodIn wsX3_wordMoveNow (wsV RX3 92 RX3 yX3_after wsX3_after) := goodIn_app (goodIn_of _ (by decide +kernel)) ggX3_wordMoveNow_X3_after
theorem dX3_wordMoveNow_0 : decode cX3_wordMoveNow 0 = .ok (.aload_n 0, 1) := by decide +kernel
theorem dX3_wordMoveNow_1 : decode cX3_wordMoveNow 1 = .ok (.invokevirtual 115, 3) := by decide +kernel
theorem dX3_wordMoveNow_4 : decode cX3_wordMoveNow 4 = .ok (.istore_n 2, 1) := by decide +kernel
theorem dX3_wordMoveNow_5 : decode cX3_wordMoveNow 5 = .ok (.aload_n 0, 1) := by decide +kernel
theorem dX3_wordMoveNow_6 : decode cX3_wordMoveNow 6 = .ok (.getfield 30, 3) := by decide +kernel
theorem dX3_wordMoveNow_9 : decode cX3_wordMoveNow 9 = .ok (.iload_n 2, 1) := by decide +kernel
theorem dX3_wordMoveNow_10 : decode cX3_wordMoveNow 10 = .ok (.iaload, 1) := by decide +kernel
theorem dX3_wordMoveNow_11 : decode cX3_wordMoveNow 11 = .ok (.istore_n 3, 1) := by decide +kernel
theorem dX3_wordMoveNow_12 : decode cX3_wordMoveNow 12 = .ok (.iload_n 1, 1) := by decide +kernel
theorem dX3_wordMoveNow_13 : decode cX3_wordMoveNow 13 = .ok (.iconst 0, 1) := by decide +kernel
theorem dX3_wordMoveNow_14 : decode cX3_wordMoveNow 14 = .ok (.iload_n 3, 1) := by decide +kernel
theorem dX3_wordMoveNow_15 : decode cX3_wordMoveNow 15 = .ok (.iconst 1, 1) := by decide +kernel
theorem dX3_wordMoveNow_16 : decode cX3_wordMoveNow 16 = .ok (.isub, 1) := by decide +kernel
theorem dX3_wordMoveNow_17 : decode cX3_wordMoveNow 17 = .ok (.invokestatic 49, 3) := by decide +kernel
theorem dX3_wordMoveNow_20 : decode cX3_wordMoveNow 20 = .ok (.ifCond .ne 5, 3) := by decide +kernel
theorem dX3_wordMoveNow_23 : decode cX3_wordMoveNow 23 = .ok (.iconst (-1), 1) := by decide +kernel
theorem dX3_wordMoveNow_24 : decode cX3_wordMoveNow 24 = .ok (.ireturn, 1) := by decide +kernel
theorem dX3_wordMoveNow_25 : decode cX3_wordMoveNow 25 = .ok (.aload_n 0, 1) := by decide +kernel
theorem dX3_wordMoveNow_26 : decode cX3_wordMoveNow 26 = .ok (.iload_n 2, 1) := by decide +kernel
theorem dX3_wordMoveNow_27 : decode cX3_wordMoveNow 27 = .ok (.aload_n 0, 1) := by decide +kernel
theorem dX3_wordMoveNow_28 : decode cX3_wordMoveNow 28 = .ok (.getfield 96, 3) := by decide +kernel
theorem dX3_wordMoveNow_31 : decode cX3_wordMoveNow 31 = .ok (.invokevirtual 119, 3) := by decide +kernel
theorem dX3_wordMoveNow_34 : decode cX3_wordMoveNow 34 = .ok (.istore 4, 2) := by decide +kernel
theorem dX3_wordMoveNow_36 : decode cX3_wordMoveNow 36 = .ok (.iconst 0, 1) := by decide +kernel
theorem dX3_wordMoveNow_37 : decode cX3_wordMoveNow 37 = .ok (.istore 5, 2) := by decide +kernel
theorem dX3_wordMoveNow_39 : decode cX3_wordMoveNow 39 = .ok (.iload 5, 2) := by decide +kernel
theorem dX3_wordMoveNow_41 : decode cX3_wordMoveNow 41 = .ok (.iload_n 1, 1) := by decide +kernel
theorem dX3_wordMoveNow_42 : decode cX3_wordMoveNow 42 = .ok (.if_icmp .ge 28, 3) := by decide +kernel
theorem dX3_wordMoveNow_45 : decode cX3_wordMoveNow 45 = .ok (.aload_n 0, 1) := by decide +kernel
theorem dX3_wordMoveNow_46 : decode cX3_wordMoveNow 46 = .ok (.iload_n 2, 1) := by decide +kernel
theorem dX3_wordMoveNow_47 : decode cX3_wordMoveNow 47 = .ok (.iload 4, 2) := by decide +kernel
theorem dX3_wordMoveNow_49 : decode cX3_wordMoveNow 49 = .ok (.invokevirtual 92, 3) := by decide +kernel
theorem dX3_wordMoveNow_52 : decode cX3_wordMoveNow 52 = .ok (.istore_n 2, 1) := by decide +kernel
theorem dX3_wordMoveNow_53 : decode cX3_wordMoveNow 53 = .ok (.aload_n 0, 1) := by decide +kernel
theorem dX3_wordMoveNow_54 : decode cX3_wordMoveNow 54 = .ok (.iload_n 2, 1) := by decide +kernel
theorem dX3_wordMoveNow_55 : decode cX3_wordMoveNow 55 = .ok (.aload_n 0, 1) := by decide +kernel
theorem dX3_wordMoveNow_56 : decode cX3_wordMoveNow 56 = .ok (.getfield 96, 3) := by decide +kernel
theorem dX3_wordMoveNow_59 : decode cX3_wordMoveNow 59 = .ok (.invokevirtual 119, 3) := by decide +kernel
theorem dX3_wordMoveNow_62 : decode cX3_wordMoveNow 62 = .ok (.istore 4, 2) := by decide +kernel
theorem dX3_wordMoveNow_64 : decode cX3_wordMoveNow 64 = .ok (.iinc 5 1, 3) := by decide +kernel
theorem dX3_wordMoveNow_67 : decode cX3_wordMoveNow 67 = .ok (.goto (-28), 3) := by decide +kernel
theorem dX3_wordMoveNow_70 : decode cX3_wordMoveNow 70 = .ok (.iload 4, 2) := by decide +kernel
theorem dX3_wordMoveNow_72 : decode cX3_wordMoveNow 72 = .ok (.ireturn, 1) := by decide +kernel
set_option maxRecDepth 20000 in
theorem ggX3_wordMove_X3_layFor : GoodIn wsX3_wordMove wsX3_layFor := goodIn_r _ [7, 8, 9, 10, 6, 11, 12, 13, 14, 15, 16, 17, 18, 19, 20, 21, 22, 23, 24, 25, 26, 27, 28, 29, 30, 31, 32, 33, 34, 35, 36, 37, 38, 39, 40, 41, 42, 43, 44, 45, 46, 47, 48, 49, 70, 71, 72, 73, 74, 75, 76, 77, 78, 79, 80, 81, 82, 83, 84, 85, 86, 87, 88] (by decide +kernel) (by decide +kernel)
set_option maxRecDepth 20000 in
theorem gX3_wordMove_X3_layFor : GoodIn wsX3_wordMove (wsV RX3 112 RX3 yX3_layFor wsX3_layFor) := goodIn_app (goodIn_of _ (by decide +kernel)) ggX3_wordMove_X3_layFor
set_option maxRecDepth 20000 in
theorem ggX3_wordMove_X3_wordMoveNow : GoodIn wsX3_wordMove wsX3_wordMoveNow := goodIn_r _ [53, 13, 2, 54, 55, 56, 6, 57, 58, 46, 47, 48, 49, 12, 59, 60, 61, 62, 63, 64, 65, 29, 35, 36, 37, 66, 67, 68, 69, 28, 30, 31, 32, 33, 34, 15, 16, 17, 18, 41, 42, 43, 44, 45, 70, 71, 72, 73, 74, 75, 76, 77, 78, 79, 80, 81, 82, 83, 84, 85, 86, 87, 88] (by decide +kernel) (by decide +kernel)
set_option maxRecDepth 20000 in
theorem gX3_wordMove_X3_wordMoveNow : GoodIn wsX3_wordMove (wsV RX3 177 RX3 yX3_wordMoveNow wsX3_wordMoveNow) := goodIn_app (goodIn_of _ (by decide +kernel)) ggX3_wordMove_X3_wordMoveNow
theorem dX3_wordMove_0 : decode cX3_wordMove 0 = .ok (.aload_n 0, 1) := by decide +kernel
theorem dX3_wordMove_1 : decode cX3_wordMove 1 = .ok (.iconst 0, 1) := by decide +kernel
theorem dX3_wordMove_2 : decode cX3_wordMove 2 = .ok (.putfield 46, 3) := by decide +kernel
theorem dX3_wordMove_5 : decode cX3_wordMove 5 = .ok (.aload_n 0, 1) := by decide +kernel
theorem dX3_wordMove_6 : decode cX3_wordMove 6 = .ok (.aload_n 0, 1) := by decide +kernel
theorem dX3_wordMove_7 : decode cX3_wordMove 7 = .ok (.getfield 96, 3) := by decide +kernel
theorem dX3_wordMove_10 : decode cX3_wordMove 10 = .ok (.invokevirtual 112, 3) := by decide +kernel
theorem dX3_wordMove_13 : decode cX3_wordMove 13 = .ok (.aload_n 0, 1) := by decide +kernel
theorem dX3_wordMove_14 : decode cX3_wordMove 14 = .ok (.iload_n 1, 1) := by decide +kernel
theorem dX3_wordMove_15 : decode cX3_wordMove 15 = .ok (.invokevirtual 177, 3) := by decide +kernel
theorem dX3_wordMove_18 : decode cX3_wordMove 18 = .ok (.ireturn, 1) := by decide +kernel
set_option maxRecDepth 20000 in
theorem ggX3_wordsNow_X3_present : GoodIn wsX3_wordsNow wsX3_present := goodIn_r _ [11, 12, 13, 14, 15, 10, 16, 17, 40, 41, 42, 43, 44, 45, 46, 47, 48, 49, 50, 51, 52, 53, 54, 55, 56, 57, 58] (by decide +kernel) (by decide +kernel)
set_option maxRecDepth 20000 in
theorem gX3_wordsNow_X3_present : GoodIn wsX3_wordsNow (wsV RX3 115 RX3 yX3_present wsX3_present) := goodIn_app (goodIn_of _ (by decide +kernel)) ggX3_wordsNow_X3_present
set_option maxRecDepth 20000 in
theorem ggX3_wordsNow_X3_has : GoodIn wsX3_wordsNow wsX3_has := goodIn_r _ [20] (by decide +kernel) (by decide +kernel)
set_option maxRecDepth 20000 in
theorem gX3_wordsNow_X3_has : GoodIn wsX3_wordsNow (va_wsS RX3 60 yX3_has wsX3_has) := goodIn_app (goodIn_of _ (by decide +kernel)) ggX3_wordsNow_X3_has
set_option maxRecDepth 20000 in
theorem ggX3_wordsNow_X3_after : GoodIn wsX3_wordsNow wsX3_after := goodIn_r _ [24, 25, 26, 27, 28, 29, 10, 30, 17, 31, 32, 33, 34, 18, 19, 20, 35, 36, 37, 38, 39, 13, 14, 15, 16, 40, 41, 42, 43, 44, 45, 46, 47, 48, 49, 50, 51, 52, 53, 54, 55, 56, 57, 58] (by decide +kernel) (by decide +kernel)
set_option maxRecDepth 20000 in
theorem gX3_wordsNow_X3_after : GoodIn wsX3_wordsNow (wsV RX3 92 RX3 yX3_after wsX3_after) := goodIn_app (goodIn_of _ (by decide +kernel)) ggX3_wordsNow_X3_after
theorem dX3_wordsNow_0 : decode cX3_wordsNow 0 = .ok (.aload_n 0, 1) := by decide +kernel
theorem dX3_wordsNow_1 : decode cX3_wordsNow 1 = .ok (.getfield 30, 3) := by decide +kernel
theorem dX3_wordsNow_4 : decode cX3_wordsNow 4 = .ok (.aload_n 0, 1) := by decide +kernel
theorem dX3_wordsNow_5 : decode cX3_wordsNow 5 = .ok (.invokevirtual 115, 3) := by decide +kernel
theorem dX3_wordsNow_8 : decode cX3_wordsNow 8 = .ok (.iaload, 1) := by decide +kernel
theorem dX3_wordsNow_9 : decode cX3_wordsNow 9 = .ok (.iconst (-1), 1) := by decide +kernel
theorem dX3_wordsNow_10 : decode cX3_wordsNow 10 = .ok (.if_icmp .ne 5, 3) := by decide +kernel
theorem dX3_wordsNow_13 : decode cX3_wordsNow 13 = .ok (.lconst 0, 1) := by decide +kernel
theorem dX3_wordsNow_14 : decode cX3_wordsNow 14 = .ok (.lreturn, 1) := by decide +kernel
theorem dX3_wordsNow_15 : decode cX3_wordsNow 15 = .ok (.aload_n 0, 1) := by decide +kernel
theorem dX3_wordsNow_16 : decode cX3_wordsNow 16 = .ok (.getfield 36, 3) := by decide +kernel
theorem dX3_wordsNow_19 : decode cX3_wordsNow 19 = .ok (.iconst 0, 1) := by decide +kernel
theorem dX3_wordsNow_20 : decode cX3_wordsNow 20 = .ok (.lconst 1, 1) := by decide +kernel
theorem dX3_wordsNow_21 : decode cX3_wordsNow 21 = .ok (.lastore, 1) := by decide +kernel
theorem dX3_wordsNow_22 : decode cX3_wordsNow 22 = .ok (.iconst 1, 1) := by decide +kernel
theorem dX3_wordsNow_23 : decode cX3_wordsNow 23 = .ok (.istore_n 1, 1) := by decide +kernel
theorem dX3_wordsNow_24 : decode cX3_wordsNow 24 = .ok (.iload_n 1, 1) := by decide +kernel
theorem dX3_wordsNow_25 : decode cX3_wordsNow 25 = .ok (.aload_n 0, 1) := by decide +kernel
theorem dX3_wordsNow_26 : decode cX3_wordsNow 26 = .ok (.getfield 76, 3) := by decide +kernel
theorem dX3_wordsNow_29 : decode cX3_wordsNow 29 = .ok (.if_icmp .ge 98, 3) := by decide +kernel
theorem dX3_wordsNow_32 : decode cX3_wordsNow 32 = .ok (.aload_n 0, 1) := by decide +kernel
theorem dX3_wordsNow_33 : decode cX3_wordsNow 33 = .ok (.getfield 33, 3) := by decide +kernel
theorem dX3_wordsNow_36 : decode cX3_wordsNow 36 = .ok (.iload_n 1, 1) := by decide +kernel
theorem dX3_wordsNow_37 : decode cX3_wordsNow 37 = .ok (.iaload, 1) := by decide +kernel
theorem dX3_wordsNow_38 : decode cX3_wordsNow 38 = .ok (.istore_n 2, 1) := by decide +kernel
theorem dX3_wordsNow_39 : decode cX3_wordsNow 39 = .ok (.aload_n 0, 1) := by decide +kernel
theorem dX3_wordsNow_40 : decode cX3_wordsNow 40 = .ok (.getfield 36, 3) := by decide +kernel
theorem dX3_wordsNow_43 : decode cX3_wordsNow 43 = .ok (.iload_n 2, 1) := by decide +kernel
theorem dX3_wordsNow_44 : decode cX3_wordsNow 44 = .ok (.lconst 0, 1) := by decide +kernel
theorem dX3_wordsNow_45 : decode cX3_wordsNow 45 = .ok (.lastore, 1) := by decide +kernel
theorem dX3_wordsNow_46 : decode cX3_wordsNow 46 = .ok (.iconst 0, 1) := by decide +kernel
theorem dX3_wordsNow_47 : decode cX3_wordsNow 47 = .ok (.istore_n 3, 1) := by decide +kernel
theorem dX3_wordsNow_48 : decode cX3_wordsNow 48 = .ok (.iload_n 3, 1) := by decide +kernel
theorem dX3_wordsNow_49 : decode cX3_wordsNow 49 = .ok (.iconst 2, 1) := by decide +kernel
theorem dX3_wordsNow_50 : decode cX3_wordsNow 50 = .ok (.aload_n 0, 1) := by decide +kernel
theorem dX3_wordsNow_51 : decode cX3_wordsNow 51 = .ok (.getfield 53, 3) := by decide +kernel
theorem dX3_wordsNow_54 : decode cX3_wordsNow 54 = .ok (.imul, 1) := by decide +kernel
theorem dX3_wordsNow_55 : decode cX3_wordsNow 55 = .ok (.if_icmp .ge 66, 3) := by decide +kernel
theorem dX3_wordsNow_58 : decode cX3_wordsNow 58 = .ok (.aload_n 0, 1) := by decide +kernel
theorem dX3_wordsNow_59 : decode cX3_wordsNow 59 = .ok (.getfield 96, 3) := by decide +kernel
theorem dX3_wordsNow_62 : decode cX3_wordsNow 62 = .ok (.iload_n 3, 1) := by decide +kernel
theorem dX3_wordsNow_63 : decode cX3_wordsNow 63 = .ok (.invokestatic 60, 3) := by decide +kernel
theorem dX3_wordsNow_66 : decode cX3_wordsNow 66 = .ok (.ifCond .eq 49, 3) := by decide +kernel
theorem dX3_wordsNow_69 : decode cX3_wordsNow 69 = .ok (.aload_n 0, 1) := by decide +kernel
theorem dX3_wordsNow_70 : decode cX3_wordsNow 70 = .ok (.iload_n 2, 1) := by decide +kernel
theorem dX3_wordsNow_71 : decode cX3_wordsNow 71 = .ok (.iload_n 3, 1) := by decide +kernel
theorem dX3_wordsNow_72 : decode cX3_wordsNow 72 = .ok (.invokevirtual 92, 3) := by decide +kernel
theorem dX3_wordsNow_75 : decode cX3_wordsNow 75 = .ok (.istore 4, 2) := by decide +kernel
theorem dX3_wordsNow_77 : decode cX3_wordsNow 77 = .ok (.aload_n 0, 1) := by decide +kernel
theorem dX3_wordsNow_78 : decode cX3_wordsNow 78 = .ok (.getfield 36, 3) := by decide +kernel
theorem dX3_wordsNow_81 : decode cX3_wordsNow 81 = .ok (.iload_n 2, 1) := by decide +kernel
theorem dX3_wordsNow_82 : decode cX3_wordsNow 82 = .ok (.dup2, 1) := by decide +kernel
theorem dX3_wordsNow_83 : decode cX3_wordsNow 83 = .ok (.laload, 1) := by decide +kernel
theorem dX3_wordsNow_84 : decode cX3_wordsNow 84 = .ok (.aload_n 0, 1) := by decide +kernel
theorem dX3_wordsNow_85 : decode cX3_wordsNow 85 = .ok (.getfield 30, 3) := by decide +kernel
theorem dX3_wordsNow_88 : decode cX3_wordsNow 88 = .ok (.iload 4, 2) := by decide +kernel
theorem dX3_wordsNow_90 : decode cX3_wordsNow 90 = .ok (.iaload, 1) := by decide +kernel
theorem dX3_wordsNow_91 : decode cX3_wordsNow 91 = .ok (.aload_n 0, 1) := by decide +kernel
theorem dX3_wordsNow_92 : decode cX3_wordsNow 92 = .ok (.getfield 30, 3) := by decide +kernel
theorem dX3_wordsNow_95 : decode cX3_wordsNow 95 = .ok (.iload_n 2, 1) := by decide +kernel
theorem dX3_wordsNow_96 : decode cX3_wordsNow 96 = .ok (.iaload, 1) := by decide +kernel
theorem dX3_wordsNow_97 : decode cX3_wordsNow 97 = .ok (.iconst 1, 1) := by decide +kernel
theorem dX3_wordsNow_98 : decode cX3_wordsNow 98 = .ok (.isub, 1) := by decide +kernel
theorem dX3_wordsNow_99 : decode cX3_wordsNow 99 = .ok (.if_icmp .ne 13, 3) := by decide +kernel
theorem dX3_wordsNow_102 : decode cX3_wordsNow 102 = .ok (.aload_n 0, 1) := by decide +kernel
theorem dX3_wordsNow_103 : decode cX3_wordsNow 103 = .ok (.getfield 36, 3) := by decide +kernel
theorem dX3_wordsNow_106 : decode cX3_wordsNow 106 = .ok (.iload 4, 2) := by decide +kernel
theorem dX3_wordsNow_108 : decode cX3_wordsNow 108 = .ok (.laload, 1) := by decide +kernel
theorem dX3_wordsNow_109 : decode cX3_wordsNow 109 = .ok (.goto 4, 3) := by decide +kernel
theorem dX3_wordsNow_112 : decode cX3_wordsNow 112 = .ok (.lconst 0, 1) := by decide +kernel
theorem dX3_wordsNow_113 : decode cX3_wordsNow 113 = .ok (.ladd, 1) := by decide +kernel
theorem dX3_wordsNow_114 : decode cX3_wordsNow 114 = .ok (.lastore, 1) := by decide +kernel
theorem dX3_wordsNow_115 : decode cX3_wordsNow 115 = .ok (.iinc 3 1, 3) := by decide +kernel
theorem dX3_wordsNow_118 : decode cX3_wordsNow 118 = .ok (.goto (-70), 3) := by decide +kernel
theorem dX3_wordsNow_121 : decode cX3_wordsNow 121 = .ok (.iinc 1 1, 3) := by decide +kernel
theorem dX3_wordsNow_124 : decode cX3_wordsNow 124 = .ok (.goto (-100), 3) := by decide +kernel
theorem dX3_wordsNow_127 : decode cX3_wordsNow 127 = .ok (.aload_n 0, 1) := by decide +kernel
theorem dX3_wordsNow_128 : decode cX3_wordsNow 128 = .ok (.getfield 36, 3) := by decide +kernel
theorem dX3_wordsNow_131 : decode cX3_wordsNow 131 = .ok (.aload_n 0, 1) := by decide +kernel
theorem dX3_wordsNow_132 : decode cX3_wordsNow 132 = .ok (.invokevirtual 115, 3) := by decide +kernel
theorem dX3_wordsNow_135 : decode cX3_wordsNow 135 = .ok (.laload, 1) := by decide +kernel
theorem dX3_wordsNow_136 : decode cX3_wordsNow 136 = .ok (.lreturn, 1) := by decide +kernel
set_option maxRecDepth 20000 in
theorem ggX3_words_X3_layFor : GoodIn wsX3_words wsX3_layFor := goodIn_r _ [7, 8, 9, 10, 6, 11, 12, 13, 14, 15, 16, 17, 18, 19, 20, 21, 22, 23, 24, 25, 26, 27, 28, 29, 30, 31, 32, 33, 34, 35, 36, 37, 38, 39, 40, 41, 42, 43, 44, 45, 46, 47, 48, 49, 64, 65, 66, 67, 68, 69, 70, 71, 72, 73, 74, 75, 76, 77, 78, 79, 80, 81, 82] (by decide +kernel) (by decide +kernel)
set_option maxRecDepth 20000 in
theorem gX3_words_X3_layFor : GoodIn wsX3_words (wsV RX3 112 RX3 yX3_layFor wsX3_layFor) := goodIn_app (goodIn_of _ (by decide +kernel)) ggX3_words_X3_layFor
set_option maxRecDepth 20000 in
theorem ggX3_words_X3_wordsNow : GoodIn wsX3_words wsX3_wordsNow := goodIn_r _ [53, 13, 54, 14, 23, 29, 2, 55, 56, 57, 6, 58, 59, 46, 47, 48, 49, 12, 35, 36, 37, 60, 61, 62, 63, 28, 30, 31, 32, 33, 34, 15, 16, 17, 18, 41, 42, 43, 44, 45, 64, 65, 66, 67, 68, 69, 70, 71, 72, 73, 74, 75, 76, 77, 78, 79, 80, 81, 82] (by decide +kernel) (by decide +kernel)
set_option maxRecDepth 20000 in
theorem gX3_words_X3_wordsNow : GoodIn wsX3_words (wsV RX3 180 RX3 yX3_wordsNow wsX3_wordsNow) := goodIn_app (goodIn_of _ (by decide +kernel)) ggX3_words_X3_wordsNow
theorem dX3_words_0 : decode cX3_words 0 = .ok (.aload_n 0, 1) := by decide +kernel
theorem dX3_words_1 : decode cX3_words 1 = .ok (.iconst 0, 1) := by decide +kernel
theorem dX3_words_2 : decode cX3_words 2 = .ok (.putfield 46, 3) := by decide +kernel
theorem dX3_words_5 : decode cX3_words 5 = .ok (.aload_n 0, 1) := by decide +kernel
theorem dX3_words_6 : decode cX3_words 6 = .ok (.aload_n 0, 1) := by decide +kernel
theorem dX3_words_7 : decode cX3_words 7 = .ok (.getfield 96, 3) := by decide +kernel
theorem dX3_words_10 : decode cX3_words 10 = .ok (.invokevirtual 112, 3) := by decide +kernel
theorem dX3_words_13 : decode cX3_words 13 = .ok (.aload_n 0, 1) := by decide +kernel
theorem dX3_words_14 : decode cX3_words 14 = .ok (.invokevirtual 180, 3) := by decide +kernel
theorem dX3_words_17 : decode cX3_words 17 = .ok (.lreturn, 1) := by decide +kernel
set_option maxRecDepth 20000 in
theorem ggX3_phaseNow_X3_layFor : GoodIn wsX3_phaseNow wsX3_layFor := goodIn_r _ [10, 11, 12, 13, 9, 14, 15, 2, 3, 16, 17, 18, 19, 20, 21, 22, 23, 5, 24, 25, 26, 27, 28, 29, 30, 31, 32, 33, 34, 35, 36, 37, 38, 39, 40, 41, 42, 43, 44, 45, 46, 47, 48, 49, 63, 64, 65, 66, 67, 68, 69, 70, 71, 72, 73, 74, 75, 76, 77, 78, 79, 80, 81] (by decide +kernel) (by decide +kernel)
set_option maxRecDepth 20000 in
theorem gX3_phaseNow_X3_layFor : GoodIn wsX3_phaseNow (wsV RX3 112 RX3 yX3_layFor wsX3_layFor) := goodIn_app (goodIn_of _ (by decide +kernel)) ggX3_phaseNow_X3_layFor
set_option maxRecDepth 20000 in
theorem ggX3_phaseNow_X3_present : GoodIn wsX3_phaseNow wsX3_present := goodIn_r _ [53, 54, 46, 47, 48, 9, 49, 15, 63, 64, 65, 66, 67, 68, 69, 70, 71, 72, 73, 74, 75, 76, 77, 78, 79, 80, 81] (by decide +kernel) (by decide +kernel)
set_option maxRecDepth 20000 in
theorem gX3_phaseNow_X3_present : GoodIn wsX3_phaseNow (wsV RX3 115 RX3 yX3_present wsX3_present) := goodIn_app (goodIn_of _ (by decide +kernel)) ggX3_phaseNow_X3_present
set_option maxRecDepth 20000 in
theorem ggX3_phaseNow_X3_begins : GoodIn wsX3_phaseNow wsX3_begins := goodIn_r _ [14, 15, 2, 3, 16, 17, 18, 9, 19, 63, 64, 65, 66, 67, 68, 69, 70, 71, 72, 73, 74, 75, 76, 77, 78, 79, 80, 81] (by decide +kernel) (by decide +kernel)
set_option maxRecDepth 20000 in
theorem gX3_phaseNow_X3_begins : GoodIn wsX3_phaseNow (wsV RX3 82 RX3 yX3_begins wsX3_begins) := goodIn_app (goodIn_of _ (by decide +kernel)) ggX3_phaseNow_X3_begins
set_option maxRecDepth 20000 in
theorem ggX3_phaseNow_X3_aim : GoodIn wsX3_phaseNow wsX3_aim := goodIn_r _ [23, 2, 5, 3, 63, 64, 65, 66, 67, 68, 69, 70, 71, 72, 73, 74, 75, 76, 77, 78, 79, 80, 81] (by decide +kernel) (by decide +kernel)
set_option maxRecDepth 20000 in
theorem gX3_phaseNow_X3_aim : GoodIn wsX3_phaseNow (wsV RX3 85 RX3 yX3_aim wsX3_aim) := goodIn_app (goodIn_of _ (by decide +kernel)) ggX3_phaseNow_X3_aim
set_option maxRecDepth 20000 in
theorem ggX3_phaseNow_X3_spread : GoodIn wsX3_phaseNow wsX3_spread := goodIn_r _ [27, 3, 5, 28, 29, 30, 2, 31, 32, 33, 9, 34, 15, 16, 17, 18, 19, 35, 36, 37, 38, 39, 40, 41, 42, 43, 44, 45, 46, 47, 48, 49, 63, 64, 65, 66, 67, 68, 69, 70, 71, 72, 73, 74, 75, 76, 77, 78, 79, 80, 81] (by decide +kernel) (by decide +kernel)
set_option maxRecDepth 20000 in
theorem gX3_phaseNow_X3_spread : GoodIn wsX3_phaseNow (wsV RX3 89 RX3 yX3_spread wsX3_spread) := goodIn_app (goodIn_of _ (by decide +kernel)) ggX3_phaseNow_X3_spread
set_option maxRecDepth 20000 in
theorem ggX3_phaseNow_X3_nearer : GoodIn wsX3_phaseNow wsX3_nearer := goodIn_r _ [58, 29, 2, 35, 36, 9, 37, 59, 60, 61, 62, 28, 30, 31, 32, 33, 34, 15, 16, 17, 18, 19, 41, 42, 43, 44, 45, 46, 47, 48, 49, 63, 64, 65, 66, 67, 68, 69, 70, 71, 72, 73, 74, 75, 76, 77, 78, 79, 80, 81] (by decide +kernel) (by decide +kernel)
set_option maxRecDepth 20000 in
theorem gX3_phaseNow_X3_nearer : GoodIn wsX3_phaseNow (wsV RX3 119 RX3 yX3_nearer wsX3_nearer) := goodIn_app (goodIn_of _ (by decide +kernel)) ggX3_phaseNow_X3_nearer
set_option maxRecDepth 20000 in
theorem ggX3_phaseNow_X3_after : GoodIn wsX3_phaseNow wsX3_after := goodIn_r _ [62, 28, 30, 31, 32, 33, 9, 34, 15, 16, 17, 18, 19, 35, 36, 37, 41, 42, 43, 44, 45, 46, 47, 48, 49, 63, 64, 65, 66, 67, 68, 69, 70, 71, 72, 73, 74, 75, 76, 77, 78, 79, 80, 81] (by decide +kernel) (by decide +kernel)
set_option maxRecDepth 20000 in
theorem gX3_phaseNow_X3_after : GoodIn wsX3_phaseNow (wsV RX3 92 RX3 yX3_after wsX3_after) := goodIn_app (goodIn_of _ (by decide +kernel)) ggX3_phaseNow_X3_after
theorem dX3_phaseNow_0 : decode cX3_phaseNow 0 = .ok (.aload_n 0, 1) := by decide +kernel
theorem dX3_phaseNow_1 : decode cX3_phaseNow 1 = .ok (.aload_n 0, 1) := by decide +kernel
theorem dX3_phaseNow_2 : decode cX3_phaseNow 2 = .ok (.getfield 96, 3) := by decide +kernel
theorem dX3_phaseNow_5 : decode cX3_phaseNow 5 = .ok (.invokevirtual 112, 3) := by decide +kernel
theorem dX3_phaseNow_8 : decode cX3_phaseNow 8 = .ok (.aload_n 0, 1) := by decide +kernel
theorem dX3_phaseNow_9 : decode cX3_phaseNow 9 = .ok (.getfield 30, 3) := by decide +kernel
theorem dX3_phaseNow_12 : decode cX3_phaseNow 12 = .ok (.aload_n 0, 1) := by decide +kernel
theorem dX3_phaseNow_13 : decode cX3_phaseNow 13 = .ok (.invokevirtual 115, 3) := by decide +kernel
theorem dX3_phaseNow_16 : decode cX3_phaseNow 16 = .ok (.iaload, 1) := by decide +kernel
theorem dX3_phaseNow_17 : decode cX3_phaseNow 17 = .ok (.iconst (-1), 1) := by decide +kernel
theorem dX3_phaseNow_18 : decode cX3_phaseNow 18 = .ok (.if_icmp .ne 5, 3) := by decide +kernel
theorem dX3_phaseNow_21 : decode cX3_phaseNow 21 = .ok (.iconst (-1), 1) := by decide +kernel
theorem dX3_phaseNow_22 : decode cX3_phaseNow 22 = .ok (.ireturn, 1) := by decide +kernel
theorem dX3_phaseNow_23 : decode cX3_phaseNow 23 = .ok (.aload_n 0, 1) := by decide +kernel
theorem dX3_phaseNow_24 : decode cX3_phaseNow 24 = .ok (.iload_n 1, 1) := by decide +kernel
theorem dX3_phaseNow_25 : decode cX3_phaseNow 25 = .ok (.invokevirtual 112, 3) := by decide +kernel
theorem dX3_phaseNow_28 : decode cX3_phaseNow 28 = .ok (.aload_n 0, 1) := by decide +kernel
theorem dX3_phaseNow_29 : decode cX3_phaseNow 29 = .ok (.getfield 76, 3) := by decide +kernel
theorem dX3_phaseNow_32 : decode cX3_phaseNow 32 = .ok (.istore_n 3, 1) := by decide +kernel
theorem dX3_phaseNow_33 : decode cX3_phaseNow 33 = .ok (.iconst 0, 1) := by decide +kernel
theorem dX3_phaseNow_34 : decode cX3_phaseNow 34 = .ok (.istore 4, 2) := by decide +kernel
theorem dX3_phaseNow_36 : decode cX3_phaseNow 36 = .ok (.iload 4, 2) := by decide +kernel
theorem dX3_phaseNow_38 : decode cX3_phaseNow 38 = .ok (.iload_n 3, 1) := by decide +kernel
theorem dX3_phaseNow_39 : decode cX3_phaseNow 39 = .ok (.if_icmp .ge 23, 3) := by decide +kernel
theorem dX3_phaseNow_42 : decode cX3_phaseNow 42 = .ok (.aload_n 0, 1) := by decide +kernel
theorem dX3_phaseNow_43 : decode cX3_phaseNow 43 = .ok (.getfield 40, 3) := by decide +kernel
theorem dX3_phaseNow_46 : decode cX3_phaseNow 46 = .ok (.iload 4, 2) := by decide +kernel
theorem dX3_phaseNow_48 : decode cX3_phaseNow 48 = .ok (.aload_n 0, 1) := by decide +kernel
theorem dX3_phaseNow_49 : decode cX3_phaseNow 49 = .ok (.getfield 33, 3) := by decide +kernel
theorem dX3_phaseNow_52 : decode cX3_phaseNow 52 = .ok (.iload 4, 2) := by decide +kernel
theorem dX3_phaseNow_54 : decode cX3_phaseNow 54 = .ok (.iaload, 1) := by decide +kernel
theorem dX3_phaseNow_55 : decode cX3_phaseNow 55 = .ok (.iastore, 1) := by decide +kernel
theorem dX3_phaseNow_56 : decode cX3_phaseNow 56 = .ok (.iinc 4 1, 3) := by decide +kernel
theorem dX3_phaseNow_59 : decode cX3_phaseNow 59 = .ok (.goto (-23), 3) := by decide +kernel
theorem dX3_phaseNow_62 : decode cX3_phaseNow 62 = .ok (.aload_n 0, 1) := by decide +kernel
theorem dX3_phaseNow_63 : decode cX3_phaseNow 63 = .ok (.invokevirtual 82, 3) := by decide +kernel
theorem dX3_phaseNow_66 : decode cX3_phaseNow 66 = .ok (.iconst 0, 1) := by decide +kernel
theorem dX3_phaseNow_67 : decode cX3_phaseNow 67 = .ok (.istore 4, 2) := by decide +kernel
theorem dX3_phaseNow_69 : decode cX3_phaseNow 69 = .ok (.iload 4, 2) := by decide +kernel
theorem dX3_phaseNow_71 : decode cX3_phaseNow 71 = .ok (.iload_n 3, 1) := by decide +kernel
theorem dX3_phaseNow_72 : decode cX3_phaseNow 72 = .ok (.if_icmp .ge 20, 3) := by decide +kernel
theorem dX3_phaseNow_75 : decode cX3_phaseNow 75 = .ok (.aload_n 0, 1) := by decide +kernel
theorem dX3_phaseNow_76 : decode cX3_phaseNow 76 = .ok (.aload_n 0, 1) := by decide +kernel
theorem dX3_phaseNow_77 : decode cX3_phaseNow 77 = .ok (.getfield 40, 3) := by decide +kernel
theorem dX3_phaseNow_80 : decode cX3_phaseNow 80 = .ok (.iload 4, 2) := by decide +kernel
theorem dX3_phaseNow_82 : decode cX3_phaseNow 82 = .ok (.iaload, 1) := by decide +kernel
theorem dX3_phaseNow_83 : decode cX3_phaseNow 83 = .ok (.invokevirtual 85, 3) := by decide +kernel
theorem dX3_phaseNow_86 : decode cX3_phaseNow 86 = .ok (.iinc 4 1, 3) := by decide +kernel
theorem dX3_phaseNow_89 : decode cX3_phaseNow 89 = .ok (.goto (-20), 3) := by decide +kernel
theorem dX3_phaseNow_92 : decode cX3_phaseNow 92 = .ok (.aload_n 0, 1) := by decide +kernel
theorem dX3_phaseNow_93 : decode cX3_phaseNow 93 = .ok (.aload_n 0, 1) := by decide +kernel
theorem dX3_phaseNow_94 : decode cX3_phaseNow 94 = .ok (.getfield 96, 3) := by decide +kernel
theorem dX3_phaseNow_97 : decode cX3_phaseNow 97 = .ok (.invokevirtual 89, 3) := by decide +kernel
theorem dX3_phaseNow_100 : decode cX3_phaseNow 100 = .ok (.aload_n 0, 1) := by decide +kernel
theorem dX3_phaseNow_101 : decode cX3_phaseNow 101 = .ok (.invokevirtual 115, 3) := by decide +kernel
theorem dX3_phaseNow_104 : decode cX3_phaseNow 104 = .ok (.istore 4, 2) := by decide +kernel
theorem dX3_phaseNow_106 : decode cX3_phaseNow 106 = .ok (.aload_n 0, 1) := by decide +kernel
theorem dX3_phaseNow_107 : decode cX3_phaseNow 107 = .ok (.getfield 30, 3) := by decide +kernel
theorem dX3_phaseNow_110 : decode cX3_phaseNow 110 = .ok (.iload 4, 2) := by decide +kernel
theorem dX3_phaseNow_112 : decode cX3_phaseNow 112 = .ok (.iaload, 1) := by decide +kernel
theorem dX3_phaseNow_113 : decode cX3_phaseNow 113 = .ok (.istore 5, 2) := by decide +kernel
theorem dX3_phaseNow_115 : decode cX3_phaseNow 115 = .ok (.iconst 0, 1) := by decide +kernel
theorem dX3_phaseNow_116 : decode cX3_phaseNow 116 = .ok (.istore 6, 2) := by decide +kernel
theorem dX3_phaseNow_118 : decode cX3_phaseNow 118 = .ok (.iload 6, 2) := by decide +kernel
theorem dX3_phaseNow_120 : decode cX3_phaseNow 120 = .ok (.iload 5, 2) := by decide +kernel
theorem dX3_phaseNow_122 : decode cX3_phaseNow 122 = .ok (.if_icmp .ge 27, 3) := by decide +kernel
theorem dX3_phaseNow_125 : decode cX3_phaseNow 125 = .ok (.aload_n 0, 1) := by decide +kernel
theorem dX3_phaseNow_126 : decode cX3_phaseNow 126 = .ok (.iload 4, 2) := by decide +kernel
theorem dX3_phaseNow_128 : decode cX3_phaseNow 128 = .ok (.aload_n 0, 1) := by decide +kernel
theorem dX3_phaseNow_129 : decode cX3_phaseNow 129 = .ok (.iload 4, 2) := by decide +kernel
theorem dX3_phaseNow_131 : decode cX3_phaseNow 131 = .ok (.aload_n 0, 1) := by decide +kernel
theorem dX3_phaseNow_132 : decode cX3_phaseNow 132 = .ok (.getfield 96, 3) := by decide +kernel
theorem dX3_phaseNow_135 : decode cX3_phaseNow 135 = .ok (.invokevirtual 119, 3) := by decide +kernel
theorem dX3_phaseNow_138 : decode cX3_phaseNow 138 = .ok (.invokevirtual 92, 3) := by decide +kernel
theorem dX3_phaseNow_141 : decode cX3_phaseNow 141 = .ok (.istore 4, 2) := by decide +kernel
theorem dX3_phaseNow_143 : decode cX3_phaseNow 143 = .ok (.iinc 6 1, 3) := by decide +kernel
theorem dX3_phaseNow_146 : decode cX3_phaseNow 146 = .ok (.goto (-28), 3) := by decide +kernel
theorem dX3_phaseNow_149 : decode cX3_phaseNow 149 = .ok (.aload_n 0, 1) := by decide +kernel
theorem dX3_phaseNow_150 : decode cX3_phaseNow 150 = .ok (.iload_n 1, 1) := by decide +kernel
theorem dX3_phaseNow_151 : decode cX3_phaseNow 151 = .ok (.invokevirtual 112, 3) := by decide +kernel
theorem dX3_phaseNow_154 : decode cX3_phaseNow 154 = .ok (.iload_n 2, 1) := by decide +kernel
theorem dX3_phaseNow_155 : decode cX3_phaseNow 155 = .ok (.ifCond .ne 8, 3) := by decide +kernel
theorem dX3_phaseNow_158 : decode cX3_phaseNow 158 = .ok (.iload 5, 2) := by decide +kernel
theorem dX3_phaseNow_160 : decode cX3_phaseNow 160 = .ok (.goto 28, 3) := by decide +kernel
theorem dX3_phaseNow_163 : decode cX3_phaseNow 163 = .ok (.iload_n 2, 1) := by decide +kernel
theorem dX3_phaseNow_164 : decode cX3_phaseNow 164 = .ok (.iconst 1, 1) := by decide +kernel
theorem dX3_phaseNow_165 : decode cX3_phaseNow 165 = .ok (.if_icmp .ne 13, 3) := by decide +kernel
theorem dX3_phaseNow_168 : decode cX3_phaseNow 168 = .ok (.aload_n 0, 1) := by decide +kernel
theorem dX3_phaseNow_169 : decode cX3_phaseNow 169 = .ok (.getfield 30, 3) := by decide +kernel
theorem dX3_phaseNow_172 : decode cX3_phaseNow 172 = .ok (.iload 4, 2) := by decide +kernel
theorem dX3_phaseNow_174 : decode cX3_phaseNow 174 = .ok (.iaload, 1) := by decide +kernel
theorem dX3_phaseNow_175 : decode cX3_phaseNow 175 = .ok (.goto 13, 3) := by decide +kernel
theorem dX3_phaseNow_178 : decode cX3_phaseNow 178 = .ok (.iload 5, 2) := by decide +kernel
theorem dX3_phaseNow_180 : decode cX3_phaseNow 180 = .ok (.aload_n 0, 1) := by decide +kernel
theorem dX3_phaseNow_181 : decode cX3_phaseNow 181 = .ok (.getfield 30, 3) := by decide +kernel
theorem dX3_phaseNow_184 : decode cX3_phaseNow 184 = .ok (.iload 4, 2) := by decide +kernel
theorem dX3_phaseNow_186 : decode cX3_phaseNow 186 = .ok (.iaload, 1) := by decide +kernel
theorem dX3_phaseNow_187 : decode cX3_phaseNow 187 = .ok (.iadd, 1) := by decide +kernel
theorem dX3_phaseNow_188 : decode cX3_phaseNow 188 = .ok (.ireturn, 1) := by decide +kernel
set_option maxRecDepth 20000 in
theorem ggX3_phase_X3_within : GoodIn wsX3_phase wsX3_within := goodIn_r _ [6] (by decide +kernel) (by decide +kernel)
set_option maxRecDepth 20000 in
theorem gX3_phase_X3_within : GoodIn wsX3_phase (va_wsS RX3 49 yX3_within wsX3_within) := goodIn_app (goodIn_of _ (by decide +kernel)) ggX3_phase_X3_within
set_option maxRecDepth 20000 in
theorem ggX3_phase_X3_phaseNow : GoodIn wsX3_phase wsX3_phaseNow := goodIn_r _ [10, 1, 11, 12, 13, 14, 15, 16, 17, 5, 18, 19, 20, 21, 22, 23, 24, 25, 26, 27, 28, 29, 30, 31, 32, 33, 34, 35, 36, 37, 38, 39, 40, 41, 42, 43, 44, 45, 46, 47, 48, 49, 50, 51, 52, 53, 54, 55, 56, 57, 58, 59, 60, 61, 62, 63, 64, 65, 66, 67, 68, 69, 70, 71, 72, 73, 74, 75, 76, 77, 78, 79, 80, 81, 82, 83, 84, 85, 86, 87, 88, 89] (by decide +kernel) (by decide +kernel)
set_option maxRecDepth 20000 in
theorem gX3_phase_X3_phaseNow : GoodIn wsX3_phase (wsV RX3 184 RX3 yX3_phaseNow wsX3_phaseNow) := goodIn_app (goodIn_of _ (by decide +kernel)) ggX3_phase_X3_phaseNow
theorem dX3_phase_0 : decode cX3_phase 0 = .ok (.iload_n 1, 1) := by decide +kernel
theorem dX3_phase_1 : decode cX3_phase 1 = .ok (.ifCond .lt 27, 3) := by decide +kernel
theorem dX3_phase_4 : decode cX3_phase 4 = .ok (.iload_n 1, 1) := by decide +kernel
theorem dX3_phase_5 : decode cX3_phase 5 = .ok (.aload_n 0, 1) := by decide +kernel
theorem dX3_phase_6 : decode cX3_phase 6 = .ok (.getfield 96, 3) := by decide +kernel
theorem dX3_phase_9 : decode cX3_phase 9 = .ok (.iconst (-1), 1) := by decide +kernel
theorem dX3_phase_10 : decode cX3_phase 10 = .ok (.ixor, 1) := by decide +kernel
theorem dX3_phase_11 : decode cX3_phase 11 = .ok (.iand, 1) := by decide +kernel
theorem dX3_phase_12 : decode cX3_phase 12 = .ok (.ifCond .ne 16, 3) := by decide +kernel
theorem dX3_phase_15 : decode cX3_phase 15 = .ok (.iload_n 2, 1) := by decide +kernel
theorem dX3_phase_16 : decode cX3_phase 16 = .ok (.iconst 0, 1) := by decide +kernel
theorem dX3_phase_17 : decode cX3_phase 17 = .ok (.iconst 2, 1) := by decide +kernel
theorem dX3_phase_18 : decode cX3_phase 18 = .ok (.invokestatic 49, 3) := by decide +kernel
theorem dX3_phase_21 : decode cX3_phase 21 = .ok (.ifCond .eq 7, 3) := by decide +kernel
theorem dX3_phase_24 : decode cX3_phase 24 = .ok (.iconst 1, 1) := by decide +kernel
theorem dX3_phase_25 : decode cX3_phase 25 = .ok (.goto 4, 3) := by decide +kernel
theorem dX3_phase_28 : decode cX3_phase 28 = .ok (.iconst 0, 1) := by decide +kernel
theorem dX3_phase_29 : decode cX3_phase 29 = .ok (.istore_n 3, 1) := by decide +kernel
theorem dX3_phase_30 : decode cX3_phase 30 = .ok (.aload_n 0, 1) := by decide +kernel
theorem dX3_phase_31 : decode cX3_phase 31 = .ok (.iload_n 3, 1) := by decide +kernel
theorem dX3_phase_32 : decode cX3_phase 32 = .ok (.ifCond .eq 7, 3) := by decide +kernel
theorem dX3_phase_35 : decode cX3_phase 35 = .ok (.iconst 0, 1) := by decide +kernel
theorem dX3_phase_36 : decode cX3_phase 36 = .ok (.goto 4, 3) := by decide +kernel
theorem dX3_phase_39 : decode cX3_phase 39 = .ok (.iconst 1, 1) := by decide +kernel
theorem dX3_phase_40 : decode cX3_phase 40 = .ok (.putfield 46, 3) := by decide +kernel
theorem dX3_phase_43 : decode cX3_phase 43 = .ok (.aload_n 0, 1) := by decide +kernel
theorem dX3_phase_44 : decode cX3_phase 44 = .ok (.getfield 46, 3) := by decide +kernel
theorem dX3_phase_47 : decode cX3_phase 47 = .ok (.ifCond .le 7, 3) := by decide +kernel
theorem dX3_phase_50 : decode cX3_phase 50 = .ok (.iconst 0, 1) := by decide +kernel
theorem dX3_phase_51 : decode cX3_phase 51 = .ok (.goto 9, 3) := by decide +kernel
theorem dX3_phase_54 : decode cX3_phase 54 = .ok (.aload_n 0, 1) := by decide +kernel
theorem dX3_phase_55 : decode cX3_phase 55 = .ok (.iload_n 1, 1) := by decide +kernel
theorem dX3_phase_56 : decode cX3_phase 56 = .ok (.iload_n 2, 1) := by decide +kernel
theorem dX3_phase_57 : decode cX3_phase 57 = .ok (.invokevirtual 184, 3) := by decide +kernel
theorem dX3_phase_60 : decode cX3_phase 60 = .ok (.ireturn, 1) := by decide +kernel
set_option maxRecDepth 20000 in
theorem ggX3_ifForbidden_X3_isMove : GoodIn wsX3_ifForbidden wsX3_isMove := goodIn_r _ [9, 10, 11, 12, 8, 13, 62, 63, 64, 65, 66, 67, 68, 69, 70, 71, 72, 73, 74, 75, 76, 77, 78, 79, 80] (by decide +kernel) (by decide +kernel)
set_option maxRecDepth 20000 in
theorem gX3_ifForbidden_X3_isMove : GoodIn wsX3_ifForbidden (wsV RX3 106 RX3 yX3_isMove wsX3_isMove) := goodIn_app (goodIn_of _ (by decide +kernel)) ggX3_ifForbidden_X3_isMove
set_option maxRecDepth 20000 in
theorem ggX3_ifForbidden_X3_within : GoodIn wsX3_ifForbidden wsX3_within := goodIn_r _ [13] (by decide +kernel) (by decide +kernel)
set_option maxRecDepth 20000 in
theorem gX3_ifForbidden_X3_within : GoodIn wsX3_ifForbidden (va_wsS RX3 49 yX3_within wsX3_within) := goodIn_app (goodIn_of _ (by decide +kernel)) ggX3_ifForbidden_X3_within
set_option maxRecDepth 20000 in
theorem ggX3_ifForbidden_X3_has : GoodIn wsX3_ifForbidden wsX3_has := goodIn_r _ [16] (by decide +kernel) (by decide +kernel)
set_option maxRecDepth 20000 in
theorem gX3_ifForbidden_X3_has : GoodIn wsX3_ifForbidden (va_wsS RX3 60 yX3_has wsX3_has) := goodIn_app (goodIn_of _ (by decide +kernel)) ggX3_ifForbidden_X3_has
set_option maxRecDepth 20000 in
theorem ggX3_ifForbidden_X3_layFor : GoodIn wsX3_ifForbidden wsX3_layFor := goodIn_r _ [20, 21, 22, 23, 8, 24, 25, 4, 3, 26, 27, 28, 29, 30, 31, 32, 33, 34, 35, 36, 37, 38, 39, 10, 40, 41, 42, 43, 44, 14, 15, 16, 45, 46, 47, 48, 49, 50, 51, 52, 53, 54, 55, 56, 62, 63, 64, 65, 66, 67, 68, 69, 70, 71, 72, 73, 74, 75, 76, 77, 78, 79, 80] (by decide +kernel) (by decide +kernel)
set_option maxRecDepth 20000 in
theorem gX3_ifForbidden_X3_layFor : GoodIn wsX3_ifForbidden (wsV RX3 112 RX3 yX3_layFor wsX3_layFor) := goodIn_app (goodIn_of _ (by decide +kernel)) ggX3_ifForbidden_X3_layFor
set_option maxRecDepth 20000 in
theorem ggX3_ifForbidden_X3_present : GoodIn wsX3_ifForbidden wsX3_present := goodIn_r _ [60, 61, 53, 54, 55, 8, 56, 25, 62, 63, 64, 65, 66, 67, 68, 69, 70, 71, 72, 73, 74, 75, 76, 77, 78, 79, 80] (by decide +kernel) (by decide +kernel)
set_option maxRecDepth 20000 in
theorem gX3_ifForbidden_X3_present : GoodIn wsX3_ifForbidden (wsV RX3 115 RX3 yX3_present wsX3_present) := goodIn_app (goodIn_of _ (by decide +kernel)) ggX3_ifForbidden_X3_present
theorem dX3_ifForbidden_0 : decode cX3_ifForbidden 0 = .ok (.aload_n 0, 1) := by decide +kernel
theorem dX3_ifForbidden_1 : decode cX3_ifForbidden 1 = .ok (.aload_n 0, 1) := by decide +kernel
theorem dX3_ifForbidden_2 : decode cX3_ifForbidden 2 = .ok (.iload_n 1, 1) := by decide +kernel
theorem dX3_ifForbidden_3 : decode cX3_ifForbidden 3 = .ok (.invokevirtual 106, 3) := by decide +kernel
theorem dX3_ifForbidden_6 : decode cX3_ifForbidden 6 = .ok (.ifCond .ne 7, 3) := by decide +kernel
theorem dX3_ifForbidden_9 : decode cX3_ifForbidden 9 = .ok (.iconst 1, 1) := by decide +kernel
theorem dX3_ifForbidden_10 : decode cX3_ifForbidden 10 = .ok (.goto 32, 3) := by decide +kernel
theorem dX3_ifForbidden_13 : decode cX3_ifForbidden 13 = .ok (.iload_n 2, 1) := by decide +kernel
theorem dX3_ifForbidden_14 : decode cX3_ifForbidden 14 = .ok (.iconst 0, 1) := by decide +kernel
theorem dX3_ifForbidden_15 : decode cX3_ifForbidden 15 = .ok (.iconst 1, 1) := by decide +kernel
theorem dX3_ifForbidden_16 : decode cX3_ifForbidden 16 = .ok (.invokestatic 49, 3) := by decide +kernel
theorem dX3_ifForbidden_19 : decode cX3_ifForbidden 19 = .ok (.ifCond .ne 7, 3) := by decide +kernel
theorem dX3_ifForbidden_22 : decode cX3_ifForbidden 22 = .ok (.iconst 2, 1) := by decide +kernel
theorem dX3_ifForbidden_23 : decode cX3_ifForbidden 23 = .ok (.goto 19, 3) := by decide +kernel
theorem dX3_ifForbidden_26 : decode cX3_ifForbidden 26 = .ok (.aload_n 0, 1) := by decide +kernel
theorem dX3_ifForbidden_27 : decode cX3_ifForbidden 27 = .ok (.getfield 96, 3) := by decide +kernel
theorem dX3_ifForbidden_30 : decode cX3_ifForbidden 30 = .ok (.iload_n 1, 1) := by decide +kernel
theorem dX3_ifForbidden_31 : decode cX3_ifForbidden 31 = .ok (.invokestatic 60, 3) := by decide +kernel
theorem dX3_ifForbidden_34 : decode cX3_ifForbidden 34 = .ok (.ifCond .eq 7, 3) := by decide +kernel
theorem dX3_ifForbidden_37 : decode cX3_ifForbidden 37 = .ok (.iconst 0, 1) := by decide +kernel
theorem dX3_ifForbidden_38 : decode cX3_ifForbidden 38 = .ok (.goto 4, 3) := by decide +kernel
theorem dX3_ifForbidden_41 : decode cX3_ifForbidden 41 = .ok (.iconst 3, 1) := by decide +kernel
theorem dX3_ifForbidden_42 : decode cX3_ifForbidden 42 = .ok (.putfield 46, 3) := by decide +kernel
theorem dX3_ifForbidden_45 : decode cX3_ifForbidden 45 = .ok (.aload_n 0, 1) := by decide +kernel
theorem dX3_ifForbidden_46 : decode cX3_ifForbidden 46 = .ok (.getfield 46, 3) := by decide +kernel
theorem dX3_ifForbidden_49 : decode cX3_ifForbidden 49 = .ok (.ifCond .le 5, 3) := by decide +kernel
theorem dX3_ifForbidden_52 : decode cX3_ifForbidden 52 = .ok (.iconst 0, 1) := by decide +kernel
theorem dX3_ifForbidden_53 : decode cX3_ifForbidden 53 = .ok (.ireturn, 1) := by decide +kernel
theorem dX3_ifForbidden_54 : decode cX3_ifForbidden 54 = .ok (.aload_n 0, 1) := by decide +kernel
theorem dX3_ifForbidden_55 : decode cX3_ifForbidden 55 = .ok (.aload_n 0, 1) := by decide +kernel
theorem dX3_ifForbidden_56 : decode cX3_ifForbidden 56 = .ok (.getfield 96, 3) := by decide +kernel
theorem dX3_ifForbidden_59 : decode cX3_ifForbidden 59 = .ok (.iconst 1, 1) := by decide +kernel
theorem dX3_ifForbidden_60 : decode cX3_ifForbidden 60 = .ok (.iload_n 1, 1) := by decide +kernel
theorem dX3_ifForbidden_61 : decode cX3_ifForbidden 61 = .ok (.ishl, 1) := by decide +kernel
theorem dX3_ifForbidden_62 : decode cX3_ifForbidden 62 = .ok (.iconst (-1), 1) := by decide +kernel
theorem dX3_ifForbidden_63 : decode cX3_ifForbidden 63 = .ok (.ixor, 1) := by decide +kernel
theorem dX3_ifForbidden_64 : decode cX3_ifForbidden 64 = .ok (.iand, 1) := by decide +kernel
theorem dX3_ifForbidden_65 : decode cX3_ifForbidden 65 = .ok (.invokevirtual 112, 3) := by decide +kernel
theorem dX3_ifForbidden_68 : decode cX3_ifForbidden 68 = .ok (.iload_n 2, 1) := by decide +kernel
theorem dX3_ifForbidden_69 : decode cX3_ifForbidden 69 = .ok (.ifCond .ne 10, 3) := by decide +kernel
theorem dX3_ifForbidden_72 : decode cX3_ifForbidden 72 = .ok (.aload_n 0, 1) := by decide +kernel
theorem dX3_ifForbidden_73 : decode cX3_ifForbidden 73 = .ok (.getfield 76, 3) := by decide +kernel
theorem dX3_ifForbidden_76 : decode cX3_ifForbidden 76 = .ok (.goto 12, 3) := by decide +kernel
theorem dX3_ifForbidden_79 : decode cX3_ifForbidden 79 = .ok (.aload_n 0, 1) := by decide +kernel
theorem dX3_ifForbidden_80 : decode cX3_ifForbidden 80 = .ok (.getfield 30, 3) := by decide +kernel
theorem dX3_ifForbidden_83 : decode cX3_ifForbidden 83 = .ok (.aload_n 0, 1) := by decide +kernel
theorem dX3_ifForbidden_84 : decode cX3_ifForbidden 84 = .ok (.invokevirtual 115, 3) := by decide +kernel
theorem dX3_ifForbidden_87 : decode cX3_ifForbidden 87 = .ok (.iaload, 1) := by decide +kernel
theorem dX3_ifForbidden_88 : decode cX3_ifForbidden 88 = .ok (.ireturn, 1) := by decide +kernel
set_option maxRecDepth 20000 in
theorem ggX3_tile_X3_isPlace : GoodIn wsX3_tile wsX3_isPlace := goodIn_r _ [7, 8, 9, 10, 6, 11, 12, 13, 14, 15, 16, 17, 18, 19, 20, 21, 22, 23, 24, 25, 26, 27, 28, 29, 30] (by decide +kernel) (by decide +kernel)
set_option maxRecDepth 20000 in
theorem gX3_tile_X3_isPlace : GoodIn wsX3_tile (wsV RX3 99 RX3 yX3_isPlace wsX3_isPlace) := goodIn_app (goodIn_of _ (by decide +kernel)) ggX3_tile_X3_isPlace
theorem dX3_tile_0 : decode cX3_tile 0 = .ok (.aload_n 0, 1) := by decide +kernel
theorem dX3_tile_1 : decode cX3_tile 1 = .ok (.aload_n 0, 1) := by decide +kernel
theorem dX3_tile_2 : decode cX3_tile 2 = .ok (.iload_n 1, 1) := by decide +kernel
theorem dX3_tile_3 : decode cX3_tile 3 = .ok (.invokevirtual 99, 3) := by decide +kernel
theorem dX3_tile_6 : decode cX3_tile 6 = .ok (.ifCond .eq 7, 3) := by decide +kernel
theorem dX3_tile_9 : decode cX3_tile 9 = .ok (.iconst 0, 1) := by decide +kernel
theorem dX3_tile_10 : decode cX3_tile 10 = .ok (.goto 4, 3) := by decide +kernel
theorem dX3_tile_13 : decode cX3_tile 13 = .ok (.iconst 1, 1) := by decide +kernel
theorem dX3_tile_14 : decode cX3_tile 14 = .ok (.putfield 46, 3) := by decide +kernel
theorem dX3_tile_17 : decode cX3_tile 17 = .ok (.aload_n 0, 1) := by decide +kernel
theorem dX3_tile_18 : decode cX3_tile 18 = .ok (.getfield 46, 3) := by decide +kernel
theorem dX3_tile_21 : decode cX3_tile 21 = .ok (.ifCond .le 7, 3) := by decide +kernel
theorem dX3_tile_24 : decode cX3_tile 24 = .ok (.iconst 0, 1) := by decide +kernel
theorem dX3_tile_25 : decode cX3_tile 25 = .ok (.goto 9, 3) := by decide +kernel
theorem dX3_tile_28 : decode cX3_tile 28 = .ok (.aload_n 0, 1) := by decide +kernel
theorem dX3_tile_29 : decode cX3_tile 29 = .ok (.getfield 13, 3) := by decide +kernel
theorem dX3_tile_32 : decode cX3_tile 32 = .ok (.iload_n 1, 1) := by decide +kernel
theorem dX3_tile_33 : decode cX3_tile 33 = .ok (.iaload, 1) := by decide +kernel
theorem dX3_tile_34 : decode cX3_tile 34 = .ok (.ireturn, 1) := by decide +kernel
set_option maxRecDepth 20000 in
theorem ggX3_source_X3_isMove : GoodIn wsX3_source wsX3_isMove := goodIn_r _ [7, 8, 9, 10, 6, 11, 17, 18, 19, 20, 21, 22, 23, 24, 25, 26, 27, 28, 29, 30, 31, 32, 33, 34, 35] (by decide +kernel) (by decide +kernel)
set_option maxRecDepth 20000 in
theorem gX3_source_X3_isMove : GoodIn wsX3_source (wsV RX3 106 RX3 yX3_isMove wsX3_isMove) := goodIn_app (goodIn_of _ (by decide +kernel)) ggX3_source_X3_isMove
set_option maxRecDepth 20000 in
theorem ggX3_source_X3_isPlace : GoodIn wsX3_source wsX3_isPlace := goodIn_r _ [15, 16, 9, 10, 6, 11, 17, 18, 19, 20, 21, 22, 23, 24, 25, 26, 27, 28, 29, 30, 31, 32, 33, 34, 35] (by decide +kernel) (by decide +kernel)
set_option maxRecDepth 20000 in
theorem gX3_source_X3_isPlace : GoodIn wsX3_source (wsV RX3 99 RX3 yX3_isPlace wsX3_isPlace) := goodIn_app (goodIn_of _ (by decide +kernel)) ggX3_source_X3_isPlace
theorem dX3_source_0 : decode cX3_source 0 = .ok (.aload_n 0, 1) := by decide +kernel
theorem dX3_source_1 : decode cX3_source 1 = .ok (.aload_n 0, 1) := by decide +kernel
theorem dX3_source_2 : decode cX3_source 2 = .ok (.iload_n 1, 1) := by decide +kernel
theorem dX3_source_3 : decode cX3_source 3 = .ok (.invokevirtual 106, 3) := by decide +kernel
theorem dX3_source_6 : decode cX3_source 6 = .ok (.ifCond .eq 15, 3) := by decide +kernel
theorem dX3_source_9 : decode cX3_source 9 = .ok (.aload_n 0, 1) := by decide +kernel
theorem dX3_source_10 : decode cX3_source 10 = .ok (.iload_n 2, 1) := by decide +kernel
theorem dX3_source_11 : decode cX3_source 11 = .ok (.invokevirtual 99, 3) := by decide +kernel
theorem dX3_source_14 : decode cX3_source 14 = .ok (.ifCond .eq 7, 3) := by decide +kernel
theorem dX3_source_17 : decode cX3_source 17 = .ok (.iconst 0, 1) := by decide +kernel
theorem dX3_source_18 : decode cX3_source 18 = .ok (.goto 4, 3) := by decide +kernel
theorem dX3_source_21 : decode cX3_source 21 = .ok (.iconst 1, 1) := by decide +kernel
theorem dX3_source_22 : decode cX3_source 22 = .ok (.putfield 46, 3) := by decide +kernel
theorem dX3_source_25 : decode cX3_source 25 = .ok (.aload_n 0, 1) := by decide +kernel
theorem dX3_source_26 : decode cX3_source 26 = .ok (.getfield 46, 3) := by decide +kernel
theorem dX3_source_29 : decode cX3_source 29 = .ok (.ifCond .le 7, 3) := by decide +kernel
theorem dX3_source_32 : decode cX3_source 32 = .ok (.iconst 0, 1) := by decide +kernel
theorem dX3_source_33 : decode cX3_source 33 = .ok (.goto 14, 3) := by decide +kernel
theorem dX3_source_36 : decode cX3_source 36 = .ok (.aload_n 0, 1) := by decide +kernel
theorem dX3_source_37 : decode cX3_source 37 = .ok (.getfield 17, 3) := by decide +kernel
theorem dX3_source_40 : decode cX3_source 40 = .ok (.bipush 8, 2) := by decide +kernel
theorem dX3_source_42 : decode cX3_source 42 = .ok (.iload_n 1, 1) := by decide +kernel
theorem dX3_source_43 : decode cX3_source 43 = .ok (.imul, 1) := by decide +kernel
theorem dX3_source_44 : decode cX3_source 44 = .ok (.iload_n 2, 1) := by decide +kernel
theorem dX3_source_45 : decode cX3_source 45 = .ok (.iadd, 1) := by decide +kernel
theorem dX3_source_46 : decode cX3_source 46 = .ok (.iaload, 1) := by decide +kernel
theorem dX3_source_47 : decode cX3_source 47 = .ok (.ireturn, 1) := by decide +kernel
set_option maxRecDepth 20000 in
theorem ggX3_commute_X3_isMove : GoodIn wsX3_commute wsX3_isMove := goodIn_r _ [8, 9, 10, 11, 7, 12, 13, 14, 15, 16, 17, 18, 19, 20, 21, 22, 23, 24, 25, 26, 27, 28, 29, 30, 31] (by decide +kernel) (by decide +kernel)
set_option maxRecDepth 20000 in
theorem gX3_commute_X3_isMove : GoodIn wsX3_commute (wsV RX3 106 RX3 yX3_isMove wsX3_isMove) := goodIn_app (goodIn_of _ (by decide +kernel)) ggX3_commute_X3_isMove
theorem dX3_commute_0 : decode cX3_commute 0 = .ok (.aload_n 0, 1) := by decide +kernel
theorem dX3_commute_1 : decode cX3_commute 1 = .ok (.aload_n 0, 1) := by decide +kernel
theorem dX3_commute_2 : decode cX3_commute 2 = .ok (.iload_n 1, 1) := by decide +kernel
theorem dX3_commute_3 : decode cX3_commute 3 = .ok (.invokevirtual 106, 3) := by decide +kernel
theorem dX3_commute_6 : decode cX3_commute 6 = .ok (.ifCond .eq 15, 3) := by decide +kernel
theorem dX3_commute_9 : decode cX3_commute 9 = .ok (.aload_n 0, 1) := by decide +kernel
theorem dX3_commute_10 : decode cX3_commute 10 = .ok (.iload_n 2, 1) := by decide +kernel
theorem dX3_commute_11 : decode cX3_commute 11 = .ok (.invokevirtual 106, 3) := by decide +kernel
theorem dX3_commute_14 : decode cX3_commute 14 = .ok (.ifCond .eq 7, 3) := by decide +kernel
theorem dX3_commute_17 : decode cX3_commute 17 = .ok (.iconst 0, 1) := by decide +kernel
theorem dX3_commute_18 : decode cX3_commute 18 = .ok (.goto 4, 3) := by decide +kernel
theorem dX3_commute_21 : decode cX3_commute 21 = .ok (.iconst 1, 1) := by decide +kernel
theorem dX3_commute_22 : decode cX3_commute 22 = .ok (.putfield 46, 3) := by decide +kernel
theorem dX3_commute_25 : decode cX3_commute 25 = .ok (.aload_n 0, 1) := by decide +kernel
theorem dX3_commute_26 : decode cX3_commute 26 = .ok (.getfield 46, 3) := by decide +kernel
theorem dX3_commute_29 : decode cX3_commute 29 = .ok (.ifCond .ne 7, 3) := by decide +kernel
theorem dX3_commute_32 : decode cX3_commute 32 = .ok (.iconst 1, 1) := by decide +kernel
theorem dX3_commute_33 : decode cX3_commute 33 = .ok (.goto 4, 3) := by decide +kernel
theorem dX3_commute_36 : decode cX3_commute 36 = .ok (.iconst 0, 1) := by decide +kernel
theorem dX3_commute_37 : decode cX3_commute 37 = .ok (.istore_n 3, 1) := by decide +kernel
theorem dX3_commute_38 : decode cX3_commute 38 = .ok (.iconst 0, 1) := by decide +kernel
theorem dX3_commute_39 : decode cX3_commute 39 = .ok (.istore 4, 2) := by decide +kernel
theorem dX3_commute_41 : decode cX3_commute 41 = .ok (.iload 4, 2) := by decide +kernel
theorem dX3_commute_43 : decode cX3_commute 43 = .ok (.aload_n 0, 1) := by decide +kernel
theorem dX3_commute_44 : decode cX3_commute 44 = .ok (.getfield 7, 3) := by decide +kernel
theorem dX3_commute_47 : decode cX3_commute 47 = .ok (.if_icmp .ge 74, 3) := by decide +kernel
theorem dX3_commute_50 : decode cX3_commute 50 = .ok (.iload_n 3, 1) := by decide +kernel
theorem dX3_commute_51 : decode cX3_commute 51 = .ok (.ifCond .eq 70, 3) := by decide +kernel
theorem dX3_commute_54 : decode cX3_commute 54 = .ok (.aload_n 0, 1) := by decide +kernel
theorem dX3_commute_55 : decode cX3_commute 55 = .ok (.getfield 17, 3) := by decide +kernel
theorem dX3_commute_58 : decode cX3_commute 58 = .ok (.bipush 8, 2) := by decide +kernel
theorem dX3_commute_60 : decode cX3_commute 60 = .ok (.iload_n 1, 1) := by decide +kernel
theorem dX3_commute_61 : decode cX3_commute 61 = .ok (.imul, 1) := by decide +kernel
theorem dX3_commute_62 : decode cX3_commute 62 = .ok (.aload_n 0, 1) := by decide +kernel
theorem dX3_commute_63 : decode cX3_commute 63 = .ok (.getfield 17, 3) := by decide +kernel
theorem dX3_commute_66 : decode cX3_commute 66 = .ok (.bipush 8, 2) := by decide +kernel
theorem dX3_commute_68 : decode cX3_commute 68 = .ok (.iload_n 2, 1) := by decide +kernel
theorem dX3_commute_69 : decode cX3_commute 69 = .ok (.imul, 1) := by decide +kernel
theorem dX3_commute_70 : decode cX3_commute 70 = .ok (.iload 4, 2) := by decide +kernel
theorem dX3_commute_72 : decode cX3_commute 72 = .ok (.iadd, 1) := by decide +kernel
theorem dX3_commute_73 : decode cX3_commute 73 = .ok (.iaload, 1) := by decide +kernel
theorem dX3_commute_74 : decode cX3_commute 74 = .ok (.iadd, 1) := by decide +kernel
theorem dX3_commute_75 : decode cX3_commute 75 = .ok (.iaload, 1) := by decide +kernel
theorem dX3_commute_76 : decode cX3_commute 76 = .ok (.istore 5, 2) := by decide +kernel
theorem dX3_commute_78 : decode cX3_commute 78 = .ok (.aload_n 0, 1) := by decide +kernel
theorem dX3_commute_79 : decode cX3_commute 79 = .ok (.getfield 17, 3) := by decide +kernel
theorem dX3_commute_82 : decode cX3_commute 82 = .ok (.bipush 8, 2) := by decide +kernel
theorem dX3_commute_84 : decode cX3_commute 84 = .ok (.iload_n 2, 1) := by decide +kernel
theorem dX3_commute_85 : decode cX3_commute 85 = .ok (.imul, 1) := by decide +kernel
theorem dX3_commute_86 : decode cX3_commute 86 = .ok (.aload_n 0, 1) := by decide +kernel
theorem dX3_commute_87 : decode cX3_commute 87 = .ok (.getfield 17, 3) := by decide +kernel
theorem dX3_commute_90 : decode cX3_commute 90 = .ok (.bipush 8, 2) := by decide +kernel
theorem dX3_commute_92 : decode cX3_commute 92 = .ok (.iload_n 1, 1) := by decide +kernel
theorem dX3_commute_93 : decode cX3_commute 93 = .ok (.imul, 1) := by decide +kernel
theorem dX3_commute_94 : decode cX3_commute 94 = .ok (.iload 4, 2) := by decide +kernel
theorem dX3_commute_96 : decode cX3_commute 96 = .ok (.iadd, 1) := by decide +kernel
theorem dX3_commute_97 : decode cX3_commute 97 = .ok (.iaload, 1) := by decide +kernel
theorem dX3_commute_98 : decode cX3_commute 98 = .ok (.iadd, 1) := by decide +kernel
theorem dX3_commute_99 : decode cX3_commute 99 = .ok (.iaload, 1) := by decide +kernel
theorem dX3_commute_100 : decode cX3_commute 100 = .ok (.istore 6, 2) := by decide +kernel
theorem dX3_commute_102 : decode cX3_commute 102 = .ok (.iload 5, 2) := by decide +kernel
theorem dX3_commute_104 : decode cX3_commute 104 = .ok (.iload 6, 2) := by decide +kernel
theorem dX3_commute_106 : decode cX3_commute 106 = .ok (.if_icmp .ne 7, 3) := by decide +kernel
theorem dX3_commute_109 : decode cX3_commute 109 = .ok (.iconst 1, 1) := by decide +kernel
theorem dX3_commute_110 : decode cX3_commute 110 = .ok (.goto 4, 3) := by decide +kernel
theorem dX3_commute_113 : decode cX3_commute 113 = .ok (.iconst 0, 1) := by decide +kernel
theorem dX3_commute_114 : decode cX3_commute 114 = .ok (.istore_n 3, 1) := by decide +kernel
theorem dX3_commute_115 : decode cX3_commute 115 = .ok (.iinc 4 1, 3) := by decide +kernel
theorem dX3_commute_118 : decode cX3_commute 118 = .ok (.goto (-77), 3) := by decide +kernel
theorem dX3_commute_121 : decode cX3_commute 121 = .ok (.iload_n 3, 1) := by decide +kernel
theorem dX3_commute_122 : decode cX3_commute 122 = .ok (.ireturn, 1) := by decide +kernel
set_option maxRecDepth 20000 in
theorem ggX3_counted_X3_isEven : GoodIn wsX3_counted wsX3_isEven := goodIn_r _ [9, 1, 10, 11, 12, 13, 14, 15, 16, 17, 18, 19, 20, 21, 22, 23, 24, 25, 26, 27, 28] (by decide +kernel) (by decide +kernel)
set_option maxRecDepth 20000 in
theorem gX3_counted_X3_isEven : GoodIn wsX3_counted (wsV RX3 158 RX3 yX3_isEven wsX3_isEven) := goodIn_app (goodIn_of _ (by decide +kernel)) ggX3_counted_X3_isEven
theorem dX3_counted_0 : decode cX3_counted 0 = .ok (.iconst 0, 1) := by decide +kernel
theorem dX3_counted_1 : decode cX3_counted 1 = .ok (.istore_n 2, 1) := by decide +kernel
theorem dX3_counted_2 : decode cX3_counted 2 = .ok (.iconst 0, 1) := by decide +kernel
theorem dX3_counted_3 : decode cX3_counted 3 = .ok (.istore_n 3, 1) := by decide +kernel
theorem dX3_counted_4 : decode cX3_counted 4 = .ok (.iload_n 3, 1) := by decide +kernel
theorem dX3_counted_5 : decode cX3_counted 5 = .ok (.aload_n 0, 1) := by decide +kernel
theorem dX3_counted_6 : decode cX3_counted 6 = .ok (.getfield 7, 3) := by decide +kernel
theorem dX3_counted_9 : decode cX3_counted 9 = .ok (.if_icmp .ge 27, 3) := by decide +kernel
theorem dX3_counted_12 : decode cX3_counted 12 = .ok (.iload_n 2, 1) := by decide +kernel
theorem dX3_counted_13 : decode cX3_counted 13 = .ok (.aload_n 0, 1) := by decide +kernel
theorem dX3_counted_14 : decode cX3_counted 14 = .ok (.getfield 13, 3) := by decide +kernel
theorem dX3_counted_17 : decode cX3_counted 17 = .ok (.iload_n 3, 1) := by decide +kernel
theorem dX3_counted_18 : decode cX3_counted 18 = .ok (.iaload, 1) := by decide +kernel
theorem dX3_counted_19 : decode cX3_counted 19 = .ok (.iload_n 3, 1) := by decide +kernel
theorem dX3_counted_20 : decode cX3_counted 20 = .ok (.if_icmp .ne 7, 3) := by decide +kernel
theorem dX3_counted_23 : decode cX3_counted 23 = .ok (.iconst 1, 1) := by decide +kernel
theorem dX3_counted_24 : decode cX3_counted 24 = .ok (.goto 4, 3) := by decide +kernel
theorem dX3_counted_27 : decode cX3_counted 27 = .ok (.iconst 0, 1) := by decide +kernel
theorem dX3_counted_28 : decode cX3_counted 28 = .ok (.iadd, 1) := by decide +kernel
theorem dX3_counted_29 : decode cX3_counted 29 = .ok (.istore_n 2, 1) := by decide +kernel
theorem dX3_counted_30 : decode cX3_counted 30 = .ok (.iinc 3 1, 3) := by decide +kernel
theorem dX3_counted_33 : decode cX3_counted 33 = .ok (.goto (-29), 3) := by decide +kernel
theorem dX3_counted_36 : decode cX3_counted 36 = .ok (.iload_n 1, 1) := by decide +kernel
theorem dX3_counted_37 : decode cX3_counted 37 = .ok (.tableswitch 48 0 3 #[31, 36, 41, 46], 31) := by decide +kernel
theorem dX3_counted_68 : decode cX3_counted 68 = .ok (.aload_n 0, 1) := by decide +kernel
theorem dX3_counted_69 : decode cX3_counted 69 = .ok (.getfield 7, 3) := by decide +kernel
theorem dX3_counted_72 : decode cX3_counted 72 = .ok (.ireturn, 1) := by decide +kernel
theorem dX3_counted_73 : decode cX3_counted 73 = .ok (.aload_n 0, 1) := by decide +kernel
theorem dX3_counted_74 : decode cX3_counted 74 = .ok (.getfield 53, 3) := by decide +kernel
theorem dX3_counted_77 : decode cX3_counted 77 = .ok (.ireturn, 1) := by decide +kernel
theorem dX3_counted_78 : decode cX3_counted 78 = .ok (.aload_n 0, 1) := by decide +kernel
theorem dX3_counted_79 : decode cX3_counted 79 = .ok (.getfield 96, 3) := by decide +kernel
theorem dX3_counted_82 : decode cX3_counted 82 = .ok (.ireturn, 1) := by decide +kernel
theorem dX3_counted_83 : decode cX3_counted 83 = .ok (.iload_n 2, 1) := by decide +kernel
theorem dX3_counted_84 : decode cX3_counted 84 = .ok (.ireturn, 1) := by decide +kernel
theorem dX3_counted_85 : decode cX3_counted 85 = .ok (.aload_n 0, 1) := by decide +kernel
theorem dX3_counted_86 : decode cX3_counted 86 = .ok (.aload_n 0, 1) := by decide +kernel
theorem dX3_counted_87 : decode cX3_counted 87 = .ok (.getfield 13, 3) := by decide +kernel
theorem dX3_counted_90 : decode cX3_counted 90 = .ok (.invokevirtual 158, 3) := by decide +kernel
theorem dX3_counted_93 : decode cX3_counted 93 = .ok (.ifCond .eq 7, 3) := by decide +kernel
theorem dX3_counted_96 : decode cX3_counted 96 = .ok (.iconst 1, 1) := by decide +kernel
theorem dX3_counted_97 : decode cX3_counted 97 = .ok (.goto 4, 3) := by decide +kernel
theorem dX3_counted_100 : decode cX3_counted 100 = .ok (.iconst 0, 1) := by decide +kernel
theorem dX3_counted_101 : decode cX3_counted 101 = .ok (.ireturn, 1) := by decide +kernel
set_option maxRecDepth 20000 in
theorem ggX3_count_X3_within : GoodIn wsX3_count wsX3_within := goodIn_r _ [5] (by decide +kernel) (by decide +kernel)
set_option maxRecDepth 20000 in
theorem gX3_count_X3_within : GoodIn wsX3_count (va_wsS RX3 49 yX3_within wsX3_within) := goodIn_app (goodIn_of _ (by decide +kernel)) ggX3_count_X3_within
set_option maxRecDepth 20000 in
theorem ggX3_count_X3_counted : GoodIn wsX3_count wsX3_counted := goodIn_r _ [9, 10, 11, 12, 13, 14, 15, 16, 4, 17, 18, 19, 20, 21, 22, 23, 24, 25, 26, 27, 28, 29, 30, 31, 32, 33, 34, 35, 36] (by decide +kernel) (by decide +kernel)
set_option maxRecDepth 20000 in
theorem gX3_count_X3_counted : GoodIn wsX3_count (wsV RX3 187 RX3 yX3_counted wsX3_counted) := goodIn_app (goodIn_of _ (by decide +kernel)) ggX3_count_X3_counted
theorem dX3_count_0 : decode cX3_count 0 = .ok (.aload_n 0, 1) := by decide +kernel
theorem dX3_count_1 : decode cX3_count 1 = .ok (.iload_n 1, 1) := by decide +kernel
theorem dX3_count_2 : decode cX3_count 2 = .ok (.iconst 0, 1) := by decide +kernel
theorem dX3_count_3 : decode cX3_count 3 = .ok (.iconst 4, 1) := by decide +kernel
theorem dX3_count_4 : decode cX3_count 4 = .ok (.invokestatic 49, 3) := by decide +kernel
theorem dX3_count_7 : decode cX3_count 7 = .ok (.ifCond .eq 7, 3) := by decide +kernel
theorem dX3_count_10 : decode cX3_count 10 = .ok (.iconst 0, 1) := by decide +kernel
theorem dX3_count_11 : decode cX3_count 11 = .ok (.goto 4, 3) := by decide +kernel
theorem dX3_count_14 : decode cX3_count 14 = .ok (.iconst 1, 1) := by decide +kernel
theorem dX3_count_15 : decode cX3_count 15 = .ok (.putfield 46, 3) := by decide +kernel
theorem dX3_count_18 : decode cX3_count 18 = .ok (.aload_n 0, 1) := by decide +kernel
theorem dX3_count_19 : decode cX3_count 19 = .ok (.getfield 46, 3) := by decide +kernel
theorem dX3_count_22 : decode cX3_count 22 = .ok (.ifCond .le 7, 3) := by decide +kernel
theorem dX3_count_25 : decode cX3_count 25 = .ok (.iconst 0, 1) := by decide +kernel
theorem dX3_count_26 : decode cX3_count 26 = .ok (.goto 8, 3) := by decide +kernel
theorem dX3_count_29 : decode cX3_count 29 = .ok (.aload_n 0, 1) := by decide +kernel
theorem dX3_count_30 : decode cX3_count 30 = .ok (.iload_n 1, 1) := by decide +kernel
theorem dX3_count_31 : decode cX3_count 31 = .ok (.invokevirtual 187, 3) := by decide +kernel
theorem dX3_count_34 : decode cX3_count 34 = .ok (.ireturn, 1) := by decide +kernel
theorem dX3_meanNow_0 : decode cX3_meanNow 0 = .ok (.iconst 0, 1) := by decide +kernel
theorem dX3_meanNow_1 : decode cX3_meanNow 1 = .ok (.istore_n 1, 1) := by decide +kernel
theorem dX3_meanNow_2 : decode cX3_meanNow 2 = .ok (.iconst 0, 1) := by decide +kernel
theorem dX3_meanNow_3 : decode cX3_meanNow 3 = .ok (.istore_n 2, 1) := by decide +kernel
theorem dX3_meanNow_4 : decode cX3_meanNow 4 = .ok (.iload_n 2, 1) := by decide +kernel
theorem dX3_meanNow_5 : decode cX3_meanNow 5 = .ok (.aload_n 0, 1) := by decide +kernel
theorem dX3_meanNow_6 : decode cX3_meanNow 6 = .ok (.getfield 76, 3) := by decide +kernel
theorem dX3_meanNow_9 : decode cX3_meanNow 9 = .ok (.if_icmp .ge 23, 3) := by decide +kernel
theorem dX3_meanNow_12 : decode cX3_meanNow 12 = .ok (.iload_n 1, 1) := by decide +kernel
theorem dX3_meanNow_13 : decode cX3_meanNow 13 = .ok (.aload_n 0, 1) := by decide +kernel
theorem dX3_meanNow_14 : decode cX3_meanNow 14 = .ok (.getfield 30, 3) := by decide +kernel
theorem dX3_meanNow_17 : decode cX3_meanNow 17 = .ok (.aload_n 0, 1) := by decide +kernel
theorem dX3_meanNow_18 : decode cX3_meanNow 18 = .ok (.getfield 33, 3) := by decide +kernel
theorem dX3_meanNow_21 : decode cX3_meanNow 21 = .ok (.iload_n 2, 1) := by decide +kernel
theorem dX3_meanNow_22 : decode cX3_meanNow 22 = .ok (.iaload, 1) := by decide +kernel
theorem dX3_meanNow_23 : decode cX3_meanNow 23 = .ok (.iaload, 1) := by decide +kernel
theorem dX3_meanNow_24 : decode cX3_meanNow 24 = .ok (.iadd, 1) := by decide +kernel
theorem dX3_meanNow_25 : decode cX3_meanNow 25 = .ok (.istore_n 1, 1) := by decide +kernel
theorem dX3_meanNow_26 : decode cX3_meanNow 26 = .ok (.iinc 2 1, 3) := by decide +kernel
theorem dX3_meanNow_29 : decode cX3_meanNow 29 = .ok (.goto (-25), 3) := by decide +kernel
theorem dX3_meanNow_32 : decode cX3_meanNow 32 = .ok (.iload_n 1, 1) := by decide +kernel
theorem dX3_meanNow_33 : decode cX3_meanNow 33 = .ok (.i2d, 1) := by decide +kernel
theorem dX3_meanNow_34 : decode cX3_meanNow 34 = .ok (.aload_n 0, 1) := by decide +kernel
theorem dX3_meanNow_35 : decode cX3_meanNow 35 = .ok (.getfield 76, 3) := by decide +kernel
theorem dX3_meanNow_38 : decode cX3_meanNow 38 = .ok (.i2d, 1) := by decide +kernel
theorem dX3_meanNow_39 : decode cX3_meanNow 39 = .ok (.ddiv, 1) := by decide +kernel
theorem dX3_meanNow_40 : decode cX3_meanNow 40 = .ok (.dreturn, 1) := by decide +kernel
set_option maxRecDepth 20000 in
theorem ggX3_meanLength_X3_layFor : GoodIn wsX3_meanLength wsX3_layFor := goodIn_r _ [7, 8, 9, 10, 6, 11, 12, 13, 14, 15, 16, 17, 18, 19, 20, 21, 22, 23, 24, 25, 26, 27, 28, 29, 30, 31, 32, 33, 34, 35, 36, 37, 38, 39, 40, 41, 42, 43, 44, 45, 46, 47, 48, 49, 54, 55, 56, 57, 58, 59, 60, 61, 62, 63, 64, 65, 66, 67, 68, 69, 70, 71, 72] (by decide +kernel) (by decide +kernel)
set_option maxRecDepth 20000 in
theorem gX3_meanLength_X3_layFor : GoodIn wsX3_meanLength (wsV RX3 112 RX3 yX3_layFor wsX3_layFor) := goodIn_app (goodIn_of _ (by decide +kernel)) ggX3_meanLength_X3_layFor
set_option maxRecDepth 20000 in
theorem ggX3_meanLength_X3_meanNow : GoodIn wsX3_meanLength wsX3_meanNow := goodIn_r _ [53, 14, 13, 23, 54, 55, 56, 57, 58, 59, 60, 61, 62, 63, 64, 65, 66, 67, 68, 69, 70, 71, 72] (by decide +kernel) (by decide +kernel)
set_option maxRecDepth 20000 in
theorem gX3_meanLength_X3_meanNow : GoodIn wsX3_meanLength (wsV RX3 190 RX3 yX3_meanNow wsX3_meanNow) := goodIn_app (goodIn_of _ (by decide +kernel)) ggX3_meanLength_X3_meanNow
theorem dX3_meanLength_0 : decode cX3_meanLength 0 = .ok (.aload_n 0, 1) := by decide +kernel
theorem dX3_meanLength_1 : decode cX3_meanLength 1 = .ok (.iconst 0, 1) := by decide +kernel
theorem dX3_meanLength_2 : decode cX3_meanLength 2 = .ok (.putfield 46, 3) := by decide +kernel
theorem dX3_meanLength_5 : decode cX3_meanLength 5 = .ok (.aload_n 0, 1) := by decide +kernel
theorem dX3_meanLength_6 : decode cX3_meanLength 6 = .ok (.aload_n 0, 1) := by decide +kernel
theorem dX3_meanLength_7 : decode cX3_meanLength 7 = .ok (.getfield 96, 3) := by decide +kernel
theorem dX3_meanLength_10 : decode cX3_meanLength 10 = .ok (.invokevirtual 112, 3) := by decide +kernel
theorem dX3_meanLength_13 : decode cX3_meanLength 13 = .ok (.aload_n 0, 1) := by decide +kernel
theorem dX3_meanLength_14 : decode cX3_meanLength 14 = .ok (.invokevirtual 190, 3) := by decide +kernel
theorem dX3_meanLength_17 : decode cX3_meanLength 17 = .ok (.dreturn, 1) := by decide +kernel
theorem dX3_mix_0 : decode cX3_mix 0 = .ok (.aload_n 0, 1) := by decide +kernel
theorem dX3_mix_1 : decode cX3_mix 1 = .ok (.ldc2_w 194, 3) := by decide +kernel
theorem dX3_mix_4 : decode cX3_mix 4 = .ok (.aload_n 0, 1) := by decide +kernel
theorem dX3_mix_5 : decode cX3_mix 5 = .ok (.getfield 196, 3) := by decide +kernel
theorem dX3_mix_8 : decode cX3_mix 8 = .ok (.lmul, 1) := by decide +kernel
theorem dX3_mix_9 : decode cX3_mix 9 = .ok (.lload_n 1, 1) := by decide +kernel
theorem dX3_mix_10 : decode cX3_mix 10 = .ok (.ladd, 1) := by decide +kernel
theorem dX3_mix_11 : decode cX3_mix 11 = .ok (.putfield 196, 3) := by decide +kernel
theorem dX3_mix_14 : decode cX3_mix 14 = .ok (.return_, 1) := by decide +kernel
set_option maxRecDepth 20000 in
theorem ggX3_mixRow_X3_counted : GoodIn wsX3_mixRow wsX3_counted := goodIn_r _ [9, 1, 2, 3, 10, 11, 12, 13, 8, 14, 21, 22, 23, 24, 25, 26, 27, 28, 29, 30, 31, 32, 33, 34, 35, 36, 37, 38, 39] (by decide +kernel) (by decide +kernel)
set_option maxRecDepth 20000 in
theorem gX3_mixRow_X3_counted : GoodIn wsX3_mixRow (wsV RX3 187 RX3 yX3_counted wsX3_counted) := goodIn_app (goodIn_of _ (by decide +kernel)) ggX3_mixRow_X3_counted
set_option maxRecDepth 20000 in
theorem ggX3_mixRow_X3_mix : GoodIn wsX3_mixRow wsX3_mix := goodIn_r _ [18, 19, 20, 21, 22, 23, 24, 25, 26, 27, 28, 29, 30, 31, 32, 33, 34, 35, 36, 37, 38, 39] (by decide +kernel) (by decide +kernel)
set_option maxRecDepth 20000 in
theorem gX3_mixRow_X3_mix : GoodIn wsX3_mixRow (wsV RX3 200 RX3 yX3_mix wsX3_mix) := goodIn_app (goodIn_of _ (by decide +kernel)) ggX3_mixRow_X3_mix
theorem dX3_mixRow_0 : decode cX3_mixRow 0 = .ok (.iconst 0, 1) := by decide +kernel
theorem dX3_mixRow_1 : decode cX3_mixRow 1 = .ok (.istore_n 1, 1) := by decide +kernel
theorem dX3_mixRow_2 : decode cX3_mixRow 2 = .ok (.iload_n 1, 1) := by decide +kernel
theorem dX3_mixRow_3 : decode cX3_mixRow 3 = .ok (.iconst 5, 1) := by decide +kernel
theorem dX3_mixRow_4 : decode cX3_mixRow 4 = .ok (.if_icmp .ge 19, 3) := by decide +kernel
theorem dX3_mixRow_7 : decode cX3_mixRow 7 = .ok (.aload_n 0, 1) := by decide +kernel
theorem dX3_mixRow_8 : decode cX3_mixRow 8 = .ok (.aload_n 0, 1) := by decide +kernel
theorem dX3_mixRow_9 : decode cX3_mixRow 9 = .ok (.iload_n 1, 1) := by decide +kernel
theorem dX3_mixRow_10 : decode cX3_mixRow 10 = .ok (.invokevirtual 187, 3) := by decide +kernel
theorem dX3_mixRow_13 : decode cX3_mixRow 13 = .ok (.i2l, 1) := by decide +kernel
theorem dX3_mixRow_14 : decode cX3_mixRow 14 = .ok (.invokevirtual 200, 3) := by decide +kernel
theorem dX3_mixRow_17 : decode cX3_mixRow 17 = .ok (.iinc 1 1, 3) := by decide +kernel
theorem dX3_mixRow_20 : decode cX3_mixRow 20 = .ok (.goto (-18), 3) := by decide +kernel
theorem dX3_mixRow_23 : decode cX3_mixRow 23 = .ok (.iconst 0, 1) := by decide +kernel
theorem dX3_mixRow_24 : decode cX3_mixRow 24 = .ok (.istore_n 1, 1) := by decide +kernel
theorem dX3_mixRow_25 : decode cX3_mixRow 25 = .ok (.iload_n 1, 1) := by decide +kernel
theorem dX3_mixRow_26 : decode cX3_mixRow 26 = .ok (.aload_n 0, 1) := by decide +kernel
theorem dX3_mixRow_27 : decode cX3_mixRow 27 = .ok (.getfield 7, 3) := by decide +kernel
theorem dX3_mixRow_30 : decode cX3_mixRow 30 = .ok (.if_icmp .ge 20, 3) := by decide +kernel
theorem dX3_mixRow_33 : decode cX3_mixRow 33 = .ok (.aload_n 0, 1) := by decide +kernel
theorem dX3_mixRow_34 : decode cX3_mixRow 34 = .ok (.aload_n 0, 1) := by decide +kernel
theorem dX3_mixRow_35 : decode cX3_mixRow 35 = .ok (.getfield 13, 3) := by decide +kernel
theorem dX3_mixRow_38 : decode cX3_mixRow 38 = .ok (.iload_n 1, 1) := by decide +kernel
theorem dX3_mixRow_39 : decode cX3_mixRow 39 = .ok (.iaload, 1) := by decide +kernel
theorem dX3_mixRow_40 : decode cX3_mixRow 40 = .ok (.i2l, 1) := by decide +kernel
theorem dX3_mixRow_41 : decode cX3_mixRow 41 = .ok (.invokevirtual 200, 3) := by decide +kernel
theorem dX3_mixRow_44 : decode cX3_mixRow 44 = .ok (.iinc 1 1, 3) := by decide +kernel
theorem dX3_mixRow_47 : decode cX3_mixRow 47 = .ok (.goto (-22), 3) := by decide +kernel
theorem dX3_mixRow_50 : decode cX3_mixRow 50 = .ok (.iconst 0, 1) := by decide +kernel
theorem dX3_mixRow_51 : decode cX3_mixRow 51 = .ok (.istore_n 1, 1) := by decide +kernel
theorem dX3_mixRow_52 : decode cX3_mixRow 52 = .ok (.iload_n 1, 1) := by decide +kernel
theorem dX3_mixRow_53 : decode cX3_mixRow 53 = .ok (.iconst 2, 1) := by decide +kernel
theorem dX3_mixRow_54 : decode cX3_mixRow 54 = .ok (.aload_n 0, 1) := by decide +kernel
theorem dX3_mixRow_55 : decode cX3_mixRow 55 = .ok (.getfield 53, 3) := by decide +kernel
theorem dX3_mixRow_58 : decode cX3_mixRow 58 = .ok (.imul, 1) := by decide +kernel
theorem dX3_mixRow_59 : decode cX3_mixRow 59 = .ok (.if_icmp .ge 41, 3) := by decide +kernel
theorem dX3_mixRow_62 : decode cX3_mixRow 62 = .ok (.iconst 0, 1) := by decide +kernel
theorem dX3_mixRow_63 : decode cX3_mixRow 63 = .ok (.istore_n 2, 1) := by decide +kernel
theorem dX3_mixRow_64 : decode cX3_mixRow 64 = .ok (.iload_n 2, 1) := by decide +kernel
theorem dX3_mixRow_65 : decode cX3_mixRow 65 = .ok (.aload_n 0, 1) := by decide +kernel
theorem dX3_mixRow_66 : decode cX3_mixRow 66 = .ok (.getfield 7, 3) := by decide +kernel
theorem dX3_mixRow_69 : decode cX3_mixRow 69 = .ok (.if_icmp .ge 25, 3) := by decide +kernel
theorem dX3_mixRow_72 : decode cX3_mixRow 72 = .ok (.aload_n 0, 1) := by decide +kernel
theorem dX3_mixRow_73 : decode cX3_mixRow 73 = .ok (.aload_n 0, 1) := by decide +kernel
theorem dX3_mixRow_74 : decode cX3_mixRow 74 = .ok (.getfield 17, 3) := by decide +kernel
theorem dX3_mixRow_77 : decode cX3_mixRow 77 = .ok (.bipush 8, 2) := by decide +kernel
theorem dX3_mixRow_79 : decode cX3_mixRow 79 = .ok (.iload_n 1, 1) := by decide +kernel
theorem dX3_mixRow_80 : decode cX3_mixRow 80 = .ok (.imul, 1) := by decide +kernel
theorem dX3_mixRow_81 : decode cX3_mixRow 81 = .ok (.iload_n 2, 1) := by decide +kernel
theorem dX3_mixRow_82 : decode cX3_mixRow 82 = .ok (.iadd, 1) := by decide +kernel
theorem dX3_mixRow_83 : decode cX3_mixRow 83 = .ok (.iaload, 1) := by decide +kernel
theorem dX3_mixRow_84 : decode cX3_mixRow 84 = .ok (.i2l, 1) := by decide +kernel
theorem dX3_mixRow_85 : decode cX3_mixRow 85 = .ok (.invokevirtual 200, 3) := by decide +kernel
theorem dX3_mixRow_88 : decode cX3_mixRow 88 = .ok (.iinc 2 1, 3) := by decide +kernel
theorem dX3_mixRow_91 : decode cX3_mixRow 91 = .ok (.goto (-27), 3) := by decide +kernel
theorem dX3_mixRow_94 : decode cX3_mixRow 94 = .ok (.iinc 1 1, 3) := by decide +kernel
theorem dX3_mixRow_97 : decode cX3_mixRow 97 = .ok (.goto (-45), 3) := by decide +kernel
theorem dX3_mixRow_100 : decode cX3_mixRow 100 = .ok (.return_, 1) := by decide +kernel
set_option maxRecDepth 20000 in
theorem ggX3_digest_X3_mixRow : GoodIn wsX3_digest wsX3_mixRow := goodIn_r _ [13, 5, 14, 15, 16, 17, 18, 19, 12, 20, 4, 21, 22, 23, 24, 25, 26, 27, 28, 29, 3, 136, 137, 138, 139, 140, 141, 142, 143, 144, 145, 146, 147, 148, 149, 150, 151, 152, 153, 154] (by decide +kernel) (by decide +kernel)
set_option maxRecDepth 20000 in
theorem gX3_digest_X3_mixRow : GoodIn wsX3_digest (wsV RX3 206 RX3 yX3_mixRow wsX3_mixRow) := goodIn_app (goodIn_of _ (by decide +kernel)) ggX3_digest_X3_mixRow
set_option maxRecDepth 20000 in
theorem ggX3_digest_X3_layFor : GoodIn wsX3_digest wsX3_layFor := goodIn_r _ [33, 34, 35, 36, 12, 37, 5, 6, 38, 39, 40, 41, 42, 43, 44, 45, 46, 47, 48, 49, 50, 51, 52, 15, 53, 54, 55, 56, 57, 58, 59, 60, 61, 62, 63, 64, 65, 66, 67, 16, 68, 69, 70, 71, 136, 137, 138, 139, 140, 141, 142, 143, 144, 145, 146, 147, 148, 149, 150, 151, 152, 153, 154] (by decide +kernel) (by decide +kernel)
set_option maxRecDepth 20000 in
theorem gX3_digest_X3_layFor : GoodIn wsX3_digest (wsV RX3 112 RX3 yX3_layFor wsX3_layFor) := goodIn_app (goodIn_of _ (by decide +kernel)) ggX3_digest_X3_layFor
set_option maxRecDepth 20000 in
theorem ggX3_digest_X3_groupNow : GoodIn wsX3_digest wsX3_groupNow := goodIn_r _ [75, 38, 6, 47, 76, 77, 78, 12, 79, 5, 58, 59, 60, 80, 81, 82, 83, 15, 4, 16, 84, 85, 86, 87, 52, 54, 55, 56, 57, 39, 40, 41, 42, 21, 22, 23, 24, 136, 137, 138, 139, 140, 141, 142, 143, 144, 145, 146, 147, 148, 149, 150, 151, 152, 153, 154] (by decide +kernel) (by decide +kernel)
set_option maxRecDepth 20000 in
theorem gX3_digest_X3_groupNow : GoodIn wsX3_digest (wsV RX3 168 RX3 yX3_groupNow wsX3_groupNow) := goodIn_app (goodIn_of _ (by decide +kernel)) ggX3_digest_X3_groupNow
set_option maxRecDepth 20000 in
theorem ggX3_digest_X3_mix : GoodIn wsX3_digest wsX3_mix := goodIn_r _ [28, 29, 3, 136, 137, 138, 139, 140, 141, 142, 143, 144, 145, 146, 147, 148, 149, 150, 151, 152, 153, 154] (by decide +kernel) (by decide +kernel)
set_option maxRecDepth 20000 in
theorem gX3_digest_X3_mix : GoodIn wsX3_digest (wsV RX3 200 RX3 yX3_mix wsX3_mix) := goodIn_app (goodIn_of _ (by decide +kernel)) ggX3_digest_X3_mix
set_option maxRecDepth 20000 in
theorem ggX3_digest_X3_basicNow : GoodIn wsX3_digest wsX3_basicNow := goodIn_r _ [91, 38, 47, 52, 5, 54, 55, 56, 12, 57, 39, 40, 41, 42, 58, 59, 60, 136, 137, 138, 139, 140, 141, 142, 143, 144, 145, 146, 147, 148, 149, 150, 151, 152, 153, 154] (by decide +kernel) (by decide +kernel)
set_option maxRecDepth 20000 in
theorem gX3_digest_X3_basicNow : GoodIn wsX3_digest (wsV RX3 171 RX3 yX3_basicNow wsX3_basicNow) := goodIn_app (goodIn_of _ (by decide +kernel)) ggX3_digest_X3_basicNow
set_option maxRecDepth 20000 in
theorem ggX3_digest_X3_layerNow : GoodIn wsX3_digest wsX3_layerNow := goodIn_r _ [95, 38, 6, 47, 136, 137, 138, 139, 140, 141, 142, 143, 144, 145, 146, 147, 148, 149, 150, 151, 152, 153, 154] (by decide +kernel) (by decide +kernel)
set_option maxRecDepth 20000 in
theorem gX3_digest_X3_layerNow : GoodIn wsX3_digest (wsV RX3 174 RX3 yX3_layerNow wsX3_layerNow) := goodIn_app (goodIn_of _ (by decide +kernel)) ggX3_digest_X3_layerNow
set_option maxRecDepth 20000 in
theorem ggX3_digest_X3_present : GoodIn wsX3_digest wsX3_present := goodIn_r _ [99, 14, 68, 69, 70, 12, 71, 5, 136, 137, 138, 139, 140, 141, 142, 143, 144, 145, 146, 147, 148, 149, 150, 151, 152, 153, 154] (by decide +kernel) (by decide +kernel)
set_option maxRecDepth 20000 in
theorem gX3_digest_X3_present : GoodIn wsX3_digest (wsV RX3 115 RX3 yX3_present wsX3_present) := goodIn_app (goodIn_of _ (by decide +kernel)) ggX3_digest_X3_present
set_option maxRecDepth 20000 in
theorem ggX3_digest_X3_wordsNow : GoodIn wsX3_digest wsX3_wordsNow := goodIn_r _ [103, 6, 104, 38, 47, 15, 4, 96, 97, 98, 12, 99, 14, 68, 69, 70, 71, 5, 58, 59, 60, 105, 106, 107, 108, 52, 53, 54, 55, 56, 57, 39, 40, 41, 42, 64, 65, 66, 67, 16, 136, 137, 138, 139, 140, 141, 142, 143, 144, 145, 146, 147, 148, 149, 150, 151, 152, 153, 154] (by decide +kernel) (by decide +kernel)
set_option maxRecDepth 20000 in
theorem gX3_digest_X3_wordsNow : GoodIn wsX3_digest (wsV RX3 180 RX3 yX3_wordsNow wsX3_wordsNow) := goodIn_app (goodIn_of _ (by decide +kernel)) ggX3_digest_X3_wordsNow
set_option maxRecDepth 20000 in
theorem ggX3_digest_X3_wordMoveNow : GoodIn wsX3_digest wsX3_wordMoveNow := goodIn_r _ [112, 6, 4, 96, 97, 98, 12, 99, 14, 68, 69, 70, 71, 5, 113, 114, 115, 116, 117, 118, 119, 15, 58, 59, 60, 105, 106, 107, 108, 52, 53, 54, 55, 56, 57, 39, 40, 41, 42, 64, 65, 66, 67, 16, 136, 137, 138, 139, 140, 141, 142, 143, 144, 145, 146, 147, 148, 149, 150, 151, 152, 153, 154] (by decide +kernel) (by decide +kernel)
set_option maxRecDepth 20000 in
theorem gX3_digest_X3_wordMoveNow : GoodIn wsX3_digest (wsV RX3 177 RX3 yX3_wordMoveNow wsX3_wordMoveNow) := goodIn_app (goodIn_of _ (by decide +kernel)) ggX3_digest_X3_wordMoveNow
set_option maxRecDepth 20000 in
theorem ggX3_digest_X3_meanNow : GoodIn wsX3_digest wsX3_meanNow := goodIn_r _ [123, 38, 6, 47, 136, 137, 138, 139, 140, 141, 142, 143, 144, 145, 146, 147, 148, 149, 150, 151, 152, 153, 154] (by decide +kernel) (by decide +kernel)
set_option maxRecDepth 20000 in
theorem gX3_digest_X3_meanNow : GoodIn wsX3_digest (wsV RX3 190 RX3 yX3_meanNow wsX3_meanNow) := goodIn_app (goodIn_of _ (by decide +kernel)) ggX3_digest_X3_meanNow
set_option maxRecDepth 20000 in
theorem ggX3_digest_Jxe99ae_doubleToLongBits_ccdee : GoodIn wsX3_digest wsJxe99ae_doubleToLongBits_ccdee := goodIn_r _ [127, 128, 129, 130, 131, 132, 133, 134, 126, 135] (by decide +kernel) (by decide +kernel)
set_option maxRecDepth 20000 in
theorem gX3_digest_Jxe99ae_doubleToLongBits_ccdee : GoodIn wsX3_digest (va_wsS RX3 209 yJxe99ae_doubleToLongBits_ccdee wsJxe99ae_doubleToLongBits_ccdee) := goodIn_app (goodIn_of _ (by decide +kernel)) ggX3_digest_Jxe99ae_doubleToLongBits_ccdee
theorem dX3_digest_0 : decode cX3_digest 0 = .ok (.aload_n 0, 1) := by decide +kernel
theorem dX3_digest_1 : decode cX3_digest 1 = .ok (.iconst 0, 1) := by decide +kernel
theorem dX3_digest_2 : decode cX3_digest 2 = .ok (.putfield 46, 3) := by decide +kernel
theorem dX3_digest_5 : decode cX3_digest 5 = .ok (.aload_n 0, 1) := by decide +kernel
theorem dX3_digest_6 : decode cX3_digest 6 = .ok (.ldc2_w 204, 3) := by decide +kernel
theorem dX3_digest_9 : decode cX3_digest 9 = .ok (.putfield 196, 3) := by decide +kernel
theorem dX3_digest_12 : decode cX3_digest 12 = .ok (.aload_n 0, 1) := by decide +kernel
theorem dX3_digest_13 : decode cX3_digest 13 = .ok (.invokevirtual 206, 3) := by decide +kernel
theorem dX3_digest_16 : decode cX3_digest 16 = .ok (.aload_n 0, 1) := by decide +kernel
theorem dX3_digest_17 : decode cX3_digest 17 = .ok (.aload_n 0, 1) := by decide +kernel
theorem dX3_digest_18 : decode cX3_digest 18 = .ok (.getfield 96, 3) := by decide +kernel
theorem dX3_digest_21 : decode cX3_digest 21 = .ok (.invokevirtual 112, 3) := by decide +kernel
theorem dX3_digest_24 : decode cX3_digest 24 = .ok (.iconst 0, 1) := by decide +kernel
theorem dX3_digest_25 : decode cX3_digest 25 = .ok (.istore_n 1, 1) := by decide +kernel
theorem dX3_digest_26 : decode cX3_digest 26 = .ok (.iload_n 1, 1) := by decide +kernel
theorem dX3_digest_27 : decode cX3_digest 27 = .ok (.iconst 4, 1) := by decide +kernel
theorem dX3_digest_28 : decode cX3_digest 28 = .ok (.if_icmp .ge 19, 3) := by decide +kernel
theorem dX3_digest_31 : decode cX3_digest 31 = .ok (.aload_n 0, 1) := by decide +kernel
theorem dX3_digest_32 : decode cX3_digest 32 = .ok (.aload_n 0, 1) := by decide +kernel
theorem dX3_digest_33 : decode cX3_digest 33 = .ok (.iload_n 1, 1) := by decide +kernel
theorem dX3_digest_34 : decode cX3_digest 34 = .ok (.invokevirtual 168, 3) := by decide +kernel
theorem dX3_digest_37 : decode cX3_digest 37 = .ok (.i2l, 1) := by decide +kernel
theorem dX3_digest_38 : decode cX3_digest 38 = .ok (.invokevirtual 200, 3) := by decide +kernel
theorem dX3_digest_41 : decode cX3_digest 41 = .ok (.iinc 1 1, 3) := by decide +kernel
theorem dX3_digest_44 : decode cX3_digest 44 = .ok (.goto (-18), 3) := by decide +kernel
theorem dX3_digest_47 : decode cX3_digest 47 = .ok (.iconst 0, 1) := by decide +kernel
theorem dX3_digest_48 : decode cX3_digest 48 = .ok (.istore_n 1, 1) := by decide +kernel
theorem dX3_digest_49 : decode cX3_digest 49 = .ok (.iload_n 1, 1) := by decide +kernel
theorem dX3_digest_50 : decode cX3_digest 50 = .ok (.aload_n 0, 1) := by decide +kernel
theorem dX3_digest_51 : decode cX3_digest 51 = .ok (.getfield 7, 3) := by decide +kernel
theorem dX3_digest_54 : decode cX3_digest 54 = .ok (.if_icmp .ge 19, 3) := by decide +kernel
theorem dX3_digest_57 : decode cX3_digest 57 = .ok (.aload_n 0, 1) := by decide +kernel
theorem dX3_digest_58 : decode cX3_digest 58 = .ok (.aload_n 0, 1) := by decide +kernel
theorem dX3_digest_59 : decode cX3_digest 59 = .ok (.iload_n 1, 1) := by decide +kernel
theorem dX3_digest_60 : decode cX3_digest 60 = .ok (.invokevirtual 171, 3) := by decide +kernel
theorem dX3_digest_63 : decode cX3_digest 63 = .ok (.i2l, 1) := by decide +kernel
theorem dX3_digest_64 : decode cX3_digest 64 = .ok (.invokevirtual 200, 3) := by decide +kernel
theorem dX3_digest_67 : decode cX3_digest 67 = .ok (.iinc 1 1, 3) := by decide +kernel
theorem dX3_digest_70 : decode cX3_digest 70 = .ok (.goto (-21), 3) := by decide +kernel
theorem dX3_digest_73 : decode cX3_digest 73 = .ok (.iconst 0, 1) := by decide +kernel
theorem dX3_digest_74 : decode cX3_digest 74 = .ok (.istore_n 1, 1) := by decide +kernel
theorem dX3_digest_75 : decode cX3_digest 75 = .ok (.iload_n 1, 1) := by decide +kernel
theorem dX3_digest_76 : decode cX3_digest 76 = .ok (.bipush 10, 2) := by decide +kernel
theorem dX3_digest_78 : decode cX3_digest 78 = .ok (.if_icmp .ge 19, 3) := by decide +kernel
theorem dX3_digest_81 : decode cX3_digest 81 = .ok (.aload_n 0, 1) := by decide +kernel
theorem dX3_digest_82 : decode cX3_digest 82 = .ok (.aload_n 0, 1) := by decide +kernel
theorem dX3_digest_83 : decode cX3_digest 83 = .ok (.iload_n 1, 1) := by decide +kernel
theorem dX3_digest_84 : decode cX3_digest 84 = .ok (.invokevirtual 174, 3) := by decide +kernel
theorem dX3_digest_87 : decode cX3_digest 87 = .ok (.i2l, 1) := by decide +kernel
theorem dX3_digest_88 : decode cX3_digest 88 = .ok (.invokevirtual 200, 3) := by decide +kernel
theorem dX3_digest_91 : decode cX3_digest 91 = .ok (.iinc 1 1, 3) := by decide +kernel
theorem dX3_digest_94 : decode cX3_digest 94 = .ok (.goto (-19), 3) := by decide +kernel
theorem dX3_digest_97 : decode cX3_digest 97 = .ok (.aload_n 0, 1) := by decide +kernel
theorem dX3_digest_98 : decode cX3_digest 98 = .ok (.getfield 30, 3) := by decide +kernel
theorem dX3_digest_101 : decode cX3_digest 101 = .ok (.aload_n 0, 1) := by decide +kernel
theorem dX3_digest_102 : decode cX3_digest 102 = .ok (.invokevirtual 115, 3) := by decide +kernel
theorem dX3_digest_105 : decode cX3_digest 105 = .ok (.iaload, 1) := by decide +kernel
theorem dX3_digest_106 : decode cX3_digest 106 = .ok (.istore_n 1, 1) := by decide +kernel
theorem dX3_digest_107 : decode cX3_digest 107 = .ok (.aload_n 0, 1) := by decide +kernel
theorem dX3_digest_108 : decode cX3_digest 108 = .ok (.iload_n 1, 1) := by decide +kernel
theorem dX3_digest_109 : decode cX3_digest 109 = .ok (.i2l, 1) := by decide +kernel
theorem dX3_digest_110 : decode cX3_digest 110 = .ok (.invokevirtual 200, 3) := by decide +kernel
theorem dX3_digest_113 : decode cX3_digest 113 = .ok (.aload_n 0, 1) := by decide +kernel
theorem dX3_digest_114 : decode cX3_digest 114 = .ok (.aload_n 0, 1) := by decide +kernel
theorem dX3_digest_115 : decode cX3_digest 115 = .ok (.invokevirtual 180, 3) := by decide +kernel
theorem dX3_digest_118 : decode cX3_digest 118 = .ok (.invokevirtual 200, 3) := by decide +kernel
theorem dX3_digest_121 : decode cX3_digest 121 = .ok (.iconst 0, 1) := by decide +kernel
theorem dX3_digest_122 : decode cX3_digest 122 = .ok (.istore_n 2, 1) := by decide +kernel
theorem dX3_digest_123 : decode cX3_digest 123 = .ok (.iload_n 2, 1) := by decide +kernel
theorem dX3_digest_124 : decode cX3_digest 124 = .ok (.iload_n 1, 1) := by decide +kernel
theorem dX3_digest_125 : decode cX3_digest 125 = .ok (.if_icmp .ge 19, 3) := by decide +kernel
theorem dX3_digest_128 : decode cX3_digest 128 = .ok (.aload_n 0, 1) := by decide +kernel
theorem dX3_digest_129 : decode cX3_digest 129 = .ok (.aload_n 0, 1) := by decide +kernel
theorem dX3_digest_130 : decode cX3_digest 130 = .ok (.iload_n 2, 1) := by decide +kernel
theorem dX3_digest_131 : decode cX3_digest 131 = .ok (.invokevirtual 177, 3) := by decide +kernel
theorem dX3_digest_134 : decode cX3_digest 134 = .ok (.i2l, 1) := by decide +kernel
theorem dX3_digest_135 : decode cX3_digest 135 = .ok (.invokevirtual 200, 3) := by decide +kernel
theorem dX3_digest_138 : decode cX3_digest 138 = .ok (.iinc 2 1, 3) := by decide +kernel
theorem dX3_digest_141 : decode cX3_digest 141 = .ok (.goto (-18), 3) := by decide +kernel
theorem dX3_digest_144 : decode cX3_digest 144 = .ok (.aload_n 0, 1) := by decide +kernel
theorem dX3_digest_145 : decode cX3_digest 145 = .ok (.aload_n 0, 1) := by decide +kernel
theorem dX3_digest_146 : decode cX3_digest 146 = .ok (.invokevirtual 190, 3) := by decide +kernel
theorem dX3_digest_149 : decode cX3_digest 149 = .ok (.invokestatic 209, 3) := by decide +kernel
theorem dX3_digest_152 : decode cX3_digest 152 = .ok (.invokevirtual 200, 3) := by decide +kernel
theorem dX3_digest_155 : decode cX3_digest 155 = .ok (.aload_n 0, 1) := by decide +kernel
theorem dX3_digest_156 : decode cX3_digest 156 = .ok (.aload_n 0, 1) := by decide +kernel
theorem dX3_digest_157 : decode cX3_digest 157 = .ok (.getfield 122, 3) := by decide +kernel
theorem dX3_digest_160 : decode cX3_digest 160 = .ok (.i2l, 1) := by decide +kernel
theorem dX3_digest_161 : decode cX3_digest 161 = .ok (.invokevirtual 200, 3) := by decide +kernel
theorem dX3_digest_164 : decode cX3_digest 164 = .ok (.iconst 0, 1) := by decide +kernel
theorem dX3_digest_165 : decode cX3_digest 165 = .ok (.istore_n 2, 1) := by decide +kernel
theorem dX3_digest_166 : decode cX3_digest 166 = .ok (.iload_n 2, 1) := by decide +kernel
theorem dX3_digest_167 : decode cX3_digest 167 = .ok (.aload_n 0, 1) := by decide +kernel
theorem dX3_digest_168 : decode cX3_digest 168 = .ok (.getfield 122, 3) := by decide +kernel
theorem dX3_digest_171 : decode cX3_digest 171 = .ok (.if_icmp .ge 20, 3) := by decide +kernel
theorem dX3_digest_174 : decode cX3_digest 174 = .ok (.aload_n 0, 1) := by decide +kernel
theorem dX3_digest_175 : decode cX3_digest 175 = .ok (.aload_n 0, 1) := by decide +kernel
theorem dX3_digest_176 : decode cX3_digest 176 = .ok (.getfield 20, 3) := by decide +kernel
theorem dX3_digest_179 : decode cX3_digest 179 = .ok (.iload_n 2, 1) := by decide +kernel
theorem dX3_digest_180 : decode cX3_digest 180 = .ok (.iaload, 1) := by decide +kernel
theorem dX3_digest_181 : decode cX3_digest 181 = .ok (.i2l, 1) := by decide +kernel
theorem dX3_digest_182 : decode cX3_digest 182 = .ok (.invokevirtual 200, 3) := by decide +kernel
theorem dX3_digest_185 : decode cX3_digest 185 = .ok (.iinc 2 1, 3) := by decide +kernel
theorem dX3_digest_188 : decode cX3_digest 188 = .ok (.goto (-22), 3) := by decide +kernel
theorem dX3_digest_191 : decode cX3_digest 191 = .ok (.aload_n 0, 1) := by decide +kernel
theorem dX3_digest_192 : decode cX3_digest 192 = .ok (.getfield 196, 3) := by decide +kernel
theorem dX3_digest_195 : decode cX3_digest 195 = .ok (.lreturn, 1) := by decide +kernel
