theorem dX3_init_0 : decode cX3_init 0 = .ok (.aload_n 0, 1) := by decide +kernel
theorem dX3_init_1 : decode cX3_init 1 = .ok (.invokespecial 1, 3) := by decide +kernel
theorem dX3_init_4 : decode cX3_init 4 = .ok (.aload_n 0, 1) := by decide +kernel
theorem dX3_init_5 : decode cX3_init 5 = .ok (.iconst 5, 1) := by decide +kernel
theorem dX3_init_6 : decode cX3_init 6 = .ok (.putfield 7, 3) := by decide +kernel
theorem dX3_init_9 : decode cX3_init 9 = .ok (.aload_n 0, 1) := by decide +kernel
theorem dX3_init_10 : decode cX3_init 10 = .ok (.bipush 8, 2) := by decide +kernel
theorem dX3_init_12 : decode cX3_init 12 = .ok (.newarray .int, 2) := by decide +kernel
theorem dX3_init_14 : decode cX3_init 14 = .ok (.putfield 13, 3) := by decide +kernel
theorem dX3_init_17 : decode cX3_init 17 = .ok (.aload_n 0, 1) := by decide +kernel
theorem dX3_init_18 : decode cX3_init 18 = .ok (.bipush 96, 2) := by decide +kernel
theorem dX3_init_20 : decode cX3_init 20 = .ok (.newarray .int, 2) := by decide +kernel
theorem dX3_init_22 : decode cX3_init 22 = .ok (.putfield 17, 3) := by decide +kernel
theorem dX3_init_25 : decode cX3_init 25 = .ok (.aload_n 0, 1) := by decide +kernel
theorem dX3_init_26 : decode cX3_init 26 = .ok (.bipush 60, 2) := by decide +kernel
theorem dX3_init_28 : decode cX3_init 28 = .ok (.newarray .int, 2) := by decide +kernel
theorem dX3_init_30 : decode cX3_init 30 = .ok (.putfield 20, 3) := by decide +kernel
theorem dX3_init_33 : decode cX3_init 33 = .ok (.aload_n 0, 1) := by decide +kernel
theorem dX3_init_34 : decode cX3_init 34 = .ok (.bipush 8, 2) := by decide +kernel
theorem dX3_init_36 : decode cX3_init 36 = .ok (.newarray .int, 2) := by decide +kernel
theorem dX3_init_38 : decode cX3_init 38 = .ok (.putfield 23, 3) := by decide +kernel
theorem dX3_init_41 : decode cX3_init 41 = .ok (.aload_n 0, 1) := by decide +kernel
theorem dX3_init_42 : decode cX3_init 42 = .ok (.bipush 8, 2) := by decide +kernel
theorem dX3_init_44 : decode cX3_init 44 = .ok (.newarray .int, 2) := by decide +kernel
theorem dX3_init_46 : decode cX3_init 46 = .ok (.putfield 26, 3) := by decide +kernel
theorem dX3_init_49 : decode cX3_init 49 = .ok (.aload_n 0, 1) := by decide +kernel
theorem dX3_init_50 : decode cX3_init 50 = .ok (.ldc 29, 2) := by decide +kernel
theorem dX3_init_52 : decode cX3_init 52 = .ok (.newarray .int, 2) := by decide +kernel
theorem dX3_init_54 : decode cX3_init 54 = .ok (.putfield 30, 3) := by decide +kernel
theorem dX3_init_57 : decode cX3_init 57 = .ok (.aload_n 0, 1) := by decide +kernel
theorem dX3_init_58 : decode cX3_init 58 = .ok (.ldc 29, 2) := by decide +kernel
theorem dX3_init_60 : decode cX3_init 60 = .ok (.newarray .int, 2) := by decide +kernel
theorem dX3_init_62 : decode cX3_init 62 = .ok (.putfield 33, 3) := by decide +kernel
theorem dX3_init_65 : decode cX3_init 65 = .ok (.aload_n 0, 1) := by decide +kernel
theorem dX3_init_66 : decode cX3_init 66 = .ok (.ldc 29, 2) := by decide +kernel
theorem dX3_init_68 : decode cX3_init 68 = .ok (.newarray .long, 2) := by decide +kernel
theorem dX3_init_70 : decode cX3_init 70 = .ok (.putfield 36, 3) := by decide +kernel
theorem dX3_init_73 : decode cX3_init 73 = .ok (.aload_n 0, 1) := by decide +kernel
theorem dX3_init_74 : decode cX3_init 74 = .ok (.ldc 29, 2) := by decide +kernel
theorem dX3_init_76 : decode cX3_init 76 = .ok (.newarray .int, 2) := by decide +kernel
theorem dX3_init_78 : decode cX3_init 78 = .ok (.putfield 40, 3) := by decide +kernel
theorem dX3_init_81 : decode cX3_init 81 = .ok (.aload_n 0, 1) := by decide +kernel
theorem dX3_init_82 : decode cX3_init 82 = .ok (.invokevirtual 43, 3) := by decide +kernel
theorem dX3_init_85 : decode cX3_init 85 = .ok (.return_, 1) := by decide +kernel
theorem dX3_thrown_0 : decode cX3_thrown 0 = .ok (.aload_n 0, 1) := by decide +kernel
theorem dX3_thrown_1 : decode cX3_thrown 1 = .ok (.getfield 46, 3) := by decide +kernel
theorem dX3_thrown_4 : decode cX3_thrown 4 = .ok (.ireturn, 1) := by decide +kernel
theorem dX3_within_0 : decode cX3_within 0 = .ok (.iload_n 0, 1) := by decide +kernel
theorem dX3_within_1 : decode cX3_within 1 = .ok (.iload_n 1, 1) := by decide +kernel
theorem dX3_within_2 : decode cX3_within 2 = .ok (.if_icmp .lt 12, 3) := by decide +kernel
theorem dX3_within_5 : decode cX3_within 5 = .ok (.iload_n 0, 1) := by decide +kernel
theorem dX3_within_6 : decode cX3_within 6 = .ok (.iload_n 2, 1) := by decide +kernel
theorem dX3_within_7 : decode cX3_within 7 = .ok (.if_icmp .gt 7, 3) := by decide +kernel
theorem dX3_within_10 : decode cX3_within 10 = .ok (.iconst 1, 1) := by decide +kernel
theorem dX3_within_11 : decode cX3_within 11 = .ok (.goto 4, 3) := by decide +kernel
theorem dX3_within_14 : decode cX3_within 14 = .ok (.iconst 0, 1) := by decide +kernel
theorem dX3_within_15 : decode cX3_within 15 = .ok (.ireturn, 1) := by decide +kernel
theorem dX3_has_0 : decode cX3_has 0 = .ok (.iload_n 0, 1) := by decide +kernel
theorem dX3_has_1 : decode cX3_has 1 = .ok (.iload_n 1, 1) := by decide +kernel
theorem dX3_has_2 : decode cX3_has 2 = .ok (.ishr, 1) := by decide +kernel
theorem dX3_has_3 : decode cX3_has 3 = .ok (.iconst 1, 1) := by decide +kernel
theorem dX3_has_4 : decode cX3_has 4 = .ok (.iand, 1) := by decide +kernel
theorem dX3_has_5 : decode cX3_has 5 = .ok (.iconst 1, 1) := by decide +kernel
theorem dX3_has_6 : decode cX3_has 6 = .ok (.if_icmp .ne 7, 3) := by decide +kernel
theorem dX3_has_9 : decode cX3_has 9 = .ok (.iconst 1, 1) := by decide +kernel
theorem dX3_has_10 : decode cX3_has 10 = .ok (.goto 4, 3) := by decide +kernel
theorem dX3_has_13 : decode cX3_has 13 = .ok (.iconst 0, 1) := by decide +kernel
theorem dX3_has_14 : decode cX3_has 14 = .ok (.ireturn, 1) := by decide +kernel
set_option maxRecDepth 20000 in
theorem ggX3_isPlace_X3_within : GoodIn wsX3_isPlace wsX3_within := goodIn_r _ [5] (by decide +kernel) (by decide +kernel)
set_option maxRecDepth 20000 in
theorem gX3_isPlace_X3_within : GoodIn wsX3_isPlace (va_wsS RX3 49 yX3_within wsX3_within) := goodIn_app (goodIn_of _ (by decide +kernel)) ggX3_isPlace_X3_within
theorem dX3_isPlace_0 : decode cX3_isPlace 0 = .ok (.iload_n 1, 1) := by decide +kernel
theorem dX3_isPlace_1 : decode cX3_isPlace 1 = .ok (.iconst 0, 1) := by decide +kernel
theorem dX3_isPlace_2 : decode cX3_isPlace 2 = .ok (.aload_n 0, 1) := by decide +kernel
theorem dX3_isPlace_3 : decode cX3_isPlace 3 = .ok (.getfield 7, 3) := by decide +kernel
theorem dX3_isPlace_6 : decode cX3_isPlace 6 = .ok (.iconst 1, 1) := by decide +kernel
theorem dX3_isPlace_7 : decode cX3_isPlace 7 = .ok (.isub, 1) := by decide +kernel
theorem dX3_isPlace_8 : decode cX3_isPlace 8 = .ok (.invokestatic 49, 3) := by decide +kernel
theorem dX3_isPlace_11 : decode cX3_isPlace 11 = .ok (.ireturn, 1) := by decide +kernel
set_option maxRecDepth 20000 in
theorem ggX3_isMove_X3_within : GoodIn wsX3_isMove wsX3_within := goodIn_r _ [5] (by decide +kernel) (by decide +kernel)
set_option maxRecDepth 20000 in
theorem gX3_isMove_X3_within : GoodIn wsX3_isMove (va_wsS RX3 49 yX3_within wsX3_within) := goodIn_app (goodIn_of _ (by decide +kernel)) ggX3_isMove_X3_within
theorem dX3_isMove_0 : decode cX3_isMove 0 = .ok (.iload_n 1, 1) := by decide +kernel
theorem dX3_isMove_1 : decode cX3_isMove 1 = .ok (.iconst 0, 1) := by decide +kernel
theorem dX3_isMove_2 : decode cX3_isMove 2 = .ok (.iconst 2, 1) := by decide +kernel
theorem dX3_isMove_3 : decode cX3_isMove 3 = .ok (.aload_n 0, 1) := by decide +kernel
theorem dX3_isMove_4 : decode cX3_isMove 4 = .ok (.getfield 53, 3) := by decide +kernel
theorem dX3_isMove_7 : decode cX3_isMove 7 = .ok (.imul, 1) := by decide +kernel
theorem dX3_isMove_8 : decode cX3_isMove 8 = .ok (.iconst 1, 1) := by decide +kernel
theorem dX3_isMove_9 : decode cX3_isMove 9 = .ok (.isub, 1) := by decide +kernel
theorem dX3_isMove_10 : decode cX3_isMove 10 = .ok (.invokestatic 49, 3) := by decide +kernel
theorem dX3_isMove_13 : decode cX3_isMove 13 = .ok (.ireturn, 1) := by decide +kernel
theorem dX3_straighten_0 : decode cX3_straighten 0 = .ok (.iconst 0, 1) := by decide +kernel
theorem dX3_straighten_1 : decode cX3_straighten 1 = .ok (.istore_n 1, 1) := by decide +kernel
theorem dX3_straighten_2 : decode cX3_straighten 2 = .ok (.iload_n 1, 1) := by decide +kernel
theorem dX3_straighten_3 : decode cX3_straighten 3 = .ok (.bipush 8, 2) := by decide +kernel
theorem dX3_straighten_5 : decode cX3_straighten 5 = .ok (.if_icmp .ge 16, 3) := by decide +kernel
theorem dX3_straighten_8 : decode cX3_straighten 8 = .ok (.aload_n 0, 1) := by decide +kernel
theorem dX3_straighten_9 : decode cX3_straighten 9 = .ok (.getfield 13, 3) := by decide +kernel
theorem dX3_straighten_12 : decode cX3_straighten 12 = .ok (.iload_n 1, 1) := by decide +kernel
theorem dX3_straighten_13 : decode cX3_straighten 13 = .ok (.iload_n 1, 1) := by decide +kernel
theorem dX3_straighten_14 : decode cX3_straighten 14 = .ok (.iastore, 1) := by decide +kernel
theorem dX3_straighten_15 : decode cX3_straighten 15 = .ok (.iinc 1 1, 3) := by decide +kernel
theorem dX3_straighten_18 : decode cX3_straighten 18 = .ok (.goto (-16), 3) := by decide +kernel
theorem dX3_straighten_21 : decode cX3_straighten 21 = .ok (.return_, 1) := by decide +kernel
theorem dX3_factorial_0 : decode cX3_factorial 0 = .ok (.iconst 1, 1) := by decide +kernel
theorem dX3_factorial_1 : decode cX3_factorial 1 = .ok (.istore_n 2, 1) := by decide +kernel
theorem dX3_factorial_2 : decode cX3_factorial 2 = .ok (.iconst 2, 1) := by decide +kernel
theorem dX3_factorial_3 : decode cX3_factorial 3 = .ok (.istore_n 3, 1) := by decide +kernel
theorem dX3_factorial_4 : decode cX3_factorial 4 = .ok (.iload_n 3, 1) := by decide +kernel
theorem dX3_factorial_5 : decode cX3_factorial 5 = .ok (.iload_n 1, 1) := by decide +kernel
theorem dX3_factorial_6 : decode cX3_factorial 6 = .ok (.if_icmp .gt 13, 3) := by decide +kernel
theorem dX3_factorial_9 : decode cX3_factorial 9 = .ok (.iload_n 2, 1) := by decide +kernel
theorem dX3_factorial_10 : decode cX3_factorial 10 = .ok (.iload_n 3, 1) := by decide +kernel
theorem dX3_factorial_11 : decode cX3_factorial 11 = .ok (.imul, 1) := by decide +kernel
theorem dX3_factorial_12 : decode cX3_factorial 12 = .ok (.istore_n 2, 1) := by decide +kernel
theorem dX3_factorial_13 : decode cX3_factorial 13 = .ok (.iinc 3 1, 3) := by decide +kernel
theorem dX3_factorial_16 : decode cX3_factorial 16 = .ok (.goto (-12), 3) := by decide +kernel
theorem dX3_factorial_19 : decode cX3_factorial 19 = .ok (.iload_n 2, 1) := by decide +kernel
theorem dX3_factorial_20 : decode cX3_factorial 20 = .ok (.ireturn, 1) := by decide +kernel
theorem dX3_numberOf_0 : decode cX3_numberOf 0 = .ok (.iconst 0, 1) := by decide +kernel
theorem dX3_numberOf_1 : decode cX3_numberOf 1 = .ok (.istore_n 2, 1) := by decide +kernel
theorem dX3_numberOf_2 : decode cX3_numberOf 2 = .ok (.iconst 0, 1) := by decide +kernel
theorem dX3_numberOf_3 : decode cX3_numberOf 3 = .ok (.istore_n 3, 1) := by decide +kernel
theorem dX3_numberOf_4 : decode cX3_numberOf 4 = .ok (.iconst 0, 1) := by decide +kernel
theorem dX3_numberOf_5 : decode cX3_numberOf 5 = .ok (.istore 4, 2) := by decide +kernel
theorem dX3_numberOf_7 : decode cX3_numberOf 7 = .ok (.iload 4, 2) := by decide +kernel
theorem dX3_numberOf_9 : decode cX3_numberOf 9 = .ok (.aload_n 0, 1) := by decide +kernel
theorem dX3_numberOf_10 : decode cX3_numberOf 10 = .ok (.getfield 7, 3) := by decide +kernel
theorem dX3_numberOf_13 : decode cX3_numberOf 13 = .ok (.if_icmp .ge 66, 3) := by decide +kernel
theorem dX3_numberOf_16 : decode cX3_numberOf 16 = .ok (.aload_n 1, 1) := by decide +kernel
theorem dX3_numberOf_17 : decode cX3_numberOf 17 = .ok (.iload 4, 2) := by decide +kernel
theorem dX3_numberOf_19 : decode cX3_numberOf 19 = .ok (.iaload, 1) := by decide +kernel
theorem dX3_numberOf_20 : decode cX3_numberOf 20 = .ok (.istore 5, 2) := by decide +kernel
theorem dX3_numberOf_22 : decode cX3_numberOf 22 = .ok (.iconst 0, 1) := by decide +kernel
theorem dX3_numberOf_23 : decode cX3_numberOf 23 = .ok (.istore 6, 2) := by decide +kernel
theorem dX3_numberOf_25 : decode cX3_numberOf 25 = .ok (.iload 6, 2) := by decide +kernel
theorem dX3_numberOf_27 : decode cX3_numberOf 27 = .ok (.aload_n 1, 1) := by decide +kernel
theorem dX3_numberOf_28 : decode cX3_numberOf 28 = .ok (.iload 4, 2) := by decide +kernel
theorem dX3_numberOf_30 : decode cX3_numberOf 30 = .ok (.iaload, 1) := by decide +kernel
theorem dX3_numberOf_31 : decode cX3_numberOf 31 = .ok (.if_icmp .ge 20, 3) := by decide +kernel
theorem dX3_numberOf_34 : decode cX3_numberOf 34 = .ok (.iload 5, 2) := by decide +kernel
theorem dX3_numberOf_36 : decode cX3_numberOf 36 = .ok (.iload_n 3, 1) := by decide +kernel
theorem dX3_numberOf_37 : decode cX3_numberOf 37 = .ok (.iload 6, 2) := by decide +kernel
theorem dX3_numberOf_39 : decode cX3_numberOf 39 = .ok (.ishr, 1) := by decide +kernel
theorem dX3_numberOf_40 : decode cX3_numberOf 40 = .ok (.iconst 1, 1) := by decide +kernel
theorem dX3_numberOf_41 : decode cX3_numberOf 41 = .ok (.iand, 1) := by decide +kernel
theorem dX3_numberOf_42 : decode cX3_numberOf 42 = .ok (.isub, 1) := by decide +kernel
theorem dX3_numberOf_43 : decode cX3_numberOf 43 = .ok (.istore 5, 2) := by decide +kernel
theorem dX3_numberOf_45 : decode cX3_numberOf 45 = .ok (.iinc 6 1, 3) := by decide +kernel
theorem dX3_numberOf_48 : decode cX3_numberOf 48 = .ok (.goto (-23), 3) := by decide +kernel
theorem dX3_numberOf_51 : decode cX3_numberOf 51 = .ok (.iload_n 2, 1) := by decide +kernel
theorem dX3_numberOf_52 : decode cX3_numberOf 52 = .ok (.aload_n 0, 1) := by decide +kernel
theorem dX3_numberOf_53 : decode cX3_numberOf 53 = .ok (.getfield 7, 3) := by decide +kernel
theorem dX3_numberOf_56 : decode cX3_numberOf 56 = .ok (.iload 4, 2) := by decide +kernel
theorem dX3_numberOf_58 : decode cX3_numberOf 58 = .ok (.isub, 1) := by decide +kernel
theorem dX3_numberOf_59 : decode cX3_numberOf 59 = .ok (.imul, 1) := by decide +kernel
theorem dX3_numberOf_60 : decode cX3_numberOf 60 = .ok (.iload 5, 2) := by decide +kernel
theorem dX3_numberOf_62 : decode cX3_numberOf 62 = .ok (.iadd, 1) := by decide +kernel
theorem dX3_numberOf_63 : decode cX3_numberOf 63 = .ok (.istore_n 2, 1) := by decide +kernel
theorem dX3_numberOf_64 : decode cX3_numberOf 64 = .ok (.iload_n 3, 1) := by decide +kernel
theorem dX3_numberOf_65 : decode cX3_numberOf 65 = .ok (.iconst 1, 1) := by decide +kernel
theorem dX3_numberOf_66 : decode cX3_numberOf 66 = .ok (.aload_n 1, 1) := by decide +kernel
theorem dX3_numberOf_67 : decode cX3_numberOf 67 = .ok (.iload 4, 2) := by decide +kernel
theorem dX3_numberOf_69 : decode cX3_numberOf 69 = .ok (.iaload, 1) := by decide +kernel
theorem dX3_numberOf_70 : decode cX3_numberOf 70 = .ok (.ishl, 1) := by decide +kernel
theorem dX3_numberOf_71 : decode cX3_numberOf 71 = .ok (.ior, 1) := by decide +kernel
theorem dX3_numberOf_72 : decode cX3_numberOf 72 = .ok (.istore_n 3, 1) := by decide +kernel
theorem dX3_numberOf_73 : decode cX3_numberOf 73 = .ok (.iinc 4 1, 3) := by decide +kernel
theorem dX3_numberOf_76 : decode cX3_numberOf 76 = .ok (.goto (-69), 3) := by decide +kernel
theorem dX3_numberOf_79 : decode cX3_numberOf 79 = .ok (.iload_n 2, 1) := by decide +kernel
theorem dX3_numberOf_80 : decode cX3_numberOf 80 = .ok (.ireturn, 1) := by decide +kernel
set_option maxRecDepth 20000 in
theorem ggX3_read_X3_factorial : GoodIn wsX3_read wsX3_factorial := goodIn_r _ [6] (by decide +kernel) (by decide +kernel)
set_option maxRecDepth 20000 in
theorem gX3_read_X3_factorial : GoodIn wsX3_read (wsV RX3 56 RX3 yX3_factorial wsX3_factorial) := goodIn_app (goodIn_of _ (by decide +kernel)) ggX3_read_X3_factorial
set_option maxRecDepth 20000 in
theorem ggX3_read_X3_has : GoodIn wsX3_read wsX3_has := goodIn_r _ [9] (by decide +kernel) (by decide +kernel)
set_option maxRecDepth 20000 in
theorem gX3_read_X3_has : GoodIn wsX3_read (va_wsS RX3 60 yX3_has wsX3_has) := goodIn_app (goodIn_of _ (by decide +kernel)) ggX3_read_X3_has
theorem dX3_read_0 : decode cX3_read 0 = .ok (.iload_n 1, 1) := by decide +kernel
theorem dX3_read_1 : decode cX3_read 1 = .ok (.istore_n 3, 1) := by decide +kernel
theorem dX3_read_2 : decode cX3_read 2 = .ok (.iconst 1, 1) := by decide +kernel
theorem dX3_read_3 : decode cX3_read 3 = .ok (.aload_n 0, 1) := by decide +kernel
theorem dX3_read_4 : decode cX3_read 4 = .ok (.getfield 7, 3) := by decide +kernel
theorem dX3_read_7 : decode cX3_read 7 = .ok (.ishl, 1) := by decide +kernel
theorem dX3_read_8 : decode cX3_read 8 = .ok (.iconst 1, 1) := by decide +kernel
theorem dX3_read_9 : decode cX3_read 9 = .ok (.isub, 1) := by decide +kernel
theorem dX3_read_10 : decode cX3_read 10 = .ok (.istore 4, 2) := by decide +kernel
theorem dX3_read_12 : decode cX3_read 12 = .ok (.iconst 0, 1) := by decide +kernel
theorem dX3_read_13 : decode cX3_read 13 = .ok (.istore 5, 2) := by decide +kernel
theorem dX3_read_15 : decode cX3_read 15 = .ok (.iload 5, 2) := by decide +kernel
theorem dX3_read_17 : decode cX3_read 17 = .ok (.aload_n 0, 1) := by decide +kernel
theorem dX3_read_18 : decode cX3_read 18 = .ok (.getfield 7, 3) := by decide +kernel
theorem dX3_read_21 : decode cX3_read 21 = .ok (.if_icmp .ge 88, 3) := by decide +kernel
theorem dX3_read_24 : decode cX3_read 24 = .ok (.aload_n 0, 1) := by decide +kernel
theorem dX3_read_25 : decode cX3_read 25 = .ok (.aload_n 0, 1) := by decide +kernel
theorem dX3_read_26 : decode cX3_read 26 = .ok (.getfield 7, 3) := by decide +kernel
theorem dX3_read_29 : decode cX3_read 29 = .ok (.iconst 1, 1) := by decide +kernel
theorem dX3_read_30 : decode cX3_read 30 = .ok (.isub, 1) := by decide +kernel
theorem dX3_read_31 : decode cX3_read 31 = .ok (.iload 5, 2) := by decide +kernel
theorem dX3_read_33 : decode cX3_read 33 = .ok (.isub, 1) := by decide +kernel
theorem dX3_read_34 : decode cX3_read 34 = .ok (.invokevirtual 56, 3) := by decide +kernel
theorem dX3_read_37 : decode cX3_read 37 = .ok (.istore 6, 2) := by decide +kernel
theorem dX3_read_39 : decode cX3_read 39 = .ok (.iload_n 3, 1) := by decide +kernel
theorem dX3_read_40 : decode cX3_read 40 = .ok (.iload 6, 2) := by decide +kernel
theorem dX3_read_42 : decode cX3_read 42 = .ok (.idiv, 1) := by decide +kernel
theorem dX3_read_43 : decode cX3_read 43 = .ok (.istore 7, 2) := by decide +kernel
theorem dX3_read_45 : decode cX3_read 45 = .ok (.iload_n 3, 1) := by decide +kernel
theorem dX3_read_46 : decode cX3_read 46 = .ok (.iload 6, 2) := by decide +kernel
theorem dX3_read_48 : decode cX3_read 48 = .ok (.irem, 1) := by decide +kernel
theorem dX3_read_49 : decode cX3_read 49 = .ok (.istore_n 3, 1) := by decide +kernel
theorem dX3_read_50 : decode cX3_read 50 = .ok (.iconst 0, 1) := by decide +kernel
theorem dX3_read_51 : decode cX3_read 51 = .ok (.istore 8, 2) := by decide +kernel
theorem dX3_read_53 : decode cX3_read 53 = .ok (.iload 7, 2) := by decide +kernel
theorem dX3_read_55 : decode cX3_read 55 = .ok (.ifCond .gt 13, 3) := by decide +kernel
theorem dX3_read_58 : decode cX3_read 58 = .ok (.iload 4, 2) := by decide +kernel
theorem dX3_read_60 : decode cX3_read 60 = .ok (.iload 8, 2) := by decide +kernel
theorem dX3_read_62 : decode cX3_read 62 = .ok (.invokestatic 60, 3) := by decide +kernel
theorem dX3_read_65 : decode cX3_read 65 = .ok (.ifCond .ne 21, 3) := by decide +kernel
theorem dX3_read_68 : decode cX3_read 68 = .ok (.iload 7, 2) := by decide +kernel
theorem dX3_read_70 : decode cX3_read 70 = .ok (.iload 4, 2) := by decide +kernel
theorem dX3_read_72 : decode cX3_read 72 = .ok (.iload 8, 2) := by decide +kernel
theorem dX3_read_74 : decode cX3_read 74 = .ok (.ishr, 1) := by decide +kernel
theorem dX3_read_75 : decode cX3_read 75 = .ok (.iconst 1, 1) := by decide +kernel
theorem dX3_read_76 : decode cX3_read 76 = .ok (.iand, 1) := by decide +kernel
theorem dX3_read_77 : decode cX3_read 77 = .ok (.isub, 1) := by decide +kernel
theorem dX3_read_78 : decode cX3_read 78 = .ok (.istore 7, 2) := by decide +kernel
theorem dX3_read_80 : decode cX3_read 80 = .ok (.iinc 8 1, 3) := by decide +kernel
theorem dX3_read_83 : decode cX3_read 83 = .ok (.goto (-30), 3) := by decide +kernel
theorem dX3_read_86 : decode cX3_read 86 = .ok (.aload_n 2, 1) := by decide +kernel
theorem dX3_read_87 : decode cX3_read 87 = .ok (.iload 5, 2) := by decide +kernel
theorem dX3_read_89 : decode cX3_read 89 = .ok (.iload 8, 2) := by decide +kernel
theorem dX3_read_91 : decode cX3_read 91 = .ok (.iastore, 1) := by decide +kernel
theorem dX3_read_92 : decode cX3_read 92 = .ok (.iload 4, 2) := by decide +kernel
theorem dX3_read_94 : decode cX3_read 94 = .ok (.iconst 1, 1) := by decide +kernel
theorem dX3_read_95 : decode cX3_read 95 = .ok (.iload 8, 2) := by decide +kernel
theorem dX3_read_97 : decode cX3_read 97 = .ok (.ishl, 1) := by decide +kernel
theorem dX3_read_98 : decode cX3_read 98 = .ok (.iconst (-1), 1) := by decide +kernel
theorem dX3_read_99 : decode cX3_read 99 = .ok (.ixor, 1) := by decide +kernel
theorem dX3_read_100 : decode cX3_read 100 = .ok (.iand, 1) := by decide +kernel
theorem dX3_read_101 : decode cX3_read 101 = .ok (.istore 4, 2) := by decide +kernel
theorem dX3_read_103 : decode cX3_read 103 = .ok (.iinc 5 1, 3) := by decide +kernel
theorem dX3_read_106 : decode cX3_read 106 = .ok (.goto (-91), 3) := by decide +kernel
theorem dX3_read_109 : decode cX3_read 109 = .ok (.return_, 1) := by decide +kernel
theorem dX3_shift_0 : decode cX3_shift 0 = .ok (.iconst 0, 1) := by decide +kernel
theorem dX3_shift_1 : decode cX3_shift 1 = .ok (.istore 4, 2) := by decide +kernel
theorem dX3_shift_3 : decode cX3_shift 3 = .ok (.iload 4, 2) := by decide +kernel
theorem dX3_shift_5 : decode cX3_shift 5 = .ok (.aload_n 0, 1) := by decide +kernel
theorem dX3_shift_6 : decode cX3_shift 6 = .ok (.getfield 7, 3) := by decide +kernel
theorem dX3_shift_9 : decode cX3_shift 9 = .ok (.if_icmp .ge 27, 3) := by decide +kernel
theorem dX3_shift_12 : decode cX3_shift 12 = .ok (.aload_n 3, 1) := by decide +kernel
theorem dX3_shift_13 : decode cX3_shift 13 = .ok (.iload 4, 2) := by decide +kernel
theorem dX3_shift_15 : decode cX3_shift 15 = .ok (.aload_n 2, 1) := by decide +kernel
theorem dX3_shift_16 : decode cX3_shift 16 = .ok (.aload_n 0, 1) := by decide +kernel
theorem dX3_shift_17 : decode cX3_shift 17 = .ok (.getfield 17, 3) := by decide +kernel
theorem dX3_shift_20 : decode cX3_shift 20 = .ok (.bipush 8, 2) := by decide +kernel
theorem dX3_shift_22 : decode cX3_shift 22 = .ok (.iload_n 1, 1) := by decide +kernel
theorem dX3_shift_23 : decode cX3_shift 23 = .ok (.imul, 1) := by decide +kernel
theorem dX3_shift_24 : decode cX3_shift 24 = .ok (.iload 4, 2) := by decide +kernel
theorem dX3_shift_26 : decode cX3_shift 26 = .ok (.iadd, 1) := by decide +kernel
theorem dX3_shift_27 : decode cX3_shift 27 = .ok (.iaload, 1) := by decide +kernel
theorem dX3_shift_28 : decode cX3_shift 28 = .ok (.iaload, 1) := by decide +kernel
theorem dX3_shift_29 : decode cX3_shift 29 = .ok (.iastore, 1) := by decide +kernel
theorem dX3_shift_30 : decode cX3_shift 30 = .ok (.iinc 4 1, 3) := by decide +kernel
theorem dX3_shift_33 : decode cX3_shift 33 = .ok (.goto (-30), 3) := by decide +kernel
theorem dX3_shift_36 : decode cX3_shift 36 = .ok (.return_, 1) := by decide +kernel
theorem dX3_inverse_0 : decode cX3_inverse 0 = .ok (.iload_n 0, 1) := by decide +kernel
theorem dX3_inverse_1 : decode cX3_inverse 1 = .ok (.iconst 2, 1) := by decide +kernel
theorem dX3_inverse_2 : decode cX3_inverse 2 = .ok (.irem, 1) := by decide +kernel
theorem dX3_inverse_3 : decode cX3_inverse 3 = .ok (.ifCond .ne 9, 3) := by decide +kernel
theorem dX3_inverse_6 : decode cX3_inverse 6 = .ok (.iload_n 0, 1) := by decide +kernel
theorem dX3_inverse_7 : decode cX3_inverse 7 = .ok (.iconst 1, 1) := by decide +kernel
theorem dX3_inverse_8 : decode cX3_inverse 8 = .ok (.iadd, 1) := by decide +kernel
theorem dX3_inverse_9 : decode cX3_inverse 9 = .ok (.goto 6, 3) := by decide +kernel
theorem dX3_inverse_12 : decode cX3_inverse 12 = .ok (.iload_n 0, 1) := by decide +kernel
theorem dX3_inverse_13 : decode cX3_inverse 13 = .ok (.iconst 1, 1) := by decide +kernel
theorem dX3_inverse_14 : decode cX3_inverse 14 = .ok (.isub, 1) := by decide +kernel
theorem dX3_inverse_15 : decode cX3_inverse 15 = .ok (.ireturn, 1) := by decide +kernel
set_option maxRecDepth 20000 in
theorem ggX3_after_X3_read : GoodIn wsX3_after wsX3_read := goodIn_r _ [7, 8, 9, 10, 11, 6, 12, 13, 14, 15, 25, 26, 27, 28, 29, 30, 31, 32, 33, 34, 35, 36, 37, 38, 39, 40, 41, 42, 43] (by decide +kernel) (by decide +kernel)
set_option maxRecDepth 20000 in
theorem gX3_after_X3_read : GoodIn wsX3_after (wsV RX3 64 RX3 yX3_read wsX3_read) := goodIn_app (goodIn_of _ (by decide +kernel)) ggX3_after_X3_read
set_option maxRecDepth 20000 in
theorem ggX3_after_X3_shift : GoodIn wsX3_after wsX3_shift := goodIn_r _ [19, 8, 20, 25, 26, 27, 28, 29, 30, 31, 32, 33, 34, 35, 36, 37, 38, 39, 40, 41, 42, 43] (by decide +kernel) (by decide +kernel)
set_option maxRecDepth 20000 in
theorem gX3_after_X3_shift : GoodIn wsX3_after (wsV RX3 68 RX3 yX3_shift wsX3_shift) := goodIn_app (goodIn_of _ (by decide +kernel)) ggX3_after_X3_shift
set_option maxRecDepth 20000 in
theorem ggX3_after_X3_numberOf : GoodIn wsX3_after wsX3_numberOf := goodIn_r _ [24, 8, 25, 26, 27, 28, 29, 30, 31, 32, 33, 34, 35, 36, 37, 38, 39, 40, 41, 42, 43] (by decide +kernel) (by decide +kernel)
set_option maxRecDepth 20000 in
theorem gX3_after_X3_numberOf : GoodIn wsX3_after (wsV RX3 72 RX3 yX3_numberOf wsX3_numberOf) := goodIn_app (goodIn_of _ (by decide +kernel)) ggX3_after_X3_numberOf
theorem dX3_after_0 : decode cX3_after 0 = .ok (.aload_n 0, 1) := by decide +kernel
theorem dX3_after_1 : decode cX3_after 1 = .ok (.iload_n 1, 1) := by decide +kernel
theorem dX3_after_2 : decode cX3_after 2 = .ok (.aload_n 0, 1) := by decide +kernel
theorem dX3_after_3 : decode cX3_after 3 = .ok (.getfield 23, 3) := by decide +kernel
theorem dX3_after_6 : decode cX3_after 6 = .ok (.invokevirtual 64, 3) := by decide +kernel
theorem dX3_after_9 : decode cX3_after 9 = .ok (.aload_n 0, 1) := by decide +kernel
theorem dX3_after_10 : decode cX3_after 10 = .ok (.iload_n 2, 1) := by decide +kernel
theorem dX3_after_11 : decode cX3_after 11 = .ok (.aload_n 0, 1) := by decide +kernel
theorem dX3_after_12 : decode cX3_after 12 = .ok (.getfield 23, 3) := by decide +kernel
theorem dX3_after_15 : decode cX3_after 15 = .ok (.aload_n 0, 1) := by decide +kernel
theorem dX3_after_16 : decode cX3_after 16 = .ok (.getfield 26, 3) := by decide +kernel
theorem dX3_after_19 : decode cX3_after 19 = .ok (.invokevirtual 68, 3) := by decide +kernel
theorem dX3_after_22 : decode cX3_after 22 = .ok (.aload_n 0, 1) := by decide +kernel
theorem dX3_after_23 : decode cX3_after 23 = .ok (.aload_n 0, 1) := by decide +kernel
theorem dX3_after_24 : decode cX3_after 24 = .ok (.getfield 26, 3) := by decide +kernel
theorem dX3_after_27 : decode cX3_after 27 = .ok (.invokevirtual 72, 3) := by decide +kernel
theorem dX3_after_30 : decode cX3_after 30 = .ok (.ireturn, 1) := by decide +kernel
set_option maxRecDepth 20000 in
theorem ggX3_begins_X3_factorial : GoodIn wsX3_begins wsX3_factorial := goodIn_r _ [8] (by decide +kernel) (by decide +kernel)
set_option maxRecDepth 20000 in
theorem gX3_begins_X3_factorial : GoodIn wsX3_begins (wsV RX3 56 RX3 yX3_factorial wsX3_factorial) := goodIn_app (goodIn_of _ (by decide +kernel)) ggX3_begins_X3_factorial
theorem dX3_begins_0 : decode cX3_begins 0 = .ok (.iconst 0, 1) := by decide +kernel
theorem dX3_begins_1 : decode cX3_begins 1 = .ok (.istore_n 1, 1) := by decide +kernel
theorem dX3_begins_2 : decode cX3_begins 2 = .ok (.iload_n 1, 1) := by decide +kernel
theorem dX3_begins_3 : decode cX3_begins 3 = .ok (.aload_n 0, 1) := by decide +kernel
theorem dX3_begins_4 : decode cX3_begins 4 = .ok (.aload_n 0, 1) := by decide +kernel
theorem dX3_begins_5 : decode cX3_begins 5 = .ok (.getfield 7, 3) := by decide +kernel
theorem dX3_begins_8 : decode cX3_begins 8 = .ok (.invokevirtual 56, 3) := by decide +kernel
theorem dX3_begins_11 : decode cX3_begins 11 = .ok (.if_icmp .ge 16, 3) := by decide +kernel
theorem dX3_begins_14 : decode cX3_begins 14 = .ok (.aload_n 0, 1) := by decide +kernel
theorem dX3_begins_15 : decode cX3_begins 15 = .ok (.getfield 30, 3) := by decide +kernel
theorem dX3_begins_18 : decode cX3_begins 18 = .ok (.iload_n 1, 1) := by decide +kernel
theorem dX3_begins_19 : decode cX3_begins 19 = .ok (.iconst (-1), 1) := by decide +kernel
theorem dX3_begins_20 : decode cX3_begins 20 = .ok (.iastore, 1) := by decide +kernel
theorem dX3_begins_21 : decode cX3_begins 21 = .ok (.iinc 1 1, 3) := by decide +kernel
theorem dX3_begins_24 : decode cX3_begins 24 = .ok (.goto (-22), 3) := by decide +kernel
theorem dX3_begins_27 : decode cX3_begins 27 = .ok (.aload_n 0, 1) := by decide +kernel
theorem dX3_begins_28 : decode cX3_begins 28 = .ok (.iconst 0, 1) := by decide +kernel
theorem dX3_begins_29 : decode cX3_begins 29 = .ok (.putfield 76, 3) := by decide +kernel
theorem dX3_begins_32 : decode cX3_begins 32 = .ok (.return_, 1) := by decide +kernel
theorem dX3_aim_0 : decode cX3_aim 0 = .ok (.aload_n 0, 1) := by decide +kernel
theorem dX3_aim_1 : decode cX3_aim 1 = .ok (.getfield 30, 3) := by decide +kernel
theorem dX3_aim_4 : decode cX3_aim 4 = .ok (.iload_n 1, 1) := by decide +kernel
theorem dX3_aim_5 : decode cX3_aim 5 = .ok (.iconst 0, 1) := by decide +kernel
theorem dX3_aim_6 : decode cX3_aim 6 = .ok (.iastore, 1) := by decide +kernel
theorem dX3_aim_7 : decode cX3_aim 7 = .ok (.aload_n 0, 1) := by decide +kernel
theorem dX3_aim_8 : decode cX3_aim 8 = .ok (.getfield 33, 3) := by decide +kernel
theorem dX3_aim_11 : decode cX3_aim 11 = .ok (.aload_n 0, 1) := by decide +kernel
theorem dX3_aim_12 : decode cX3_aim 12 = .ok (.getfield 76, 3) := by decide +kernel
theorem dX3_aim_15 : decode cX3_aim 15 = .ok (.iload_n 1, 1) := by decide +kernel
theorem dX3_aim_16 : decode cX3_aim 16 = .ok (.iastore, 1) := by decide +kernel
theorem dX3_aim_17 : decode cX3_aim 17 = .ok (.aload_n 0, 1) := by decide +kernel
theorem dX3_aim_18 : decode cX3_aim 18 = .ok (.dup, 1) := by decide +kernel
theorem dX3_aim_19 : decode cX3_aim 19 = .ok (.getfield 76, 3) := by decide +kernel
theorem dX3_aim_22 : decode cX3_aim 22 = .ok (.iconst 1, 1) := by decide +kernel
theorem dX3_aim_23 : decode cX3_aim 23 = .ok (.iadd, 1) := by decide +kernel
theorem dX3_aim_24 : decode cX3_aim 24 = .ok (.putfield 76, 3) := by decide +kernel
theorem dX3_aim_27 : decode cX3_aim 27 = .ok (.return_, 1) := by decide +kernel
set_option maxRecDepth 20000 in
theorem ggX3_spread_X3_read : GoodIn wsX3_spread wsX3_read := goodIn_r _ [11, 12, 13, 14, 15, 10, 16, 17, 18, 19, 32, 33, 34, 35, 36, 37, 38, 39, 40, 41, 42, 43, 44, 45, 46, 47, 48, 49, 50] (by decide +kernel) (by decide +kernel)
set_option maxRecDepth 20000 in
theorem gX3_spread_X3_read : GoodIn wsX3_spread (wsV RX3 64 RX3 yX3_read wsX3_read) := goodIn_app (goodIn_of _ (by decide +kernel)) ggX3_spread_X3_read
set_option maxRecDepth 20000 in
theorem ggX3_spread_X3_has : GoodIn wsX3_spread wsX3_has := goodIn_r _ [19] (by decide +kernel) (by decide +kernel)
set_option maxRecDepth 20000 in
theorem gX3_spread_X3_has : GoodIn wsX3_spread (va_wsS RX3 60 yX3_has wsX3_has) := goodIn_app (goodIn_of _ (by decide +kernel)) ggX3_spread_X3_has
set_option maxRecDepth 20000 in
theorem ggX3_spread_X3_inverse : GoodIn wsX3_spread wsX3_inverse := goodIn_r _ [22] (by decide +kernel) (by decide +kernel)
set_option maxRecDepth 20000 in
theorem gX3_spread_X3_inverse : GoodIn wsX3_spread (va_wsS RX3 79 yX3_inverse wsX3_inverse) := goodIn_app (goodIn_of _ (by decide +kernel)) ggX3_spread_X3_inverse
set_option maxRecDepth 20000 in
theorem ggX3_spread_X3_shift : GoodIn wsX3_spread wsX3_shift := goodIn_r _ [26, 12, 27, 32, 33, 34, 35, 36, 37, 38, 39, 40, 41, 42, 43, 44, 45, 46, 47, 48, 49, 50] (by decide +kernel) (by decide +kernel)
set_option maxRecDepth 20000 in
theorem gX3_spread_X3_shift : GoodIn wsX3_spread (wsV RX3 68 RX3 yX3_shift wsX3_shift) := goodIn_app (goodIn_of _ (by decide +kernel)) ggX3_spread_X3_shift
set_option maxRecDepth 20000 in
theorem ggX3_spread_X3_numberOf : GoodIn wsX3_spread wsX3_numberOf := goodIn_r _ [31, 12, 32, 33, 34, 35, 36, 37, 38, 39, 40, 41, 42, 43, 44, 45, 46, 47, 48, 49, 50] (by decide +kernel) (by decide +kernel)
set_option maxRecDepth 20000 in
theorem gX3_spread_X3_numberOf : GoodIn wsX3_spread (wsV RX3 72 RX3 yX3_numberOf wsX3_numberOf) := goodIn_app (goodIn_of _ (by decide +kernel)) ggX3_spread_X3_numberOf
theorem dX3_spread_0 : decode cX3_spread 0 = .ok (.iconst 0, 1) := by decide +kernel
theorem dX3_spread_1 : decode cX3_spread 1 = .ok (.istore_n 2, 1) := by decide +kernel
theorem dX3_spread_2 : decode cX3_spread 2 = .ok (.iload_n 2, 1) := by decide +kernel
theorem dX3_spread_3 : decode cX3_spread 3 = .ok (.aload_n 0, 1) := by decide +kernel
theorem dX3_spread_4 : decode cX3_spread 4 = .ok (.getfield 76, 3) := by decide +kernel
theorem dX3_spread_7 : decode cX3_spread 7 = .ok (.if_icmp .ge 127, 3) := by decide +kernel
theorem dX3_spread_10 : decode cX3_spread 10 = .ok (.aload_n 0, 1) := by decide +kernel
theorem dX3_spread_11 : decode cX3_spread 11 = .ok (.aload_n 0, 1) := by decide +kernel
theorem dX3_spread_12 : decode cX3_spread 12 = .ok (.getfield 33, 3) := by decide +kernel
theorem dX3_spread_15 : decode cX3_spread 15 = .ok (.iload_n 2, 1) := by decide +kernel
theorem dX3_spread_16 : decode cX3_spread 16 = .ok (.iaload, 1) := by decide +kernel
theorem dX3_spread_17 : decode cX3_spread 17 = .ok (.aload_n 0, 1) := by decide +kernel
theorem dX3_spread_18 : decode cX3_spread 18 = .ok (.getfield 23, 3) := by decide +kernel
theorem dX3_spread_21 : decode cX3_spread 21 = .ok (.invokevirtual 64, 3) := by decide +kernel
theorem dX3_spread_24 : decode cX3_spread 24 = .ok (.iconst 0, 1) := by decide +kernel
theorem dX3_spread_25 : decode cX3_spread 25 = .ok (.istore_n 3, 1) := by decide +kernel
theorem dX3_spread_26 : decode cX3_spread 26 = .ok (.iload_n 3, 1) := by decide +kernel
theorem dX3_spread_27 : decode cX3_spread 27 = .ok (.iconst 2, 1) := by decide +kernel
theorem dX3_spread_28 : decode cX3_spread 28 = .ok (.aload_n 0, 1) := by decide +kernel
theorem dX3_spread_29 : decode cX3_spread 29 = .ok (.getfield 53, 3) := by decide +kernel
theorem dX3_spread_32 : decode cX3_spread 32 = .ok (.imul, 1) := by decide +kernel
theorem dX3_spread_33 : decode cX3_spread 33 = .ok (.if_icmp .ge 95, 3) := by decide +kernel
theorem dX3_spread_36 : decode cX3_spread 36 = .ok (.iload_n 1, 1) := by decide +kernel
theorem dX3_spread_37 : decode cX3_spread 37 = .ok (.iload_n 3, 1) := by decide +kernel
theorem dX3_spread_38 : decode cX3_spread 38 = .ok (.invokestatic 60, 3) := by decide +kernel
theorem dX3_spread_41 : decode cX3_spread 41 = .ok (.ifCond .eq 81, 3) := by decide +kernel
theorem dX3_spread_44 : decode cX3_spread 44 = .ok (.aload_n 0, 1) := by decide +kernel
theorem dX3_spread_45 : decode cX3_spread 45 = .ok (.iload_n 3, 1) := by decide +kernel
theorem dX3_spread_46 : decode cX3_spread 46 = .ok (.invokestatic 79, 3) := by decide +kernel
theorem dX3_spread_49 : decode cX3_spread 49 = .ok (.aload_n 0, 1) := by decide +kernel
theorem dX3_spread_50 : decode cX3_spread 50 = .ok (.getfield 23, 3) := by decide +kernel
theorem dX3_spread_53 : decode cX3_spread 53 = .ok (.aload_n 0, 1) := by decide +kernel
theorem dX3_spread_54 : decode cX3_spread 54 = .ok (.getfield 26, 3) := by decide +kernel
theorem dX3_spread_57 : decode cX3_spread 57 = .ok (.invokevirtual 68, 3) := by decide +kernel
theorem dX3_spread_60 : decode cX3_spread 60 = .ok (.aload_n 0, 1) := by decide +kernel
theorem dX3_spread_61 : decode cX3_spread 61 = .ok (.aload_n 0, 1) := by decide +kernel
theorem dX3_spread_62 : decode cX3_spread 62 = .ok (.getfield 26, 3) := by decide +kernel
theorem dX3_spread_65 : decode cX3_spread 65 = .ok (.invokevirtual 72, 3) := by decide +kernel
theorem dX3_spread_68 : decode cX3_spread 68 = .ok (.istore 4, 2) := by decide +kernel
theorem dX3_spread_70 : decode cX3_spread 70 = .ok (.aload_n 0, 1) := by decide +kernel
theorem dX3_spread_71 : decode cX3_spread 71 = .ok (.getfield 30, 3) := by decide +kernel
theorem dX3_spread_74 : decode cX3_spread 74 = .ok (.iload 4, 2) := by decide +kernel
theorem dX3_spread_76 : decode cX3_spread 76 = .ok (.iaload, 1) := by decide +kernel
theorem dX3_spread_77 : decode cX3_spread 77 = .ok (.iconst (-1), 1) := by decide +kernel
theorem dX3_spread_78 : decode cX3_spread 78 = .ok (.if_icmp .ne 44, 3) := by decide +kernel
theorem dX3_spread_81 : decode cX3_spread 81 = .ok (.aload_n 0, 1) := by decide +kernel
theorem dX3_spread_82 : decode cX3_spread 82 = .ok (.getfield 30, 3) := by decide +kernel
theorem dX3_spread_85 : decode cX3_spread 85 = .ok (.iload 4, 2) := by decide +kernel
theorem dX3_spread_87 : decode cX3_spread 87 = .ok (.aload_n 0, 1) := by decide +kernel
theorem dX3_spread_88 : decode cX3_spread 88 = .ok (.getfield 30, 3) := by decide +kernel
theorem dX3_spread_91 : decode cX3_spread 91 = .ok (.aload_n 0, 1) := by decide +kernel
theorem dX3_spread_92 : decode cX3_spread 92 = .ok (.getfield 33, 3) := by decide +kernel
theorem dX3_spread_95 : decode cX3_spread 95 = .ok (.iload_n 2, 1) := by decide +kernel
theorem dX3_spread_96 : decode cX3_spread 96 = .ok (.iaload, 1) := by decide +kernel
theorem dX3_spread_97 : decode cX3_spread 97 = .ok (.iaload, 1) := by decide +kernel
theorem dX3_spread_98 : decode cX3_spread 98 = .ok (.iconst 1, 1) := by decide +kernel
theorem dX3_spread_99 : decode cX3_spread 99 = .ok (.iadd, 1) := by decide +kernel
theorem dX3_spread_100 : decode cX3_spread 100 = .ok (.iastore, 1) := by decide +kernel
theorem dX3_spread_101 : decode cX3_spread 101 = .ok (.aload_n 0, 1) := by decide +kernel
theorem dX3_spread_102 : decode cX3_spread 102 = .ok (.getfield 33, 3) := by decide +kernel
theorem dX3_spread_105 : decode cX3_spread 105 = .ok (.aload_n 0, 1) := by decide +kernel
theorem dX3_spread_106 : decode cX3_spread 106 = .ok (.getfield 76, 3) := by decide +kernel
theorem dX3_spread_109 : decode cX3_spread 109 = .ok (.iload 4, 2) := by decide +kernel
theorem dX3_spread_111 : decode cX3_spread 111 = .ok (.iastore, 1) := by decide +kernel
theorem dX3_spread_112 : decode cX3_spread 112 = .ok (.aload_n 0, 1) := by decide +kernel
theorem dX3_spread_113 : decode cX3_spread 113 = .ok (.dup, 1) := by decide +kernel
theorem dX3_spread_114 : decode cX3_spread 114 = .ok (.getfield 76, 3) := by decide +kernel
theorem dX3_spread_117 : decode cX3_spread 117 = .ok (.iconst 1, 1) := by decide +kernel
theorem dX3_spread_118 : decode cX3_spread 118 = .ok (.iadd, 1) := by decide +kernel
theorem dX3_spread_119 : decode cX3_spread 119 = .ok (.putfield 76, 3) := by decide +kernel
theorem dX3_spread_122 : decode cX3_spread 122 = .ok (.iinc 3 1, 3) := by decide +kernel
theorem dX3_spread_125 : decode cX3_spread 125 = .ok (.goto (-99), 3) := by decide +kernel
theorem dX3_spread_128 : decode cX3_spread 128 = .ok (.iinc 2 1, 3) := by decide +kernel
theorem dX3_spread_131 : decode cX3_spread 131 = .ok (.goto (-129), 3) := by decide +kernel
theorem dX3_spread_134 : decode cX3_spread 134 = .ok (.return_, 1) := by decide +kernel
set_option maxRecDepth 20000 in
theorem ggX3_layFor_X3_begins : GoodIn wsX3_layFor wsX3_begins := goodIn_r _ [5, 6, 7, 8, 9, 10, 11, 4, 12, 44, 45, 46, 47, 48, 49, 50, 51, 52, 53, 54, 55, 56, 57, 58, 59, 60, 61, 62] (by decide +kernel) (by decide +kernel)
set_option maxRecDepth 20000 in
theorem gX3_layFor_X3_begins : GoodIn wsX3_layFor (wsV RX3 82 RX3 yX3_begins wsX3_begins) := goodIn_app (goodIn_of _ (by decide +kernel)) ggX3_layFor_X3_begins
set_option maxRecDepth 20000 in
theorem ggX3_layFor_X3_aim : GoodIn wsX3_layFor wsX3_aim := goodIn_r _ [16, 7, 17, 8, 44, 45, 46, 47, 48, 49, 50, 51, 52, 53, 54, 55, 56, 57, 58, 59, 60, 61, 62] (by decide +kernel) (by decide +kernel)
set_option maxRecDepth 20000 in
theorem gX3_layFor_X3_aim : GoodIn wsX3_layFor (wsV RX3 85 RX3 yX3_aim wsX3_aim) := goodIn_app (goodIn_of _ (by decide +kernel)) ggX3_layFor_X3_aim
set_option maxRecDepth 20000 in
theorem ggX3_layFor_X3_spread : GoodIn wsX3_layFor wsX3_spread := goodIn_r _ [21, 8, 17, 22, 23, 24, 7, 25, 26, 27, 4, 28, 6, 9, 10, 11, 12, 29, 30, 31, 32, 33, 34, 35, 36, 37, 38, 39, 40, 41, 42, 43, 44, 45, 46, 47, 48, 49, 50, 51, 52, 53, 54, 55, 56, 57, 58, 59, 60, 61, 62] (by decide +kernel) (by decide +kernel)
set_option maxRecDepth 20000 in
theorem gX3_layFor_X3_spread : GoodIn wsX3_layFor (wsV RX3 89 RX3 yX3_spread wsX3_spread) := goodIn_app (goodIn_of _ (by decide +kernel)) ggX3_layFor_X3_spread
theorem dX3_layFor_0 : decode cX3_layFor 0 = .ok (.aload_n 0, 1) := by decide +kernel
theorem dX3_layFor_1 : decode cX3_layFor 1 = .ok (.invokevirtual 82, 3) := by decide +kernel
theorem dX3_layFor_4 : decode cX3_layFor 4 = .ok (.aload_n 0, 1) := by decide +kernel
theorem dX3_layFor_5 : decode cX3_layFor 5 = .ok (.iconst 0, 1) := by decide +kernel
theorem dX3_layFor_6 : decode cX3_layFor 6 = .ok (.invokevirtual 85, 3) := by decide +kernel
theorem dX3_layFor_9 : decode cX3_layFor 9 = .ok (.aload_n 0, 1) := by decide +kernel
theorem dX3_layFor_10 : decode cX3_layFor 10 = .ok (.iload_n 1, 1) := by decide +kernel
theorem dX3_layFor_11 : decode cX3_layFor 11 = .ok (.invokevirtual 89, 3) := by decide +kernel
theorem dX3_layFor_14 : decode cX3_layFor 14 = .ok (.return_, 1) := by decide +kernel
set_option maxRecDepth 20000 in
theorem ggX3_present_X3_numberOf : GoodIn wsX3_present wsX3_numberOf := goodIn_r _ [6, 7, 8, 9, 10, 11, 12, 13, 14, 15, 16, 17, 18, 19, 20, 21, 22, 23, 24, 25, 26] (by decide +kernel) (by decide +kernel)
set_option maxRecDepth 20000 in
theorem gX3_present_X3_numberOf : GoodIn wsX3_present (wsV RX3 72 RX3 yX3_numberOf wsX3_numberOf) := goodIn_app (goodIn_of _ (by decide +kernel)) ggX3_present_X3_numberOf
theorem dX3_present_0 : decode cX3_present 0 = .ok (.aload_n 0, 1) := by decide +kernel
theorem dX3_present_1 : decode cX3_present 1 = .ok (.aload_n 0, 1) := by decide +kernel
theorem dX3_present_2 : decode cX3_present 2 = .ok (.getfield 13, 3) := by decide +kernel
theorem dX3_present_5 : decode cX3_present 5 = .ok (.invokevirtual 72, 3) := by decide +kernel
theorem dX3_present_8 : decode cX3_present 8 = .ok (.ireturn, 1) := by decide +kernel
set_option maxRecDepth 20000 in
theorem ggX3_nearer_X3_has : GoodIn wsX3_nearer wsX3_has := goodIn_r _ [6] (by decide +kernel) (by decide +kernel)
set_option maxRecDepth 20000 in
theorem gX3_nearer_X3_has : GoodIn wsX3_nearer (va_wsS RX3 60 yX3_has wsX3_has) := goodIn_app (goodIn_of _ (by decide +kernel)) ggX3_nearer_X3_has
set_option maxRecDepth 20000 in
theorem ggX3_nearer_X3_after : GoodIn wsX3_nearer wsX3_after := goodIn_r _ [10, 11, 12, 13, 14, 15, 5, 16, 17, 18, 19, 20, 21, 3, 4, 6, 22, 23, 24, 25, 26, 27, 28, 29, 30, 31, 32, 33, 34, 35, 36, 37, 38, 39, 40, 41, 42, 43, 44, 45, 46, 47, 48, 49] (by decide +kernel) (by decide +kernel)
set_option maxRecDepth 20000 in
theorem gX3_nearer_X3_after : GoodIn wsX3_nearer (wsV RX3 92 RX3 yX3_after wsX3_after) := goodIn_app (goodIn_of _ (by decide +kernel)) ggX3_nearer_X3_after
theorem dX3_nearer_0 : decode cX3_nearer 0 = .ok (.iconst 0, 1) := by decide +kernel
theorem dX3_nearer_1 : decode cX3_nearer 1 = .ok (.istore_n 3, 1) := by decide +kernel
theorem dX3_nearer_2 : decode cX3_nearer 2 = .ok (.iload_n 3, 1) := by decide +kernel
theorem dX3_nearer_3 : decode cX3_nearer 3 = .ok (.iconst 2, 1) := by decide +kernel
theorem dX3_nearer_4 : decode cX3_nearer 4 = .ok (.aload_n 0, 1) := by decide +kernel
theorem dX3_nearer_5 : decode cX3_nearer 5 = .ok (.getfield 53, 3) := by decide +kernel
theorem dX3_nearer_8 : decode cX3_nearer 8 = .ok (.imul, 1) := by decide +kernel
theorem dX3_nearer_9 : decode cX3_nearer 9 = .ok (.if_icmp .ge 48, 3) := by decide +kernel
theorem dX3_nearer_12 : decode cX3_nearer 12 = .ok (.iload_n 2, 1) := by decide +kernel
theorem dX3_nearer_13 : decode cX3_nearer 13 = .ok (.iload_n 3, 1) := by decide +kernel
theorem dX3_nearer_14 : decode cX3_nearer 14 = .ok (.invokestatic 60, 3) := by decide +kernel
theorem dX3_nearer_17 : decode cX3_nearer 17 = .ok (.ifCond .eq 34, 3) := by decide +kernel
theorem dX3_nearer_20 : decode cX3_nearer 20 = .ok (.aload_n 0, 1) := by decide +kernel
theorem dX3_nearer_21 : decode cX3_nearer 21 = .ok (.getfield 30, 3) := by decide +kernel
theorem dX3_nearer_24 : decode cX3_nearer 24 = .ok (.iload_n 1, 1) := by decide +kernel
theorem dX3_nearer_25 : decode cX3_nearer 25 = .ok (.iaload, 1) := by decide +kernel
theorem dX3_nearer_26 : decode cX3_nearer 26 = .ok (.ifCond .le 25, 3) := by decide +kernel
theorem dX3_nearer_29 : decode cX3_nearer 29 = .ok (.aload_n 0, 1) := by decide +kernel
theorem dX3_nearer_30 : decode cX3_nearer 30 = .ok (.getfield 30, 3) := by decide +kernel
theorem dX3_nearer_33 : decode cX3_nearer 33 = .ok (.aload_n 0, 1) := by decide +kernel
theorem dX3_nearer_34 : decode cX3_nearer 34 = .ok (.iload_n 1, 1) := by decide +kernel
theorem dX3_nearer_35 : decode cX3_nearer 35 = .ok (.iload_n 3, 1) := by decide +kernel
theorem dX3_nearer_36 : decode cX3_nearer 36 = .ok (.invokevirtual 92, 3) := by decide +kernel
theorem dX3_nearer_39 : decode cX3_nearer 39 = .ok (.iaload, 1) := by decide +kernel
theorem dX3_nearer_40 : decode cX3_nearer 40 = .ok (.aload_n 0, 1) := by decide +kernel
theorem dX3_nearer_41 : decode cX3_nearer 41 = .ok (.getfield 30, 3) := by decide +kernel
theorem dX3_nearer_44 : decode cX3_nearer 44 = .ok (.iload_n 1, 1) := by decide +kernel
theorem dX3_nearer_45 : decode cX3_nearer 45 = .ok (.iaload, 1) := by decide +kernel
theorem dX3_nearer_46 : decode cX3_nearer 46 = .ok (.iconst 1, 1) := by decide +kernel
theorem dX3_nearer_47 : decode cX3_nearer 47 = .ok (.isub, 1) := by decide +kernel
theorem dX3_nearer_48 : decode cX3_nearer 48 = .ok (.if_icmp .eq 9, 3) := by decide +kernel
theorem dX3_nearer_51 : decode cX3_nearer 51 = .ok (.iinc 3 1, 3) := by decide +kernel
theorem dX3_nearer_54 : decode cX3_nearer 54 = .ok (.goto (-52), 3) := by decide +kernel
theorem dX3_nearer_57 : decode cX3_nearer 57 = .ok (.iload_n 3, 1) := by decide +kernel
theorem dX3_nearer_58 : decode cX3_nearer 58 = .ok (.iconst 2, 1) := by decide +kernel
theorem dX3_nearer_59 : decode cX3_nearer 59 = .ok (.aload_n 0, 1) := by decide +kernel
theorem dX3_nearer_60 : decode cX3_nearer 60 = .ok (.getfield 53, 3) := by decide +kernel
theorem dX3_nearer_63 : decode cX3_nearer 63 = .ok (.imul, 1) := by decide +kernel
theorem dX3_nearer_64 : decode cX3_nearer 64 = .ok (.if_icmp .ge 7, 3) := by decide +kernel
theorem dX3_nearer_67 : decode cX3_nearer 67 = .ok (.iload_n 3, 1) := by decide +kernel
theorem dX3_nearer_68 : decode cX3_nearer 68 = .ok (.goto 4, 3) := by decide +kernel
theorem dX3_nearer_71 : decode cX3_nearer 71 = .ok (.iconst (-1), 1) := by decide +kernel
theorem dX3_nearer_72 : decode cX3_nearer 72 = .ok (.ireturn, 1) := by decide +kernel
theorem dX3_isEven_0 : decode cX3_isEven 0 = .ok (.iconst 0, 1) := by decide +kernel
theorem dX3_isEven_1 : decode cX3_isEven 1 = .ok (.istore_n 2, 1) := by decide +kernel
theorem dX3_isEven_2 : decode cX3_isEven 2 = .ok (.iconst 0, 1) := by decide +kernel
theorem dX3_isEven_3 : decode cX3_isEven 3 = .ok (.istore_n 3, 1) := by decide +kernel
theorem dX3_isEven_4 : decode cX3_isEven 4 = .ok (.iload_n 3, 1) := by decide +kernel
theorem dX3_isEven_5 : decode cX3_isEven 5 = .ok (.aload_n 0, 1) := by decide +kernel
theorem dX3_isEven_6 : decode cX3_isEven 6 = .ok (.getfield 7, 3) := by decide +kernel
theorem dX3_isEven_9 : decode cX3_isEven 9 = .ok (.if_icmp .ge 47, 3) := by decide +kernel
theorem dX3_isEven_12 : decode cX3_isEven 12 = .ok (.iload_n 3, 1) := by decide +kernel
theorem dX3_isEven_13 : decode cX3_isEven 13 = .ok (.iconst 1, 1) := by decide +kernel
theorem dX3_isEven_14 : decode cX3_isEven 14 = .ok (.iadd, 1) := by decide +kernel
theorem dX3_isEven_15 : decode cX3_isEven 15 = .ok (.istore 4, 2) := by decide +kernel
theorem dX3_isEven_17 : decode cX3_isEven 17 = .ok (.iload 4, 2) := by decide +kernel
theorem dX3_isEven_19 : decode cX3_isEven 19 = .ok (.aload_n 0, 1) := by decide +kernel
theorem dX3_isEven_20 : decode cX3_isEven 20 = .ok (.getfield 7, 3) := by decide +kernel
theorem dX3_isEven_23 : decode cX3_isEven 23 = .ok (.if_icmp .ge 27, 3) := by decide +kernel
theorem dX3_isEven_26 : decode cX3_isEven 26 = .ok (.iload_n 2, 1) := by decide +kernel
theorem dX3_isEven_27 : decode cX3_isEven 27 = .ok (.aload_n 1, 1) := by decide +kernel
theorem dX3_isEven_28 : decode cX3_isEven 28 = .ok (.iload_n 3, 1) := by decide +kernel
theorem dX3_isEven_29 : decode cX3_isEven 29 = .ok (.iaload, 1) := by decide +kernel
theorem dX3_isEven_30 : decode cX3_isEven 30 = .ok (.aload_n 1, 1) := by decide +kernel
theorem dX3_isEven_31 : decode cX3_isEven 31 = .ok (.iload 4, 2) := by decide +kernel
theorem dX3_isEven_33 : decode cX3_isEven 33 = .ok (.iaload, 1) := by decide +kernel
theorem dX3_isEven_34 : decode cX3_isEven 34 = .ok (.if_icmp .le 7, 3) := by decide +kernel
theorem dX3_isEven_37 : decode cX3_isEven 37 = .ok (.iconst 1, 1) := by decide +kernel
theorem dX3_isEven_38 : decode cX3_isEven 38 = .ok (.goto 4, 3) := by decide +kernel
theorem dX3_isEven_41 : decode cX3_isEven 41 = .ok (.iconst 0, 1) := by decide +kernel
theorem dX3_isEven_42 : decode cX3_isEven 42 = .ok (.iadd, 1) := by decide +kernel
theorem dX3_isEven_43 : decode cX3_isEven 43 = .ok (.istore_n 2, 1) := by decide +kernel
theorem dX3_isEven_44 : decode cX3_isEven 44 = .ok (.iinc 4 1, 3) := by decide +kernel
theorem dX3_isEven_47 : decode cX3_isEven 47 = .ok (.goto (-30), 3) := by decide +kernel
theorem dX3_isEven_50 : decode cX3_isEven 50 = .ok (.iinc 3 1, 3) := by decide +kernel
theorem dX3_isEven_53 : decode cX3_isEven 53 = .ok (.goto (-49), 3) := by decide +kernel
theorem dX3_isEven_56 : decode cX3_isEven 56 = .ok (.iload_n 2, 1) := by decide +kernel
theorem dX3_isEven_57 : decode cX3_isEven 57 = .ok (.iconst 2, 1) := by decide +kernel
theorem dX3_isEven_58 : decode cX3_isEven 58 = .ok (.irem, 1) := by decide +kernel
theorem dX3_isEven_59 : decode cX3_isEven 59 = .ok (.ifCond .ne 7, 3) := by decide +kernel
theorem dX3_isEven_62 : decode cX3_isEven 62 = .ok (.iconst 1, 1) := by decide +kernel
theorem dX3_isEven_63 : decode cX3_isEven 63 = .ok (.goto 4, 3) := by decide +kernel
theorem dX3_isEven_66 : decode cX3_isEven 66 = .ok (.iconst 0, 1) := by decide +kernel
theorem dX3_isEven_67 : decode cX3_isEven 67 = .ok (.ireturn, 1) := by decide +kernel
set_option maxRecDepth 20000 in
theorem ggX3_begin_X3_within : GoodIn wsX3_begin wsX3_within := goodIn_r _ [8] (by decide +kernel) (by decide +kernel)
set_option maxRecDepth 20000 in
theorem gX3_begin_X3_within : GoodIn wsX3_begin (va_wsS RX3 49 yX3_within wsX3_within) := goodIn_app (goodIn_of _ (by decide +kernel)) ggX3_begin_X3_within
set_option maxRecDepth 20000 in
theorem ggX3_begin_X3_straighten : GoodIn wsX3_begin wsX3_straighten := goodIn_r _ [12, 13, 14, 15, 16, 17, 18, 19, 20, 21, 22, 23, 24, 25, 26, 27, 28, 29, 30, 31, 32] (by decide +kernel) (by decide +kernel)
set_option maxRecDepth 20000 in
theorem gX3_begin_X3_straighten : GoodIn wsX3_begin (wsV RX3 43 RX3 yX3_straighten wsX3_straighten) := goodIn_app (goodIn_of _ (by decide +kernel)) ggX3_begin_X3_straighten
theorem dX3_begin_0 : decode cX3_begin 0 = .ok (.aload_n 0, 1) := by decide +kernel
theorem dX3_begin_1 : decode cX3_begin 1 = .ok (.iload_n 1, 1) := by decide +kernel
theorem dX3_begin_2 : decode cX3_begin 2 = .ok (.iconst 3, 1) := by decide +kernel
theorem dX3_begin_3 : decode cX3_begin 3 = .ok (.bipush 8, 2) := by decide +kernel
theorem dX3_begin_5 : decode cX3_begin 5 = .ok (.invokestatic 49, 3) := by decide +kernel
theorem dX3_begin_8 : decode cX3_begin 8 = .ok (.ifCond .eq 7, 3) := by decide +kernel
theorem dX3_begin_11 : decode cX3_begin 11 = .ok (.iconst 0, 1) := by decide +kernel
theorem dX3_begin_12 : decode cX3_begin 12 = .ok (.goto 4, 3) := by decide +kernel
theorem dX3_begin_15 : decode cX3_begin 15 = .ok (.iconst 1, 1) := by decide +kernel
theorem dX3_begin_16 : decode cX3_begin 16 = .ok (.putfield 46, 3) := by decide +kernel
theorem dX3_begin_19 : decode cX3_begin 19 = .ok (.aload_n 0, 1) := by decide +kernel
theorem dX3_begin_20 : decode cX3_begin 20 = .ok (.getfield 46, 3) := by decide +kernel
theorem dX3_begin_23 : decode cX3_begin 23 = .ok (.ifCond .le 5, 3) := by decide +kernel
theorem dX3_begin_26 : decode cX3_begin 26 = .ok (.iconst 0, 1) := by decide +kernel
theorem dX3_begin_27 : decode cX3_begin 27 = .ok (.ireturn, 1) := by decide +kernel
theorem dX3_begin_28 : decode cX3_begin 28 = .ok (.aload_n 0, 1) := by decide +kernel
theorem dX3_begin_29 : decode cX3_begin 29 = .ok (.getfield 7, 3) := by decide +kernel
theorem dX3_begin_32 : decode cX3_begin 32 = .ok (.istore_n 2, 1) := by decide +kernel
theorem dX3_begin_33 : decode cX3_begin 33 = .ok (.aload_n 0, 1) := by decide +kernel
theorem dX3_begin_34 : decode cX3_begin 34 = .ok (.iload_n 1, 1) := by decide +kernel
theorem dX3_begin_35 : decode cX3_begin 35 = .ok (.putfield 7, 3) := by decide +kernel
theorem dX3_begin_38 : decode cX3_begin 38 = .ok (.aload_n 0, 1) := by decide +kernel
theorem dX3_begin_39 : decode cX3_begin 39 = .ok (.iconst 0, 1) := by decide +kernel
theorem dX3_begin_40 : decode cX3_begin 40 = .ok (.putfield 53, 3) := by decide +kernel
theorem dX3_begin_43 : decode cX3_begin 43 = .ok (.aload_n 0, 1) := by decide +kernel
theorem dX3_begin_44 : decode cX3_begin 44 = .ok (.iconst 0, 1) := by decide +kernel
theorem dX3_begin_45 : decode cX3_begin 45 = .ok (.putfield 96, 3) := by decide +kernel
theorem dX3_begin_48 : decode cX3_begin 48 = .ok (.aload_n 0, 1) := by decide +kernel
theorem dX3_begin_49 : decode cX3_begin 49 = .ok (.invokevirtual 43, 3) := by decide +kernel
theorem dX3_begin_52 : decode cX3_begin 52 = .ok (.iload_n 2, 1) := by decide +kernel
theorem dX3_begin_53 : decode cX3_begin 53 = .ok (.ireturn, 1) := by decide +kernel
theorem dX3_putTurn_0 : decode cX3_putTurn 0 = .ok (.iconst 0, 1) := by decide +kernel
theorem dX3_putTurn_1 : decode cX3_putTurn 1 = .ok (.istore_n 1, 1) := by decide +kernel
theorem dX3_putTurn_2 : decode cX3_putTurn 2 = .ok (.iload_n 1, 1) := by decide +kernel
theorem dX3_putTurn_3 : decode cX3_putTurn 3 = .ok (.aload_n 0, 1) := by decide +kernel
theorem dX3_putTurn_4 : decode cX3_putTurn 4 = .ok (.getfield 7, 3) := by decide +kernel
theorem dX3_putTurn_7 : decode cX3_putTurn 7 = .ok (.if_icmp .ge 53, 3) := by decide +kernel
theorem dX3_putTurn_10 : decode cX3_putTurn 10 = .ok (.aload_n 0, 1) := by decide +kernel
theorem dX3_putTurn_11 : decode cX3_putTurn 11 = .ok (.getfield 17, 3) := by decide +kernel
theorem dX3_putTurn_14 : decode cX3_putTurn 14 = .ok (.bipush 16, 2) := by decide +kernel
theorem dX3_putTurn_16 : decode cX3_putTurn 16 = .ok (.aload_n 0, 1) := by decide +kernel
theorem dX3_putTurn_17 : decode cX3_putTurn 17 = .ok (.getfield 53, 3) := by decide +kernel
theorem dX3_putTurn_20 : decode cX3_putTurn 20 = .ok (.imul, 1) := by decide +kernel
theorem dX3_putTurn_21 : decode cX3_putTurn 21 = .ok (.iload_n 1, 1) := by decide +kernel
theorem dX3_putTurn_22 : decode cX3_putTurn 22 = .ok (.iadd, 1) := by decide +kernel
theorem dX3_putTurn_23 : decode cX3_putTurn 23 = .ok (.aload_n 0, 1) := by decide +kernel
theorem dX3_putTurn_24 : decode cX3_putTurn 24 = .ok (.getfield 23, 3) := by decide +kernel
theorem dX3_putTurn_27 : decode cX3_putTurn 27 = .ok (.iload_n 1, 1) := by decide +kernel
theorem dX3_putTurn_28 : decode cX3_putTurn 28 = .ok (.iaload, 1) := by decide +kernel
theorem dX3_putTurn_29 : decode cX3_putTurn 29 = .ok (.iastore, 1) := by decide +kernel
theorem dX3_putTurn_30 : decode cX3_putTurn 30 = .ok (.aload_n 0, 1) := by decide +kernel
theorem dX3_putTurn_31 : decode cX3_putTurn 31 = .ok (.getfield 17, 3) := by decide +kernel
theorem dX3_putTurn_34 : decode cX3_putTurn 34 = .ok (.bipush 8, 2) := by decide +kernel
theorem dX3_putTurn_36 : decode cX3_putTurn 36 = .ok (.iconst 2, 1) := by decide +kernel
theorem dX3_putTurn_37 : decode cX3_putTurn 37 = .ok (.aload_n 0, 1) := by decide +kernel
theorem dX3_putTurn_38 : decode cX3_putTurn 38 = .ok (.getfield 53, 3) := by decide +kernel
theorem dX3_putTurn_41 : decode cX3_putTurn 41 = .ok (.imul, 1) := by decide +kernel
theorem dX3_putTurn_42 : decode cX3_putTurn 42 = .ok (.iconst 1, 1) := by decide +kernel
theorem dX3_putTurn_43 : decode cX3_putTurn 43 = .ok (.iadd, 1) := by decide +kernel
theorem dX3_putTurn_44 : decode cX3_putTurn 44 = .ok (.imul, 1) := by decide +kernel
theorem dX3_putTurn_45 : decode cX3_putTurn 45 = .ok (.aload_n 0, 1) := by decide +kernel
theorem dX3_putTurn_46 : decode cX3_putTurn 46 = .ok (.getfield 23, 3) := by decide +kernel
theorem dX3_putTurn_49 : decode cX3_putTurn 49 = .ok (.iload_n 1, 1) := by decide +kernel
theorem dX3_putTurn_50 : decode cX3_putTurn 50 = .ok (.iaload, 1) := by decide +kernel
theorem dX3_putTurn_51 : decode cX3_putTurn 51 = .ok (.iadd, 1) := by decide +kernel
theorem dX3_putTurn_52 : decode cX3_putTurn 52 = .ok (.iload_n 1, 1) := by decide +kernel
theorem dX3_putTurn_53 : decode cX3_putTurn 53 = .ok (.iastore, 1) := by decide +kernel
theorem dX3_putTurn_54 : decode cX3_putTurn 54 = .ok (.iinc 1 1, 3) := by decide +kernel
theorem dX3_putTurn_57 : decode cX3_putTurn 57 = .ok (.goto (-55), 3) := by decide +kernel
theorem dX3_putTurn_60 : decode cX3_putTurn 60 = .ok (.aload_n 0, 1) := by decide +kernel
theorem dX3_putTurn_61 : decode cX3_putTurn 61 = .ok (.dup, 1) := by decide +kernel
theorem dX3_putTurn_62 : decode cX3_putTurn 62 = .ok (.getfield 96, 3) := by decide +kernel
theorem dX3_putTurn_65 : decode cX3_putTurn 65 = .ok (.iconst 3, 1) := by decide +kernel
theorem dX3_putTurn_66 : decode cX3_putTurn 66 = .ok (.iconst 2, 1) := by decide +kernel
theorem dX3_putTurn_67 : decode cX3_putTurn 67 = .ok (.aload_n 0, 1) := by decide +kernel
theorem dX3_putTurn_68 : decode cX3_putTurn 68 = .ok (.getfield 53, 3) := by decide +kernel
theorem dX3_putTurn_71 : decode cX3_putTurn 71 = .ok (.imul, 1) := by decide +kernel
theorem dX3_putTurn_72 : decode cX3_putTurn 72 = .ok (.ishl, 1) := by decide +kernel
theorem dX3_putTurn_73 : decode cX3_putTurn 73 = .ok (.ior, 1) := by decide +kernel
theorem dX3_putTurn_74 : decode cX3_putTurn 74 = .ok (.putfield 96, 3) := by decide +kernel
theorem dX3_putTurn_77 : decode cX3_putTurn 77 = .ok (.aload_n 0, 1) := by decide +kernel
theorem dX3_putTurn_78 : decode cX3_putTurn 78 = .ok (.dup, 1) := by decide +kernel
theorem dX3_putTurn_79 : decode cX3_putTurn 79 = .ok (.getfield 53, 3) := by decide +kernel
theorem dX3_putTurn_82 : decode cX3_putTurn 82 = .ok (.iconst 1, 1) := by decide +kernel
theorem dX3_putTurn_83 : decode cX3_putTurn 83 = .ok (.iadd, 1) := by decide +kernel
theorem dX3_putTurn_84 : decode cX3_putTurn 84 = .ok (.putfield 53, 3) := by decide +kernel
theorem dX3_putTurn_87 : decode cX3_putTurn 87 = .ok (.return_, 1) := by decide +kernel
set_option maxRecDepth 20000 in
theorem ggX3_addTurn_X3_isPlace : GoodIn wsX3_addTurn wsX3_isPlace := goodIn_r _ [9, 3, 10, 11, 8, 12, 19, 20, 21, 22, 23, 24, 25, 26, 27, 28, 29, 30, 31, 32, 33, 34, 35, 36, 37] (by decide +kernel) (by decide +kernel)
set_option maxRecDepth 20000 in
theorem gX3_addTurn_X3_isPlace : GoodIn wsX3_addTurn (wsV RX3 99 RX3 yX3_isPlace wsX3_isPlace) := goodIn_app (goodIn_of _ (by decide +kernel)) ggX3_addTurn_X3_isPlace
set_option maxRecDepth 20000 in
theorem ggX3_addTurn_X3_within : GoodIn wsX3_addTurn wsX3_within := goodIn_r _ [12] (by decide +kernel) (by decide +kernel)
set_option maxRecDepth 20000 in
theorem gX3_addTurn_X3_within : GoodIn wsX3_addTurn (va_wsS RX3 49 yX3_within wsX3_within) := goodIn_app (goodIn_of _ (by decide +kernel)) ggX3_addTurn_X3_within
set_option maxRecDepth 20000 in
theorem ggX3_addTurn_X3_putTurn : GoodIn wsX3_addTurn wsX3_putTurn := goodIn_r _ [16, 3, 17, 1, 4, 18, 19, 20, 21, 22, 23, 24, 25, 26, 27, 28, 29, 30, 31, 32, 33, 34, 35, 36, 37] (by decide +kernel) (by decide +kernel)
set_option maxRecDepth 20000 in
theorem gX3_addTurn_X3_putTurn : GoodIn wsX3_addTurn (wsV RX3 103 RX3 yX3_putTurn wsX3_putTurn) := goodIn_app (goodIn_of _ (by decide +kernel)) ggX3_addTurn_X3_putTurn
theorem dX3_addTurn_0 : decode cX3_addTurn 0 = .ok (.aload_n 0, 1) := by decide +kernel
theorem dX3_addTurn_1 : decode cX3_addTurn 1 = .ok (.iload_n 2, 1) := by decide +kernel
theorem dX3_addTurn_2 : decode cX3_addTurn 2 = .ok (.invokevirtual 99, 3) := by decide +kernel
theorem dX3_addTurn_5 : decode cX3_addTurn 5 = .ok (.ifCond .eq 15, 3) := by decide +kernel
theorem dX3_addTurn_8 : decode cX3_addTurn 8 = .ok (.aload_n 0, 1) := by decide +kernel
theorem dX3_addTurn_9 : decode cX3_addTurn 9 = .ok (.iload_n 3, 1) := by decide +kernel
theorem dX3_addTurn_10 : decode cX3_addTurn 10 = .ok (.invokevirtual 99, 3) := by decide +kernel
theorem dX3_addTurn_13 : decode cX3_addTurn 13 = .ok (.ifCond .eq 7, 3) := by decide +kernel
theorem dX3_addTurn_16 : decode cX3_addTurn 16 = .ok (.iconst 1, 1) := by decide +kernel
theorem dX3_addTurn_17 : decode cX3_addTurn 17 = .ok (.goto 4, 3) := by decide +kernel
theorem dX3_addTurn_20 : decode cX3_addTurn 20 = .ok (.iconst 0, 1) := by decide +kernel
theorem dX3_addTurn_21 : decode cX3_addTurn 21 = .ok (.istore 4, 2) := by decide +kernel
theorem dX3_addTurn_23 : decode cX3_addTurn 23 = .ok (.aload_n 0, 1) := by decide +kernel
theorem dX3_addTurn_24 : decode cX3_addTurn 24 = .ok (.iload 4, 2) := by decide +kernel
theorem dX3_addTurn_26 : decode cX3_addTurn 26 = .ok (.ifCond .ne 7, 3) := by decide +kernel
theorem dX3_addTurn_29 : decode cX3_addTurn 29 = .ok (.iconst 1, 1) := by decide +kernel
theorem dX3_addTurn_30 : decode cX3_addTurn 30 = .ok (.goto 35, 3) := by decide +kernel
theorem dX3_addTurn_33 : decode cX3_addTurn 33 = .ok (.iload_n 1, 1) := by decide +kernel
theorem dX3_addTurn_34 : decode cX3_addTurn 34 = .ok (.iconst 0, 1) := by decide +kernel
theorem dX3_addTurn_35 : decode cX3_addTurn 35 = .ok (.iconst 2, 1) := by decide +kernel
theorem dX3_addTurn_36 : decode cX3_addTurn 36 = .ok (.invokestatic 49, 3) := by decide +kernel
theorem dX3_addTurn_39 : decode cX3_addTurn 39 = .ok (.ifCond .eq 8, 3) := by decide +kernel
theorem dX3_addTurn_42 : decode cX3_addTurn 42 = .ok (.iload_n 3, 1) := by decide +kernel
theorem dX3_addTurn_43 : decode cX3_addTurn 43 = .ok (.iload_n 2, 1) := by decide +kernel
theorem dX3_addTurn_44 : decode cX3_addTurn 44 = .ok (.if_icmp .gt 7, 3) := by decide +kernel
theorem dX3_addTurn_47 : decode cX3_addTurn 47 = .ok (.iconst 2, 1) := by decide +kernel
theorem dX3_addTurn_48 : decode cX3_addTurn 48 = .ok (.goto 17, 3) := by decide +kernel
theorem dX3_addTurn_51 : decode cX3_addTurn 51 = .ok (.aload_n 0, 1) := by decide +kernel
theorem dX3_addTurn_52 : decode cX3_addTurn 52 = .ok (.getfield 53, 3) := by decide +kernel
theorem dX3_addTurn_55 : decode cX3_addTurn 55 = .ok (.bipush 6, 2) := by decide +kernel
theorem dX3_addTurn_57 : decode cX3_addTurn 57 = .ok (.if_icmp .ne 7, 3) := by decide +kernel
theorem dX3_addTurn_60 : decode cX3_addTurn 60 = .ok (.iconst 3, 1) := by decide +kernel
theorem dX3_addTurn_61 : decode cX3_addTurn 61 = .ok (.goto 4, 3) := by decide +kernel
theorem dX3_addTurn_64 : decode cX3_addTurn 64 = .ok (.iconst 0, 1) := by decide +kernel
theorem dX3_addTurn_65 : decode cX3_addTurn 65 = .ok (.putfield 46, 3) := by decide +kernel
theorem dX3_addTurn_68 : decode cX3_addTurn 68 = .ok (.aload_n 0, 1) := by decide +kernel
theorem dX3_addTurn_69 : decode cX3_addTurn 69 = .ok (.getfield 46, 3) := by decide +kernel
theorem dX3_addTurn_72 : decode cX3_addTurn 72 = .ok (.ifCond .le 5, 3) := by decide +kernel
theorem dX3_addTurn_75 : decode cX3_addTurn 75 = .ok (.iconst 0, 1) := by decide +kernel
theorem dX3_addTurn_76 : decode cX3_addTurn 76 = .ok (.ireturn, 1) := by decide +kernel
theorem dX3_addTurn_77 : decode cX3_addTurn 77 = .ok (.iconst 0, 1) := by decide +kernel
theorem dX3_addTurn_78 : decode cX3_addTurn 78 = .ok (.istore 5, 2) := by decide +kernel
theorem dX3_addTurn_80 : decode cX3_addTurn 80 = .ok (.iload 5, 2) := by decide +kernel
theorem dX3_addTurn_82 : decode cX3_addTurn 82 = .ok (.aload_n 0, 1) := by decide +kernel
theorem dX3_addTurn_83 : decode cX3_addTurn 83 = .ok (.getfield 7, 3) := by decide +kernel
theorem dX3_addTurn_86 : decode cX3_addTurn 86 = .ok (.if_icmp .ge 86, 3) := by decide +kernel
theorem dX3_addTurn_89 : decode cX3_addTurn 89 = .ok (.iload 5, 2) := by decide +kernel
theorem dX3_addTurn_91 : decode cX3_addTurn 91 = .ok (.iload_n 2, 1) := by decide +kernel
theorem dX3_addTurn_92 : decode cX3_addTurn 92 = .ok (.iload_n 3, 1) := by decide +kernel
theorem dX3_addTurn_93 : decode cX3_addTurn 93 = .ok (.invokestatic 49, 3) := by decide +kernel
theorem dX3_addTurn_96 : decode cX3_addTurn 96 = .ok (.istore 6, 2) := by decide +kernel
theorem dX3_addTurn_98 : decode cX3_addTurn 98 = .ok (.iload_n 1, 1) := by decide +kernel
theorem dX3_addTurn_99 : decode cX3_addTurn 99 = .ok (.ifCond .ne 12, 3) := by decide +kernel
theorem dX3_addTurn_102 : decode cX3_addTurn 102 = .ok (.iload_n 2, 1) := by decide +kernel
theorem dX3_addTurn_103 : decode cX3_addTurn 103 = .ok (.iload_n 3, 1) := by decide +kernel
theorem dX3_addTurn_104 : decode cX3_addTurn 104 = .ok (.iadd, 1) := by decide +kernel
theorem dX3_addTurn_105 : decode cX3_addTurn 105 = .ok (.iload 5, 2) := by decide +kernel
theorem dX3_addTurn_107 : decode cX3_addTurn 107 = .ok (.isub, 1) := by decide +kernel
theorem dX3_addTurn_108 : decode cX3_addTurn 108 = .ok (.goto 37, 3) := by decide +kernel
theorem dX3_addTurn_111 : decode cX3_addTurn 111 = .ok (.iload 5, 2) := by decide +kernel
theorem dX3_addTurn_113 : decode cX3_addTurn 113 = .ok (.iload_n 2, 1) := by decide +kernel
theorem dX3_addTurn_114 : decode cX3_addTurn 114 = .ok (.if_icmp .ne 7, 3) := by decide +kernel
theorem dX3_addTurn_117 : decode cX3_addTurn 117 = .ok (.iload_n 3, 1) := by decide +kernel
theorem dX3_addTurn_118 : decode cX3_addTurn 118 = .ok (.goto 27, 3) := by decide +kernel
theorem dX3_addTurn_121 : decode cX3_addTurn 121 = .ok (.iload_n 1, 1) := by decide +kernel
theorem dX3_addTurn_122 : decode cX3_addTurn 122 = .ok (.iconst 1, 1) := by decide +kernel
theorem dX3_addTurn_123 : decode cX3_addTurn 123 = .ok (.if_icmp .ne 10, 3) := by decide +kernel
theorem dX3_addTurn_126 : decode cX3_addTurn 126 = .ok (.iload 5, 2) := by decide +kernel
theorem dX3_addTurn_128 : decode cX3_addTurn 128 = .ok (.iconst 1, 1) := by decide +kernel
theorem dX3_addTurn_129 : decode cX3_addTurn 129 = .ok (.isub, 1) := by decide +kernel
theorem dX3_addTurn_130 : decode cX3_addTurn 130 = .ok (.goto 15, 3) := by decide +kernel
theorem dX3_addTurn_133 : decode cX3_addTurn 133 = .ok (.iload 5, 2) := by decide +kernel
theorem dX3_addTurn_135 : decode cX3_addTurn 135 = .ok (.iload_n 3, 1) := by decide +kernel
theorem dX3_addTurn_136 : decode cX3_addTurn 136 = .ok (.if_icmp .ne 7, 3) := by decide +kernel
theorem dX3_addTurn_139 : decode cX3_addTurn 139 = .ok (.iload_n 2, 1) := by decide +kernel
theorem dX3_addTurn_140 : decode cX3_addTurn 140 = .ok (.goto 5, 3) := by decide +kernel
theorem dX3_addTurn_143 : decode cX3_addTurn 143 = .ok (.iload 5, 2) := by decide +kernel
theorem dX3_addTurn_145 : decode cX3_addTurn 145 = .ok (.istore 7, 2) := by decide +kernel
theorem dX3_addTurn_147 : decode cX3_addTurn 147 = .ok (.aload_n 0, 1) := by decide +kernel
theorem dX3_addTurn_148 : decode cX3_addTurn 148 = .ok (.getfield 23, 3) := by decide +kernel
theorem dX3_addTurn_151 : decode cX3_addTurn 151 = .ok (.iload 5, 2) := by decide +kernel
theorem dX3_addTurn_153 : decode cX3_addTurn 153 = .ok (.iload 6, 2) := by decide +kernel
theorem dX3_addTurn_155 : decode cX3_addTurn 155 = .ok (.ifCond .eq 8, 3) := by decide +kernel
theorem dX3_addTurn_158 : decode cX3_addTurn 158 = .ok (.iload 7, 2) := by decide +kernel
theorem dX3_addTurn_160 : decode cX3_addTurn 160 = .ok (.goto 5, 3) := by decide +kernel
theorem dX3_addTurn_163 : decode cX3_addTurn 163 = .ok (.iload 5, 2) := by decide +kernel
theorem dX3_addTurn_165 : decode cX3_addTurn 165 = .ok (.iastore, 1) := by decide +kernel
theorem dX3_addTurn_166 : decode cX3_addTurn 166 = .ok (.iinc 5 1, 3) := by decide +kernel
theorem dX3_addTurn_169 : decode cX3_addTurn 169 = .ok (.goto (-89), 3) := by decide +kernel
theorem dX3_addTurn_172 : decode cX3_addTurn 172 = .ok (.aload_n 0, 1) := by decide +kernel
theorem dX3_addTurn_173 : decode cX3_addTurn 173 = .ok (.invokevirtual 103, 3) := by decide +kernel
theorem dX3_addTurn_176 : decode cX3_addTurn 176 = .ok (.aload_n 0, 1) := by decide +kernel
theorem dX3_addTurn_177 : decode cX3_addTurn 177 = .ok (.getfield 53, 3) := by decide +kernel
theorem dX3_addTurn_180 : decode cX3_addTurn 180 = .ok (.iconst 1, 1) := by decide +kernel
theorem dX3_addTurn_181 : decode cX3_addTurn 181 = .ok (.isub, 1) := by decide +kernel
theorem dX3_addTurn_182 : decode cX3_addTurn 182 = .ok (.ireturn, 1) := by decide +kernel
theorem dX3_dropTurn_0 : decode cX3_dropTurn 0 = .ok (.aload_n 0, 1) := by decide +kernel
theorem dX3_dropTurn_1 : decode cX3_dropTurn 1 = .ok (.aload_n 0, 1) := by decide +kernel
theorem dX3_dropTurn_2 : decode cX3_dropTurn 2 = .ok (.getfield 53, 3) := by decide +kernel
theorem dX3_dropTurn_5 : decode cX3_dropTurn 5 = .ok (.ifCond .le 7, 3) := by decide +kernel
theorem dX3_dropTurn_8 : decode cX3_dropTurn 8 = .ok (.iconst 0, 1) := by decide +kernel
theorem dX3_dropTurn_9 : decode cX3_dropTurn 9 = .ok (.goto 4, 3) := by decide +kernel
theorem dX3_dropTurn_12 : decode cX3_dropTurn 12 = .ok (.iconst 1, 1) := by decide +kernel
theorem dX3_dropTurn_13 : decode cX3_dropTurn 13 = .ok (.putfield 46, 3) := by decide +kernel
theorem dX3_dropTurn_16 : decode cX3_dropTurn 16 = .ok (.aload_n 0, 1) := by decide +kernel
theorem dX3_dropTurn_17 : decode cX3_dropTurn 17 = .ok (.getfield 46, 3) := by decide +kernel
theorem dX3_dropTurn_20 : decode cX3_dropTurn 20 = .ok (.ifCond .le 5, 3) := by decide +kernel
theorem dX3_dropTurn_23 : decode cX3_dropTurn 23 = .ok (.iconst 0, 1) := by decide +kernel
theorem dX3_dropTurn_24 : decode cX3_dropTurn 24 = .ok (.ireturn, 1) := by decide +kernel
theorem dX3_dropTurn_25 : decode cX3_dropTurn 25 = .ok (.aload_n 0, 1) := by decide +kernel
theorem dX3_dropTurn_26 : decode cX3_dropTurn 26 = .ok (.dup, 1) := by decide +kernel
theorem dX3_dropTurn_27 : decode cX3_dropTurn 27 = .ok (.getfield 53, 3) := by decide +kernel
theorem dX3_dropTurn_30 : decode cX3_dropTurn 30 = .ok (.iconst 1, 1) := by decide +kernel
theorem dX3_dropTurn_31 : decode cX3_dropTurn 31 = .ok (.isub, 1) := by decide +kernel
theorem dX3_dropTurn_32 : decode cX3_dropTurn 32 = .ok (.putfield 53, 3) := by decide +kernel
theorem dX3_dropTurn_35 : decode cX3_dropTurn 35 = .ok (.aload_n 0, 1) := by decide +kernel
theorem dX3_dropTurn_36 : decode cX3_dropTurn 36 = .ok (.dup, 1) := by decide +kernel
theorem dX3_dropTurn_37 : decode cX3_dropTurn 37 = .ok (.getfield 96, 3) := by decide +kernel
theorem dX3_dropTurn_40 : decode cX3_dropTurn 40 = .ok (.iconst 1, 1) := by decide +kernel
theorem dX3_dropTurn_41 : decode cX3_dropTurn 41 = .ok (.iconst 2, 1) := by decide +kernel
theorem dX3_dropTurn_42 : decode cX3_dropTurn 42 = .ok (.aload_n 0, 1) := by decide +kernel
theorem dX3_dropTurn_43 : decode cX3_dropTurn 43 = .ok (.getfield 53, 3) := by decide +kernel
theorem dX3_dropTurn_46 : decode cX3_dropTurn 46 = .ok (.imul, 1) := by decide +kernel
theorem dX3_dropTurn_47 : decode cX3_dropTurn 47 = .ok (.ishl, 1) := by decide +kernel
theorem dX3_dropTurn_48 : decode cX3_dropTurn 48 = .ok (.iconst 1, 1) := by decide +kernel
theorem dX3_dropTurn_49 : decode cX3_dropTurn 49 = .ok (.isub, 1) := by decide +kernel
theorem dX3_dropTurn_50 : decode cX3_dropTurn 50 = .ok (.iand, 1) := by decide +kernel
theorem dX3_dropTurn_51 : decode cX3_dropTurn 51 = .ok (.putfield 96, 3) := by decide +kernel
theorem dX3_dropTurn_54 : decode cX3_dropTurn 54 = .ok (.aload_n 0, 1) := by decide +kernel
theorem dX3_dropTurn_55 : decode cX3_dropTurn 55 = .ok (.getfield 53, 3) := by decide +kernel
theorem dX3_dropTurn_58 : decode cX3_dropTurn 58 = .ok (.ireturn, 1) := by decide +kernel
set_option maxRecDepth 20000 in
theorem ggX3_allow_X3_within : GoodIn wsX3_allow wsX3_within := goodIn_r _ [7] (by decide +kernel) (by decide +kernel)
set_option maxRecDepth 20000 in
theorem gX3_allow_X3_within : GoodIn wsX3_allow (va_wsS RX3 49 yX3_within wsX3_within) := goodIn_app (goodIn_of _ (by decide +kernel)) ggX3_allow_X3_within
theorem dX3_allow_0 : decode cX3_allow 0 = .ok (.aload_n 0, 1) := by decide +kernel
theorem dX3_allow_1 : decode cX3_allow 1 = .ok (.iload_n 1, 1) := by decide +kernel
theorem dX3_allow_2 : decode cX3_allow 2 = .ok (.iconst 0, 1) := by decide +kernel
theorem dX3_allow_3 : decode cX3_allow 3 = .ok (.iconst 1, 1) := by decide +kernel
theorem dX3_allow_4 : decode cX3_allow 4 = .ok (.iconst 2, 1) := by decide +kernel
theorem dX3_allow_5 : decode cX3_allow 5 = .ok (.aload_n 0, 1) := by decide +kernel
theorem dX3_allow_6 : decode cX3_allow 6 = .ok (.getfield 53, 3) := by decide +kernel
theorem dX3_allow_9 : decode cX3_allow 9 = .ok (.imul, 1) := by decide +kernel
theorem dX3_allow_10 : decode cX3_allow 10 = .ok (.ishl, 1) := by decide +kernel
theorem dX3_allow_11 : decode cX3_allow 11 = .ok (.iconst 1, 1) := by decide +kernel
theorem dX3_allow_12 : decode cX3_allow 12 = .ok (.isub, 1) := by decide +kernel
theorem dX3_allow_13 : decode cX3_allow 13 = .ok (.invokestatic 49, 3) := by decide +kernel
theorem dX3_allow_16 : decode cX3_allow 16 = .ok (.ifCond .eq 7, 3) := by decide +kernel
theorem dX3_allow_19 : decode cX3_allow 19 = .ok (.iconst 0, 1) := by decide +kernel
theorem dX3_allow_20 : decode cX3_allow 20 = .ok (.goto 4, 3) := by decide +kernel
theorem dX3_allow_23 : decode cX3_allow 23 = .ok (.iconst 1, 1) := by decide +kernel
theorem dX3_allow_24 : decode cX3_allow 24 = .ok (.putfield 46, 3) := by decide +kernel
theorem dX3_allow_27 : decode cX3_allow 27 = .ok (.aload_n 0, 1) := by decide +kernel
theorem dX3_allow_28 : decode cX3_allow 28 = .ok (.getfield 46, 3) := by decide +kernel
theorem dX3_allow_31 : decode cX3_allow 31 = .ok (.ifCond .le 5, 3) := by decide +kernel
theorem dX3_allow_34 : decode cX3_allow 34 = .ok (.iconst 0, 1) := by decide +kernel
theorem dX3_allow_35 : decode cX3_allow 35 = .ok (.ireturn, 1) := by decide +kernel
theorem dX3_allow_36 : decode cX3_allow 36 = .ok (.aload_n 0, 1) := by decide +kernel
theorem dX3_allow_37 : decode cX3_allow 37 = .ok (.getfield 96, 3) := by decide +kernel
theorem dX3_allow_40 : decode cX3_allow 40 = .ok (.istore_n 2, 1) := by decide +kernel
theorem dX3_allow_41 : decode cX3_allow 41 = .ok (.aload_n 0, 1) := by decide +kernel
theorem dX3_allow_42 : decode cX3_allow 42 = .ok (.iload_n 1, 1) := by decide +kernel
theorem dX3_allow_43 : decode cX3_allow 43 = .ok (.putfield 96, 3) := by decide +kernel
theorem dX3_allow_46 : decode cX3_allow 46 = .ok (.iload_n 2, 1) := by decide +kernel
theorem dX3_allow_47 : decode cX3_allow 47 = .ok (.ireturn, 1) := by decide +kernel
set_option maxRecDepth 20000 in
theorem ggX3_exchange_X3_isPlace : GoodIn wsX3_exchange wsX3_isPlace := goodIn_r _ [7, 8, 9, 10, 6, 11, 12, 13, 14, 15, 16, 17, 18, 19, 20, 21, 22, 23, 24, 25, 26, 27, 28, 29, 30] (by decide +kernel) (by decide +kernel)
set_option maxRecDepth 20000 in
theorem gX3_exchange_X3_isPlace : GoodIn wsX3_exchange (wsV RX3 99 RX3 yX3_isPlace wsX3_isPlace) := goodIn_app (goodIn_of _ (by decide +kernel)) ggX3_exchange_X3_isPlace
theorem dX3_exchange_0 : decode cX3_exchange 0 = .ok (.aload_n 0, 1) := by decide +kernel
theorem dX3_exchange_1 : decode cX3_exchange 1 = .ok (.aload_n 0, 1) := by decide +kernel
theorem dX3_exchange_2 : decode cX3_exchange 2 = .ok (.iload_n 1, 1) := by decide +kernel
theorem dX3_exchange_3 : decode cX3_exchange 3 = .ok (.invokevirtual 99, 3) := by decide +kernel
theorem dX3_exchange_6 : decode cX3_exchange 6 = .ok (.ifCond .eq 15, 3) := by decide +kernel
theorem dX3_exchange_9 : decode cX3_exchange 9 = .ok (.aload_n 0, 1) := by decide +kernel
theorem dX3_exchange_10 : decode cX3_exchange 10 = .ok (.iload_n 2, 1) := by decide +kernel
theorem dX3_exchange_11 : decode cX3_exchange 11 = .ok (.invokevirtual 99, 3) := by decide +kernel
theorem dX3_exchange_14 : decode cX3_exchange 14 = .ok (.ifCond .eq 7, 3) := by decide +kernel
theorem dX3_exchange_17 : decode cX3_exchange 17 = .ok (.iconst 0, 1) := by decide +kernel
theorem dX3_exchange_18 : decode cX3_exchange 18 = .ok (.goto 4, 3) := by decide +kernel
theorem dX3_exchange_21 : decode cX3_exchange 21 = .ok (.iconst 1, 1) := by decide +kernel
theorem dX3_exchange_22 : decode cX3_exchange 22 = .ok (.putfield 46, 3) := by decide +kernel
theorem dX3_exchange_25 : decode cX3_exchange 25 = .ok (.aload_n 0, 1) := by decide +kernel
theorem dX3_exchange_26 : decode cX3_exchange 26 = .ok (.getfield 46, 3) := by decide +kernel
theorem dX3_exchange_29 : decode cX3_exchange 29 = .ok (.ifCond .le 5, 3) := by decide +kernel
theorem dX3_exchange_32 : decode cX3_exchange 32 = .ok (.iconst 0, 1) := by decide +kernel
theorem dX3_exchange_33 : decode cX3_exchange 33 = .ok (.ireturn, 1) := by decide +kernel
theorem dX3_exchange_34 : decode cX3_exchange 34 = .ok (.aload_n 0, 1) := by decide +kernel
theorem dX3_exchange_35 : decode cX3_exchange 35 = .ok (.getfield 13, 3) := by decide +kernel
theorem dX3_exchange_38 : decode cX3_exchange 38 = .ok (.iload_n 1, 1) := by decide +kernel
theorem dX3_exchange_39 : decode cX3_exchange 39 = .ok (.iaload, 1) := by decide +kernel
theorem dX3_exchange_40 : decode cX3_exchange 40 = .ok (.istore_n 3, 1) := by decide +kernel
theorem dX3_exchange_41 : decode cX3_exchange 41 = .ok (.aload_n 0, 1) := by decide +kernel
theorem dX3_exchange_42 : decode cX3_exchange 42 = .ok (.getfield 13, 3) := by decide +kernel
theorem dX3_exchange_45 : decode cX3_exchange 45 = .ok (.iload_n 1, 1) := by decide +kernel
theorem dX3_exchange_46 : decode cX3_exchange 46 = .ok (.aload_n 0, 1) := by decide +kernel
theorem dX3_exchange_47 : decode cX3_exchange 47 = .ok (.getfield 13, 3) := by decide +kernel
theorem dX3_exchange_50 : decode cX3_exchange 50 = .ok (.iload_n 2, 1) := by decide +kernel
theorem dX3_exchange_51 : decode cX3_exchange 51 = .ok (.iaload, 1) := by decide +kernel
theorem dX3_exchange_52 : decode cX3_exchange 52 = .ok (.iastore, 1) := by decide +kernel
theorem dX3_exchange_53 : decode cX3_exchange 53 = .ok (.aload_n 0, 1) := by decide +kernel
theorem dX3_exchange_54 : decode cX3_exchange 54 = .ok (.getfield 13, 3) := by decide +kernel
theorem dX3_exchange_57 : decode cX3_exchange 57 = .ok (.iload_n 2, 1) := by decide +kernel
theorem dX3_exchange_58 : decode cX3_exchange 58 = .ok (.iload_n 3, 1) := by decide +kernel
theorem dX3_exchange_59 : decode cX3_exchange 59 = .ok (.iastore, 1) := by decide +kernel
theorem dX3_exchange_60 : decode cX3_exchange 60 = .ok (.aload_n 0, 1) := by decide +kernel
theorem dX3_exchange_61 : decode cX3_exchange 61 = .ok (.getfield 13, 3) := by decide +kernel
theorem dX3_exchange_64 : decode cX3_exchange 64 = .ok (.iload_n 1, 1) := by decide +kernel
theorem dX3_exchange_65 : decode cX3_exchange 65 = .ok (.iaload, 1) := by decide +kernel
theorem dX3_exchange_66 : decode cX3_exchange 66 = .ok (.ireturn, 1) := by decide +kernel
set_option maxRecDepth 20000 in
theorem ggX3_doMove_X3_shift : GoodIn wsX3_doMove wsX3_shift := goodIn_r _ [8, 3, 9, 10, 11, 12, 13, 14, 15, 16, 17, 18, 19, 20, 21, 22, 23, 24, 25, 26, 27, 28] (by decide +kernel) (by decide +kernel)
set_option maxRecDepth 20000 in
theorem gX3_doMove_X3_shift : GoodIn wsX3_doMove (wsV RX3 68 RX3 yX3_shift wsX3_shift) := goodIn_app (goodIn_of _ (by decide +kernel)) ggX3_doMove_X3_shift
theorem dX3_doMove_0 : decode cX3_doMove 0 = .ok (.iconst 0, 1) := by decide +kernel
theorem dX3_doMove_1 : decode cX3_doMove 1 = .ok (.istore_n 2, 1) := by decide +kernel
theorem dX3_doMove_2 : decode cX3_doMove 2 = .ok (.aload_n 0, 1) := by decide +kernel
theorem dX3_doMove_3 : decode cX3_doMove 3 = .ok (.iload_n 1, 1) := by decide +kernel
theorem dX3_doMove_4 : decode cX3_doMove 4 = .ok (.aload_n 0, 1) := by decide +kernel
theorem dX3_doMove_5 : decode cX3_doMove 5 = .ok (.getfield 13, 3) := by decide +kernel
theorem dX3_doMove_8 : decode cX3_doMove 8 = .ok (.aload_n 0, 1) := by decide +kernel
theorem dX3_doMove_9 : decode cX3_doMove 9 = .ok (.getfield 26, 3) := by decide +kernel
theorem dX3_doMove_12 : decode cX3_doMove 12 = .ok (.invokevirtual 68, 3) := by decide +kernel
theorem dX3_doMove_15 : decode cX3_doMove 15 = .ok (.iconst 0, 1) := by decide +kernel
theorem dX3_doMove_16 : decode cX3_doMove 16 = .ok (.istore_n 3, 1) := by decide +kernel
theorem dX3_doMove_17 : decode cX3_doMove 17 = .ok (.iload_n 3, 1) := by decide +kernel
theorem dX3_doMove_18 : decode cX3_doMove 18 = .ok (.aload_n 0, 1) := by decide +kernel
theorem dX3_doMove_19 : decode cX3_doMove 19 = .ok (.getfield 7, 3) := by decide +kernel
theorem dX3_doMove_22 : decode cX3_doMove 22 = .ok (.if_icmp .ge 32, 3) := by decide +kernel
theorem dX3_doMove_25 : decode cX3_doMove 25 = .ok (.iload_n 2, 1) := by decide +kernel
theorem dX3_doMove_26 : decode cX3_doMove 26 = .ok (.aload_n 0, 1) := by decide +kernel
theorem dX3_doMove_27 : decode cX3_doMove 27 = .ok (.getfield 26, 3) := by decide +kernel
theorem dX3_doMove_30 : decode cX3_doMove 30 = .ok (.iload_n 3, 1) := by decide +kernel
theorem dX3_doMove_31 : decode cX3_doMove 31 = .ok (.iaload, 1) := by decide +kernel
theorem dX3_doMove_32 : decode cX3_doMove 32 = .ok (.aload_n 0, 1) := by decide +kernel
theorem dX3_doMove_33 : decode cX3_doMove 33 = .ok (.getfield 13, 3) := by decide +kernel
theorem dX3_doMove_36 : decode cX3_doMove 36 = .ok (.iload_n 3, 1) := by decide +kernel
theorem dX3_doMove_37 : decode cX3_doMove 37 = .ok (.iaload, 1) := by decide +kernel
theorem dX3_doMove_38 : decode cX3_doMove 38 = .ok (.if_icmp .ne 7, 3) := by decide +kernel
theorem dX3_doMove_41 : decode cX3_doMove 41 = .ok (.iconst 0, 1) := by decide +kernel
theorem dX3_doMove_42 : decode cX3_doMove 42 = .ok (.goto 4, 3) := by decide +kernel
theorem dX3_doMove_45 : decode cX3_doMove 45 = .ok (.iconst 1, 1) := by decide +kernel
theorem dX3_doMove_46 : decode cX3_doMove 46 = .ok (.iadd, 1) := by decide +kernel
theorem dX3_doMove_47 : decode cX3_doMove 47 = .ok (.istore_n 2, 1) := by decide +kernel
theorem dX3_doMove_48 : decode cX3_doMove 48 = .ok (.iinc 3 1, 3) := by decide +kernel
theorem dX3_doMove_51 : decode cX3_doMove 51 = .ok (.goto (-34), 3) := by decide +kernel
theorem dX3_doMove_54 : decode cX3_doMove 54 = .ok (.iconst 0, 1) := by decide +kernel
theorem dX3_doMove_55 : decode cX3_doMove 55 = .ok (.istore_n 3, 1) := by decide +kernel
theorem dX3_doMove_56 : decode cX3_doMove 56 = .ok (.iload_n 3, 1) := by decide +kernel
theorem dX3_doMove_57 : decode cX3_doMove 57 = .ok (.aload_n 0, 1) := by decide +kernel
theorem dX3_doMove_58 : decode cX3_doMove 58 = .ok (.getfield 7, 3) := by decide +kernel
theorem dX3_doMove_61 : decode cX3_doMove 61 = .ok (.if_icmp .ge 21, 3) := by decide +kernel
theorem dX3_doMove_64 : decode cX3_doMove 64 = .ok (.aload_n 0, 1) := by decide +kernel
theorem dX3_doMove_65 : decode cX3_doMove 65 = .ok (.getfield 13, 3) := by decide +kernel
theorem dX3_doMove_68 : decode cX3_doMove 68 = .ok (.iload_n 3, 1) := by decide +kernel
theorem dX3_doMove_69 : decode cX3_doMove 69 = .ok (.aload_n 0, 1) := by decide +kernel
theorem dX3_doMove_70 : decode cX3_doMove 70 = .ok (.getfield 26, 3) := by decide +kernel
theorem dX3_doMove_73 : decode cX3_doMove 73 = .ok (.iload_n 3, 1) := by decide +kernel
theorem dX3_doMove_74 : decode cX3_doMove 74 = .ok (.iaload, 1) := by decide +kernel
theorem dX3_doMove_75 : decode cX3_doMove 75 = .ok (.iastore, 1) := by decide +kernel
theorem dX3_doMove_76 : decode cX3_doMove 76 = .ok (.iinc 3 1, 3) := by decide +kernel
theorem dX3_doMove_79 : decode cX3_doMove 79 = .ok (.goto (-23), 3) := by decide +kernel
theorem dX3_doMove_82 : decode cX3_doMove 82 = .ok (.iload_n 2, 1) := by decide +kernel
theorem dX3_doMove_83 : decode cX3_doMove 83 = .ok (.ireturn, 1) := by decide +kernel
set_option maxRecDepth 20000 in
theorem ggX3_make_X3_isMove : GoodIn wsX3_make wsX3_isMove := goodIn_r _ [7, 8, 9, 10, 6, 11, 27, 28, 29, 30, 31, 32, 33, 34, 35, 36, 37, 38, 39, 40, 41, 42, 43, 44, 45] (by decide +kernel) (by decide +kernel)
set_option maxRecDepth 20000 in
theorem gX3_make_X3_isMove : GoodIn wsX3_make (wsV RX3 106 RX3 yX3_isMove wsX3_isMove) := goodIn_app (goodIn_of _ (by decide +kernel)) ggX3_make_X3_isMove
set_option maxRecDepth 20000 in
theorem ggX3_make_X3_has : GoodIn wsX3_make wsX3_has := goodIn_r _ [14] (by decide +kernel) (by decide +kernel)
set_option maxRecDepth 20000 in
theorem gX3_make_X3_has : GoodIn wsX3_make (va_wsS RX3 60 yX3_has wsX3_has) := goodIn_app (goodIn_of _ (by decide +kernel)) ggX3_make_X3_has
set_option maxRecDepth 20000 in
theorem ggX3_make_X3_doMove : GoodIn wsX3_make wsX3_doMove := goodIn_r _ [18, 19, 20, 21, 22, 23, 24, 6, 25, 26, 27, 28, 29, 30, 31, 32, 33, 34, 35, 36, 37, 38, 39, 40, 41, 42, 43, 44, 45] (by decide +kernel) (by decide +kernel)
set_option maxRecDepth 20000 in
theorem gX3_make_X3_doMove : GoodIn wsX3_make (wsV RX3 109 RX3 yX3_doMove wsX3_doMove) := goodIn_app (goodIn_of _ (by decide +kernel)) ggX3_make_X3_doMove
theorem dX3_make_0 : decode cX3_make 0 = .ok (.aload_n 0, 1) := by decide +kernel
theorem dX3_make_1 : decode cX3_make 1 = .ok (.aload_n 0, 1) := by decide +kernel
theorem dX3_make_2 : decode cX3_make 2 = .ok (.iload_n 1, 1) := by decide +kernel
theorem dX3_make_3 : decode cX3_make 3 = .ok (.invokevirtual 106, 3) := by decide +kernel
theorem dX3_make_6 : decode cX3_make 6 = .ok (.ifCond .ne 7, 3) := by decide +kernel
theorem dX3_make_9 : decode cX3_make 9 = .ok (.iconst 1, 1) := by decide +kernel
theorem dX3_make_10 : decode cX3_make 10 = .ok (.goto 19, 3) := by decide +kernel
theorem dX3_make_13 : decode cX3_make 13 = .ok (.aload_n 0, 1) := by decide +kernel
theorem dX3_make_14 : decode cX3_make 14 = .ok (.getfield 96, 3) := by decide +kernel
theorem dX3_make_17 : decode cX3_make 17 = .ok (.iload_n 1, 1) := by decide +kernel
theorem dX3_make_18 : decode cX3_make 18 = .ok (.invokestatic 60, 3) := by decide +kernel
theorem dX3_make_21 : decode cX3_make 21 = .ok (.ifCond .eq 7, 3) := by decide +kernel
theorem dX3_make_24 : decode cX3_make 24 = .ok (.iconst 0, 1) := by decide +kernel
theorem dX3_make_25 : decode cX3_make 25 = .ok (.goto 4, 3) := by decide +kernel
theorem dX3_make_28 : decode cX3_make 28 = .ok (.iconst 2, 1) := by decide +kernel
theorem dX3_make_29 : decode cX3_make 29 = .ok (.putfield 46, 3) := by decide +kernel
theorem dX3_make_32 : decode cX3_make 32 = .ok (.aload_n 0, 1) := by decide +kernel
theorem dX3_make_33 : decode cX3_make 33 = .ok (.getfield 46, 3) := by decide +kernel
theorem dX3_make_36 : decode cX3_make 36 = .ok (.ifCond .le 7, 3) := by decide +kernel
theorem dX3_make_39 : decode cX3_make 39 = .ok (.iconst 0, 1) := by decide +kernel
theorem dX3_make_40 : decode cX3_make 40 = .ok (.goto 8, 3) := by decide +kernel
theorem dX3_make_43 : decode cX3_make 43 = .ok (.aload_n 0, 1) := by decide +kernel
theorem dX3_make_44 : decode cX3_make 44 = .ok (.iload_n 1, 1) := by decide +kernel
theorem dX3_make_45 : decode cX3_make 45 = .ok (.invokevirtual 109, 3) := by decide +kernel
theorem dX3_make_48 : decode cX3_make 48 = .ok (.ireturn, 1) := by decide +kernel
set_option maxRecDepth 20000 in
theorem ggX3_solve_X3_layFor : GoodIn wsX3_solve wsX3_layFor := goodIn_r _ [8, 9, 10, 11, 7, 12, 13, 3, 14, 15, 16, 17, 18, 19, 20, 21, 22, 23, 24, 25, 26, 27, 28, 29, 30, 31, 32, 33, 34, 35, 36, 37, 38, 39, 40, 41, 42, 43, 44, 45, 46, 47, 48, 49, 67, 68, 69, 70, 71, 72, 73, 74, 75, 76, 77, 78, 79, 80, 81, 82, 83, 84, 85] (by decide +kernel) (by decide +kernel)
set_option maxRecDepth 20000 in
theorem gX3_solve_X3_layFor : GoodIn wsX3_solve (wsV RX3 112 RX3 yX3_layFor wsX3_layFor) := goodIn_app (goodIn_of _ (by decide +kernel)) ggX3_solve_X3_layFor
set_option maxRecDepth 20000 in
theorem ggX3_solve_X3_present : GoodIn wsX3_solve wsX3_present := goodIn_r _ [53, 54, 46, 47, 48, 7, 49, 13, 67, 68, 69, 70, 71, 72, 73, 74, 75, 76, 77, 78, 79, 80, 81, 82, 83, 84, 85] (by decide +kernel) (by decide +kernel)
set_option maxRecDepth 20000 in
theorem gX3_solve_X3_present : GoodIn wsX3_solve (wsV RX3 115 RX3 yX3_present wsX3_present) := goodIn_app (goodIn_of _ (by decide +kernel)) ggX3_solve_X3_present
set_option maxRecDepth 20000 in
theorem ggX3_solve_X3_nearer : GoodIn wsX3_solve wsX3_nearer := goodIn_r _ [58, 29, 3, 35, 36, 7, 37, 59, 60, 61, 62, 28, 30, 31, 32, 33, 34, 13, 15, 16, 17, 18, 41, 42, 43, 44, 45, 46, 47, 48, 49, 67, 68, 69, 70, 71, 72, 73, 74, 75, 76, 77, 78, 79, 80, 81, 82, 83, 84, 85] (by decide +kernel) (by decide +kernel)
set_option maxRecDepth 20000 in
theorem gX3_solve_X3_nearer : GoodIn wsX3_solve (wsV RX3 119 RX3 yX3_nearer wsX3_nearer) := goodIn_app (goodIn_of _ (by decide +kernel)) ggX3_solve_X3_nearer
set_option maxRecDepth 20000 in
theorem ggX3_solve_X3_doMove : GoodIn wsX3_solve wsX3_doMove := goodIn_r _ [66, 54, 30, 13, 41, 42, 43, 7, 44, 45, 67, 68, 69, 70, 71, 72, 73, 74, 75, 76, 77, 78, 79, 80, 81, 82, 83, 84, 85] (by decide +kernel) (by decide +kernel)
set_option maxRecDepth 20000 in
theorem gX3_solve_X3_doMove : GoodIn wsX3_solve (wsV RX3 109 RX3 yX3_doMove wsX3_doMove) := goodIn_app (goodIn_of _ (by decide +kernel)) ggX3_solve_X3_doMove
theorem dX3_solve_0 : decode cX3_solve 0 = .ok (.aload_n 0, 1) := by decide +kernel
theorem dX3_solve_1 : decode cX3_solve 1 = .ok (.iconst 0, 1) := by decide +kernel
theorem dX3_solve_2 : decode cX3_solve 2 = .ok (.putfield 46, 3) := by decide +kernel
theorem dX3_solve_5 : decode cX3_solve 5 = .ok (.aload_n 0, 1) := by decide +kernel
theorem dX3_solve_6 : decode cX3_solve 6 = .ok (.aload_n 0, 1) := by decide +kernel
theorem dX3_solve_7 : decode cX3_solve 7 = .ok (.getfield 96, 3) := by decide +kernel
theorem dX3_solve_10 : decode cX3_solve 10 = .ok (.invokevirtual 112, 3) := by decide +kernel
theorem dX3_solve_13 : decode cX3_solve 13 = .ok (.aload_n 0, 1) := by decide +kernel
theorem dX3_solve_14 : decode cX3_solve 14 = .ok (.getfield 30, 3) := by decide +kernel
theorem dX3_solve_17 : decode cX3_solve 17 = .ok (.aload_n 0, 1) := by decide +kernel
theorem dX3_solve_18 : decode cX3_solve 18 = .ok (.invokevirtual 115, 3) := by decide +kernel
theorem dX3_solve_21 : decode cX3_solve 21 = .ok (.iaload, 1) := by decide +kernel
theorem dX3_solve_22 : decode cX3_solve 22 = .ok (.istore_n 1, 1) := by decide +kernel
theorem dX3_solve_23 : decode cX3_solve 23 = .ok (.iconst 0, 1) := by decide +kernel
theorem dX3_solve_24 : decode cX3_solve 24 = .ok (.istore_n 2, 1) := by decide +kernel
theorem dX3_solve_25 : decode cX3_solve 25 = .ok (.iload_n 2, 1) := by decide +kernel
theorem dX3_solve_26 : decode cX3_solve 26 = .ok (.iload_n 1, 1) := by decide +kernel
theorem dX3_solve_27 : decode cX3_solve 27 = .ok (.if_icmp .ge 26, 3) := by decide +kernel
theorem dX3_solve_30 : decode cX3_solve 30 = .ok (.aload_n 0, 1) := by decide +kernel
theorem dX3_solve_31 : decode cX3_solve 31 = .ok (.aload_n 0, 1) := by decide +kernel
theorem dX3_solve_32 : decode cX3_solve 32 = .ok (.aload_n 0, 1) := by decide +kernel
theorem dX3_solve_33 : decode cX3_solve 33 = .ok (.invokevirtual 115, 3) := by decide +kernel
theorem dX3_solve_36 : decode cX3_solve 36 = .ok (.aload_n 0, 1) := by decide +kernel
theorem dX3_solve_37 : decode cX3_solve 37 = .ok (.getfield 96, 3) := by decide +kernel
theorem dX3_solve_40 : decode cX3_solve 40 = .ok (.invokevirtual 119, 3) := by decide +kernel
theorem dX3_solve_43 : decode cX3_solve 43 = .ok (.invokevirtual 109, 3) := by decide +kernel
theorem dX3_solve_46 : decode cX3_solve 46 = .ok (.pop, 1) := by decide +kernel
theorem dX3_solve_47 : decode cX3_solve 47 = .ok (.iinc 2 1, 3) := by decide +kernel
theorem dX3_solve_50 : decode cX3_solve 50 = .ok (.goto (-25), 3) := by decide +kernel
theorem dX3_solve_53 : decode cX3_solve 53 = .ok (.iload_n 1, 1) := by decide +kernel
theorem dX3_solve_54 : decode cX3_solve 54 = .ok (.ireturn, 1) := by decide +kernel
set_option maxRecDepth 20000 in
theorem ggX3_append_X3_within : GoodIn wsX3_append wsX3_within := goodIn_r _ [7] (by decide +kernel) (by decide +kernel)
set_option maxRecDepth 20000 in
theorem gX3_append_X3_within : GoodIn wsX3_append (va_wsS RX3 49 yX3_within wsX3_within) := goodIn_app (goodIn_of _ (by decide +kernel)) ggX3_append_X3_within
theorem dX3_append_0 : decode cX3_append 0 = .ok (.aload_n 0, 1) := by decide +kernel
theorem dX3_append_1 : decode cX3_append 1 = .ok (.iload_n 1, 1) := by decide +kernel
theorem dX3_append_2 : decode cX3_append 2 = .ok (.bipush 32, 2) := by decide +kernel
theorem dX3_append_4 : decode cX3_append 4 = .ok (.bipush 126, 2) := by decide +kernel
theorem dX3_append_6 : decode cX3_append 6 = .ok (.invokestatic 49, 3) := by decide +kernel
theorem dX3_append_9 : decode cX3_append 9 = .ok (.ifCond .ne 7, 3) := by decide +kernel
theorem dX3_append_12 : decode cX3_append 12 = .ok (.iconst 1, 1) := by decide +kernel
theorem dX3_append_13 : decode cX3_append 13 = .ok (.goto 17, 3) := by decide +kernel
theorem dX3_append_16 : decode cX3_append 16 = .ok (.aload_n 0, 1) := by decide +kernel
theorem dX3_append_17 : decode cX3_append 17 = .ok (.getfield 122, 3) := by decide +kernel
theorem dX3_append_20 : decode cX3_append 20 = .ok (.bipush 60, 2) := by decide +kernel
theorem dX3_append_22 : decode cX3_append 22 = .ok (.if_icmp .ne 7, 3) := by decide +kernel
theorem dX3_append_25 : decode cX3_append 25 = .ok (.iconst 2, 1) := by decide +kernel
theorem dX3_append_26 : decode cX3_append 26 = .ok (.goto 4, 3) := by decide +kernel
theorem dX3_append_29 : decode cX3_append 29 = .ok (.iconst 0, 1) := by decide +kernel
theorem dX3_append_30 : decode cX3_append 30 = .ok (.putfield 46, 3) := by decide +kernel
theorem dX3_append_33 : decode cX3_append 33 = .ok (.aload_n 0, 1) := by decide +kernel
theorem dX3_append_34 : decode cX3_append 34 = .ok (.getfield 46, 3) := by decide +kernel
theorem dX3_append_37 : decode cX3_append 37 = .ok (.ifCond .le 5, 3) := by decide +kernel
theorem dX3_append_40 : decode cX3_append 40 = .ok (.iconst 0, 1) := by decide +kernel
theorem dX3_append_41 : decode cX3_append 41 = .ok (.ireturn, 1) := by decide +kernel
theorem dX3_append_42 : decode cX3_append 42 = .ok (.aload_n 0, 1) := by decide +kernel
theorem dX3_append_43 : decode cX3_append 43 = .ok (.getfield 20, 3) := by decide +kernel
theorem dX3_append_46 : decode cX3_append 46 = .ok (.aload_n 0, 1) := by decide +kernel
theorem dX3_append_47 : decode cX3_append 47 = .ok (.getfield 122, 3) := by decide +kernel
theorem dX3_append_50 : decode cX3_append 50 = .ok (.iload_n 1, 1) := by decide +kernel
theorem dX3_append_51 : decode cX3_append 51 = .ok (.iastore, 1) := by decide +kernel
theorem dX3_append_52 : decode cX3_append 52 = .ok (.aload_n 0, 1) := by decide +kernel
theorem dX3_append_53 : decode cX3_append 53 = .ok (.dup, 1) := by decide +kernel
theorem dX3_append_54 : decode cX3_append 54 = .ok (.getfield 122, 3) := by decide +kernel
theorem dX3_append_57 : decode cX3_append 57 = .ok (.iconst 1, 1) := by decide +kernel
theorem dX3_append_58 : decode cX3_append 58 = .ok (.iadd, 1) := by decide +kernel
theorem dX3_append_59 : decode cX3_append 59 = .ok (.putfield 122, 3) := by decide +kernel
theorem dX3_append_62 : decode cX3_append 62 = .ok (.aload_n 0, 1) := by decide +kernel
theorem dX3_append_63 : decode cX3_append 63 = .ok (.getfield 122, 3) := by decide +kernel
theorem dX3_append_66 : decode cX3_append 66 = .ok (.ireturn, 1) := by decide +kernel
theorem dX3_clearInput_0 : decode cX3_clearInput 0 = .ok (.aload_n 0, 1) := by decide +kernel
theorem dX3_clearInput_1 : decode cX3_clearInput 1 = .ok (.iconst 0, 1) := by decide +kernel
theorem dX3_clearInput_2 : decode cX3_clearInput 2 = .ok (.putfield 46, 3) := by decide +kernel
theorem dX3_clearInput_5 : decode cX3_clearInput 5 = .ok (.aload_n 0, 1) := by decide +kernel
theorem dX3_clearInput_6 : decode cX3_clearInput 6 = .ok (.getfield 122, 3) := by decide +kernel
theorem dX3_clearInput_9 : decode cX3_clearInput 9 = .ok (.istore_n 1, 1) := by decide +kernel
theorem dX3_clearInput_10 : decode cX3_clearInput 10 = .ok (.aload_n 0, 1) := by decide +kernel
theorem dX3_clearInput_11 : decode cX3_clearInput 11 = .ok (.iconst 0, 1) := by decide +kernel
theorem dX3_clearInput_12 : decode cX3_clearInput 12 = .ok (.putfield 122, 3) := by decide +kernel
theorem dX3_clearInput_15 : decode cX3_clearInput 15 = .ok (.iload_n 1, 1) := by decide +kernel
theorem dX3_clearInput_16 : decode cX3_clearInput 16 = .ok (.ireturn, 1) := by decide +kernel
set_option maxRecDepth 20000 in
theorem ggX3_moveBy_X3_within : GoodIn wsX3_moveBy wsX3_within := goodIn_r _ [4] (by decide +kernel) (by decide +kernel)
set_option maxRecDepth 20000 in
theorem gX3_moveBy_X3_within : GoodIn wsX3_moveBy (va_wsS RX3 49 yX3_within wsX3_within) := goodIn_app (goodIn_of _ (by decide +kernel)) ggX3_moveBy_X3_within
set_option maxRecDepth 20000 in
theorem ggX3_moveBy_X3_isMove : GoodIn wsX3_moveBy wsX3_isMove := goodIn_r _ [8, 9, 1, 2, 3, 4, 10, 11, 12, 13, 14, 15, 16, 17, 18, 19, 20, 21, 22, 23, 24, 25, 26, 27, 28] (by decide +kernel) (by decide +kernel)
set_option maxRecDepth 20000 in
theorem gX3_moveBy_X3_isMove : GoodIn wsX3_moveBy (wsV RX3 106 RX3 yX3_isMove wsX3_isMove) := goodIn_app (goodIn_of _ (by decide +kernel)) ggX3_moveBy_X3_isMove
theorem dX3_moveBy_0 : decode cX3_moveBy 0 = .ok (.iload_n 1, 1) := by decide +kernel
theorem dX3_moveBy_1 : decode cX3_moveBy 1 = .ok (.bipush 97, 2) := by decide +kernel
theorem dX3_moveBy_3 : decode cX3_moveBy 3 = .ok (.bipush 122, 2) := by decide +kernel
theorem dX3_moveBy_5 : decode cX3_moveBy 5 = .ok (.invokestatic 49, 3) := by decide +kernel
theorem dX3_moveBy_8 : decode cX3_moveBy 8 = .ok (.ifCond .eq 12, 3) := by decide +kernel
theorem dX3_moveBy_11 : decode cX3_moveBy 11 = .ok (.iconst 2, 1) := by decide +kernel
theorem dX3_moveBy_12 : decode cX3_moveBy 12 = .ok (.iload_n 1, 1) := by decide +kernel
theorem dX3_moveBy_13 : decode cX3_moveBy 13 = .ok (.bipush 97, 2) := by decide +kernel
theorem dX3_moveBy_15 : decode cX3_moveBy 15 = .ok (.isub, 1) := by decide +kernel
theorem dX3_moveBy_16 : decode cX3_moveBy 16 = .ok (.imul, 1) := by decide +kernel
theorem dX3_moveBy_17 : decode cX3_moveBy 17 = .ok (.goto 26, 3) := by decide +kernel
theorem dX3_moveBy_20 : decode cX3_moveBy 20 = .ok (.iload_n 1, 1) := by decide +kernel
theorem dX3_moveBy_21 : decode cX3_moveBy 21 = .ok (.bipush 65, 2) := by decide +kernel
theorem dX3_moveBy_23 : decode cX3_moveBy 23 = .ok (.bipush 90, 2) := by decide +kernel
theorem dX3_moveBy_25 : decode cX3_moveBy 25 = .ok (.invokestatic 49, 3) := by decide +kernel
theorem dX3_moveBy_28 : decode cX3_moveBy 28 = .ok (.ifCond .eq 14, 3) := by decide +kernel
theorem dX3_moveBy_31 : decode cX3_moveBy 31 = .ok (.iconst 2, 1) := by decide +kernel
theorem dX3_moveBy_32 : decode cX3_moveBy 32 = .ok (.iload_n 1, 1) := by decide +kernel
theorem dX3_moveBy_33 : decode cX3_moveBy 33 = .ok (.bipush 65, 2) := by decide +kernel
theorem dX3_moveBy_35 : decode cX3_moveBy 35 = .ok (.isub, 1) := by decide +kernel
theorem dX3_moveBy_36 : decode cX3_moveBy 36 = .ok (.imul, 1) := by decide +kernel
theorem dX3_moveBy_37 : decode cX3_moveBy 37 = .ok (.iconst 1, 1) := by decide +kernel
theorem dX3_moveBy_38 : decode cX3_moveBy 38 = .ok (.iadd, 1) := by decide +kernel
theorem dX3_moveBy_39 : decode cX3_moveBy 39 = .ok (.goto 4, 3) := by decide +kernel
theorem dX3_moveBy_42 : decode cX3_moveBy 42 = .ok (.iconst (-1), 1) := by decide +kernel
theorem dX3_moveBy_43 : decode cX3_moveBy 43 = .ok (.istore_n 2, 1) := by decide +kernel
theorem dX3_moveBy_44 : decode cX3_moveBy 44 = .ok (.aload_n 0, 1) := by decide +kernel
theorem dX3_moveBy_45 : decode cX3_moveBy 45 = .ok (.iload_n 2, 1) := by decide +kernel
theorem dX3_moveBy_46 : decode cX3_moveBy 46 = .ok (.invokevirtual 106, 3) := by decide +kernel
theorem dX3_moveBy_49 : decode cX3_moveBy 49 = .ok (.ifCond .eq 7, 3) := by decide +kernel
theorem dX3_moveBy_52 : decode cX3_moveBy 52 = .ok (.iload_n 2, 1) := by decide +kernel
theorem dX3_moveBy_53 : decode cX3_moveBy 53 = .ok (.goto 4, 3) := by decide +kernel
theorem dX3_moveBy_56 : decode cX3_moveBy 56 = .ok (.iconst (-1), 1) := by decide +kernel
theorem dX3_moveBy_57 : decode cX3_moveBy 57 = .ok (.ireturn, 1) := by decide +kernel
set_option maxRecDepth 20000 in
theorem ggX3_wordLength_X3_moveBy : GoodIn wsX3_wordLength wsX3_moveBy := goodIn_r _ [7, 8, 9, 6, 10, 11, 12, 13, 14, 15, 16, 17, 18, 19, 20, 21, 22, 23, 24, 25, 26, 27, 28, 29, 30, 31, 32, 33, 34] (by decide +kernel) (by decide +kernel)
set_option maxRecDepth 20000 in
theorem gX3_wordLength_X3_moveBy : GoodIn wsX3_wordLength (wsV RX3 125 RX3 yX3_moveBy wsX3_moveBy) := goodIn_app (goodIn_of _ (by decide +kernel)) ggX3_wordLength_X3_moveBy
theorem dX3_wordLength_0 : decode cX3_wordLength 0 = .ok (.iconst 0, 1) := by decide +kernel
theorem dX3_wordLength_1 : decode cX3_wordLength 1 = .ok (.istore_n 1, 1) := by decide +kernel
theorem dX3_wordLength_2 : decode cX3_wordLength 2 = .ok (.iload_n 1, 1) := by decide +kernel
theorem dX3_wordLength_3 : decode cX3_wordLength 3 = .ok (.aload_n 0, 1) := by decide +kernel
theorem dX3_wordLength_4 : decode cX3_wordLength 4 = .ok (.getfield 122, 3) := by decide +kernel
theorem dX3_wordLength_7 : decode cX3_wordLength 7 = .ok (.if_icmp .ge 23, 3) := by decide +kernel
theorem dX3_wordLength_10 : decode cX3_wordLength 10 = .ok (.aload_n 0, 1) := by decide +kernel
theorem dX3_wordLength_11 : decode cX3_wordLength 11 = .ok (.aload_n 0, 1) := by decide +kernel
theorem dX3_wordLength_12 : decode cX3_wordLength 12 = .ok (.getfield 20, 3) := by decide +kernel
theorem dX3_wordLength_15 : decode cX3_wordLength 15 = .ok (.iload_n 1, 1) := by decide +kernel
theorem dX3_wordLength_16 : decode cX3_wordLength 16 = .ok (.iaload, 1) := by decide +kernel
theorem dX3_wordLength_17 : decode cX3_wordLength 17 = .ok (.invokevirtual 125, 3) := by decide +kernel
theorem dX3_wordLength_20 : decode cX3_wordLength 20 = .ok (.iconst (-1), 1) := by decide +kernel
theorem dX3_wordLength_21 : decode cX3_wordLength 21 = .ok (.if_icmp .eq 9, 3) := by decide +kernel
theorem dX3_wordLength_24 : decode cX3_wordLength 24 = .ok (.iinc 1 1, 3) := by decide +kernel
theorem dX3_wordLength_27 : decode cX3_wordLength 27 = .ok (.goto (-25), 3) := by decide +kernel
theorem dX3_wordLength_30 : decode cX3_wordLength 30 = .ok (.iload_n 1, 1) := by decide +kernel
theorem dX3_wordLength_31 : decode cX3_wordLength 31 = .ok (.ireturn, 1) := by decide +kernel
set_option maxRecDepth 20000 in
theorem ggX3_isWord_X3_wordLength : GoodIn wsX3_isWord wsX3_wordLength := goodIn_r _ [6, 1, 7, 8, 9, 10, 5, 11, 12, 13, 14, 15, 16, 17, 18, 19, 20, 21, 22, 23, 24, 25, 26, 27, 28, 29, 30, 31, 32, 33, 34, 35, 36, 37, 38] (by decide +kernel) (by decide +kernel)
set_option maxRecDepth 20000 in
theorem gX3_isWord_X3_wordLength : GoodIn wsX3_isWord (wsV RX3 128 RX3 yX3_wordLength wsX3_wordLength) := goodIn_app (goodIn_of _ (by decide +kernel)) ggX3_isWord_X3_wordLength
theorem dX3_isWord_0 : decode cX3_isWord 0 = .ok (.aload_n 0, 1) := by decide +kernel
theorem dX3_isWord_1 : decode cX3_isWord 1 = .ok (.getfield 122, 3) := by decide +kernel
theorem dX3_isWord_4 : decode cX3_isWord 4 = .ok (.ifCond .le 18, 3) := by decide +kernel
theorem dX3_isWord_7 : decode cX3_isWord 7 = .ok (.aload_n 0, 1) := by decide +kernel
theorem dX3_isWord_8 : decode cX3_isWord 8 = .ok (.invokevirtual 128, 3) := by decide +kernel
theorem dX3_isWord_11 : decode cX3_isWord 11 = .ok (.aload_n 0, 1) := by decide +kernel
theorem dX3_isWord_12 : decode cX3_isWord 12 = .ok (.getfield 122, 3) := by decide +kernel
theorem dX3_isWord_15 : decode cX3_isWord 15 = .ok (.if_icmp .ne 7, 3) := by decide +kernel
theorem dX3_isWord_18 : decode cX3_isWord 18 = .ok (.iconst 1, 1) := by decide +kernel
theorem dX3_isWord_19 : decode cX3_isWord 19 = .ok (.goto 4, 3) := by decide +kernel
theorem dX3_isWord_22 : decode cX3_isWord 22 = .ok (.iconst 0, 1) := by decide +kernel
theorem dX3_isWord_23 : decode cX3_isWord 23 = .ok (.ireturn, 1) := by decide +kernel
set_option maxRecDepth 20000 in
theorem ggX3_takes_X3_within : GoodIn wsX3_takes wsX3_within := goodIn_r _ [9] (by decide +kernel) (by decide +kernel)
set_option maxRecDepth 20000 in
theorem gX3_takes_X3_within : GoodIn wsX3_takes (va_wsS RX3 49 yX3_within wsX3_within) := goodIn_app (goodIn_of _ (by decide +kernel)) ggX3_takes_X3_within
set_option maxRecDepth 20000 in
theorem ggX3_takes_X3_has : GoodIn wsX3_takes wsX3_has := goodIn_r _ [12] (by decide +kernel) (by decide +kernel)
set_option maxRecDepth 20000 in
theorem gX3_takes_X3_has : GoodIn wsX3_takes (va_wsS RX3 60 yX3_has wsX3_has) := goodIn_app (goodIn_of _ (by decide +kernel)) ggX3_takes_X3_has
theorem dX3_takes_0 : decode cX3_takes 0 = .ok (.aload_n 0, 1) := by decide +kernel
theorem dX3_takes_1 : decode cX3_takes 1 = .ok (.getfield 131, 3) := by decide +kernel
theorem dX3_takes_4 : decode cX3_takes 4 = .ok (.aload_n 0, 1) := by decide +kernel
theorem dX3_takes_5 : decode cX3_takes 5 = .ok (.getfield 7, 3) := by decide +kernel
theorem dX3_takes_8 : decode cX3_takes 8 = .ok (.if_icmp .ne 63, 3) := by decide +kernel
theorem dX3_takes_11 : decode cX3_takes 11 = .ok (.iload_n 1, 1) := by decide +kernel
theorem dX3_takes_12 : decode cX3_takes 12 = .ok (.bipush 59, 2) := by decide +kernel
theorem dX3_takes_14 : decode cX3_takes 14 = .ok (.if_icmp .ne 21, 3) := by decide +kernel
theorem dX3_takes_17 : decode cX3_takes 17 = .ok (.aload_n 0, 1) := by decide +kernel
theorem dX3_takes_18 : decode cX3_takes 18 = .ok (.getfield 53, 3) := by decide +kernel
theorem dX3_takes_21 : decode cX3_takes 21 = .ok (.aload_n 0, 1) := by decide +kernel
theorem dX3_takes_22 : decode cX3_takes 22 = .ok (.getfield 134, 3) := by decide +kernel
theorem dX3_takes_25 : decode cX3_takes 25 = .ok (.iadd, 1) := by decide +kernel
theorem dX3_takes_26 : decode cX3_takes 26 = .ok (.bipush 6, 2) := by decide +kernel
theorem dX3_takes_28 : decode cX3_takes 28 = .ok (.if_icmp .ge 7, 3) := by decide +kernel
theorem dX3_takes_31 : decode cX3_takes 31 = .ok (.iconst 1, 1) := by decide +kernel
theorem dX3_takes_32 : decode cX3_takes 32 = .ok (.goto 4, 3) := by decide +kernel
theorem dX3_takes_35 : decode cX3_takes 35 = .ok (.iconst 0, 1) := by decide +kernel
theorem dX3_takes_36 : decode cX3_takes 36 = .ok (.istore_n 2, 1) := by decide +kernel
theorem dX3_takes_37 : decode cX3_takes 37 = .ok (.aload_n 0, 1) := by decide +kernel
theorem dX3_takes_38 : decode cX3_takes 38 = .ok (.iload_n 2, 1) := by decide +kernel
theorem dX3_takes_39 : decode cX3_takes 39 = .ok (.ifCond .eq 7, 3) := by decide +kernel
theorem dX3_takes_42 : decode cX3_takes 42 = .ok (.iconst 0, 1) := by decide +kernel
theorem dX3_takes_43 : decode cX3_takes 43 = .ok (.goto 7, 3) := by decide +kernel
theorem dX3_takes_46 : decode cX3_takes 46 = .ok (.aload_n 0, 1) := by decide +kernel
theorem dX3_takes_47 : decode cX3_takes 47 = .ok (.getfield 131, 3) := by decide +kernel
theorem dX3_takes_50 : decode cX3_takes 50 = .ok (.putfield 131, 3) := by decide +kernel
theorem dX3_takes_53 : decode cX3_takes 53 = .ok (.aload_n 0, 1) := by decide +kernel
theorem dX3_takes_54 : decode cX3_takes 54 = .ok (.iload_n 2, 1) := by decide +kernel
theorem dX3_takes_55 : decode cX3_takes 55 = .ok (.ifCond .eq 7, 3) := by decide +kernel
theorem dX3_takes_58 : decode cX3_takes 58 = .ok (.iconst 0, 1) := by decide +kernel
theorem dX3_takes_59 : decode cX3_takes 59 = .ok (.goto 7, 3) := by decide +kernel
theorem dX3_takes_62 : decode cX3_takes 62 = .ok (.aload_n 0, 1) := by decide +kernel
theorem dX3_takes_63 : decode cX3_takes 63 = .ok (.getfield 136, 3) := by decide +kernel
theorem dX3_takes_66 : decode cX3_takes 66 = .ok (.putfield 136, 3) := by decide +kernel
theorem dX3_takes_69 : decode cX3_takes 69 = .ok (.iload_n 2, 1) := by decide +kernel
theorem dX3_takes_70 : decode cX3_takes 70 = .ok (.ireturn, 1) := by decide +kernel
theorem dX3_takes_71 : decode cX3_takes 71 = .ok (.aload_n 0, 1) := by decide +kernel
theorem dX3_takes_72 : decode cX3_takes 72 = .ok (.getfield 53, 3) := by decide +kernel
theorem dX3_takes_75 : decode cX3_takes 75 = .ok (.aload_n 0, 1) := by decide +kernel
theorem dX3_takes_76 : decode cX3_takes 76 = .ok (.getfield 134, 3) := by decide +kernel
theorem dX3_takes_79 : decode cX3_takes 79 = .ok (.iadd, 1) := by decide +kernel
theorem dX3_takes_80 : decode cX3_takes 80 = .ok (.bipush 6, 2) := by decide +kernel
theorem dX3_takes_82 : decode cX3_takes 82 = .ok (.if_icmp .ge 39, 3) := by decide +kernel
theorem dX3_takes_85 : decode cX3_takes 85 = .ok (.iload_n 1, 1) := by decide +kernel
theorem dX3_takes_86 : decode cX3_takes 86 = .ok (.bipush 48, 2) := by decide +kernel
theorem dX3_takes_88 : decode cX3_takes 88 = .ok (.bipush 48, 2) := by decide +kernel
theorem dX3_takes_90 : decode cX3_takes 90 = .ok (.aload_n 0, 1) := by decide +kernel
theorem dX3_takes_91 : decode cX3_takes 91 = .ok (.getfield 7, 3) := by decide +kernel
theorem dX3_takes_94 : decode cX3_takes 94 = .ok (.iadd, 1) := by decide +kernel
theorem dX3_takes_95 : decode cX3_takes 95 = .ok (.iconst 1, 1) := by decide +kernel
theorem dX3_takes_96 : decode cX3_takes 96 = .ok (.isub, 1) := by decide +kernel
theorem dX3_takes_97 : decode cX3_takes 97 = .ok (.invokestatic 49, 3) := by decide +kernel
theorem dX3_takes_100 : decode cX3_takes 100 = .ok (.ifCond .eq 21, 3) := by decide +kernel
theorem dX3_takes_103 : decode cX3_takes 103 = .ok (.aload_n 0, 1) := by decide +kernel
theorem dX3_takes_104 : decode cX3_takes 104 = .ok (.getfield 136, 3) := by decide +kernel
theorem dX3_takes_107 : decode cX3_takes 107 = .ok (.iload_n 1, 1) := by decide +kernel
theorem dX3_takes_108 : decode cX3_takes 108 = .ok (.bipush 48, 2) := by decide +kernel
theorem dX3_takes_110 : decode cX3_takes 110 = .ok (.isub, 1) := by decide +kernel
theorem dX3_takes_111 : decode cX3_takes 111 = .ok (.invokestatic 60, 3) := by decide +kernel
theorem dX3_takes_114 : decode cX3_takes 114 = .ok (.ifCond .ne 7, 3) := by decide +kernel
theorem dX3_takes_117 : decode cX3_takes 117 = .ok (.iconst 1, 1) := by decide +kernel
theorem dX3_takes_118 : decode cX3_takes 118 = .ok (.goto 4, 3) := by decide +kernel
theorem dX3_takes_121 : decode cX3_takes 121 = .ok (.iconst 0, 1) := by decide +kernel
theorem dX3_takes_122 : decode cX3_takes 122 = .ok (.istore_n 2, 1) := by decide +kernel
theorem dX3_takes_123 : decode cX3_takes 123 = .ok (.iload_n 2, 1) := by decide +kernel
theorem dX3_takes_124 : decode cX3_takes 124 = .ok (.ifCond .eq 53, 3) := by decide +kernel
theorem dX3_takes_127 : decode cX3_takes 127 = .ok (.aload_n 0, 1) := by decide +kernel
theorem dX3_takes_128 : decode cX3_takes 128 = .ok (.dup, 1) := by decide +kernel
theorem dX3_takes_129 : decode cX3_takes 129 = .ok (.getfield 136, 3) := by decide +kernel
theorem dX3_takes_132 : decode cX3_takes 132 = .ok (.iconst 1, 1) := by decide +kernel
theorem dX3_takes_133 : decode cX3_takes 133 = .ok (.iload_n 1, 1) := by decide +kernel
theorem dX3_takes_134 : decode cX3_takes 134 = .ok (.bipush 48, 2) := by decide +kernel
theorem dX3_takes_136 : decode cX3_takes 136 = .ok (.isub, 1) := by decide +kernel
theorem dX3_takes_137 : decode cX3_takes 137 = .ok (.ishl, 1) := by decide +kernel
theorem dX3_takes_138 : decode cX3_takes 138 = .ok (.ior, 1) := by decide +kernel
theorem dX3_takes_139 : decode cX3_takes 139 = .ok (.putfield 136, 3) := by decide +kernel
theorem dX3_takes_142 : decode cX3_takes 142 = .ok (.aload_n 0, 1) := by decide +kernel
theorem dX3_takes_143 : decode cX3_takes 143 = .ok (.dup, 1) := by decide +kernel
theorem dX3_takes_144 : decode cX3_takes 144 = .ok (.getfield 131, 3) := by decide +kernel
theorem dX3_takes_147 : decode cX3_takes 147 = .ok (.iconst 1, 1) := by decide +kernel
theorem dX3_takes_148 : decode cX3_takes 148 = .ok (.iadd, 1) := by decide +kernel
theorem dX3_takes_149 : decode cX3_takes 149 = .ok (.putfield 131, 3) := by decide +kernel
theorem dX3_takes_152 : decode cX3_takes 152 = .ok (.aload_n 0, 1) := by decide +kernel
theorem dX3_takes_153 : decode cX3_takes 153 = .ok (.dup, 1) := by decide +kernel
theorem dX3_takes_154 : decode cX3_takes 154 = .ok (.getfield 134, 3) := by decide +kernel
theorem dX3_takes_157 : decode cX3_takes 157 = .ok (.aload_n 0, 1) := by decide +kernel
theorem dX3_takes_158 : decode cX3_takes 158 = .ok (.getfield 131, 3) := by decide +kernel
theorem dX3_takes_161 : decode cX3_takes 161 = .ok (.aload_n 0, 1) := by decide +kernel
theorem dX3_takes_162 : decode cX3_takes 162 = .ok (.getfield 7, 3) := by decide +kernel
theorem dX3_takes_165 : decode cX3_takes 165 = .ok (.if_icmp .ne 7, 3) := by decide +kernel
theorem dX3_takes_168 : decode cX3_takes 168 = .ok (.iconst 1, 1) := by decide +kernel
theorem dX3_takes_169 : decode cX3_takes 169 = .ok (.goto 4, 3) := by decide +kernel
theorem dX3_takes_172 : decode cX3_takes 172 = .ok (.iconst 0, 1) := by decide +kernel
theorem dX3_takes_173 : decode cX3_takes 173 = .ok (.iadd, 1) := by decide +kernel
theorem dX3_takes_174 : decode cX3_takes 174 = .ok (.putfield 134, 3) := by decide +kernel
theorem dX3_takes_177 : decode cX3_takes 177 = .ok (.iload_n 2, 1) := by decide +kernel
theorem dX3_takes_178 : decode cX3_takes 178 = .ok (.ireturn, 1) := by decide +kernel
set_option maxRecDepth 20000 in
theorem ggX3_turnsLength_X3_takes : GoodIn wsX3_turnsLength wsX3_takes := goodIn_r _ [10, 3, 11, 12, 1, 2, 13, 14, 9, 15, 16, 17, 18, 19, 20, 21, 22, 23, 24, 25, 26, 27, 28, 29, 30, 31, 32, 33, 34, 35, 36, 37] (by decide +kernel) (by decide +kernel)
set_option maxRecDepth 20000 in
theorem gX3_turnsLength_X3_takes : GoodIn wsX3_turnsLength (wsV RX3 139 RX3 yX3_takes wsX3_takes) := goodIn_app (goodIn_of _ (by decide +kernel)) ggX3_turnsLength_X3_takes
theorem dX3_turnsLength_0 : decode cX3_turnsLength 0 = .ok (.aload_n 0, 1) := by decide +kernel
theorem dX3_turnsLength_1 : decode cX3_turnsLength 1 = .ok (.iconst 0, 1) := by decide +kernel
theorem dX3_turnsLength_2 : decode cX3_turnsLength 2 = .ok (.putfield 134, 3) := by decide +kernel
theorem dX3_turnsLength_5 : decode cX3_turnsLength 5 = .ok (.aload_n 0, 1) := by decide +kernel
theorem dX3_turnsLength_6 : decode cX3_turnsLength 6 = .ok (.iconst 0, 1) := by decide +kernel
theorem dX3_turnsLength_7 : decode cX3_turnsLength 7 = .ok (.putfield 136, 3) := by decide +kernel
theorem dX3_turnsLength_10 : decode cX3_turnsLength 10 = .ok (.aload_n 0, 1) := by decide +kernel
theorem dX3_turnsLength_11 : decode cX3_turnsLength 11 = .ok (.iconst 0, 1) := by decide +kernel
theorem dX3_turnsLength_12 : decode cX3_turnsLength 12 = .ok (.putfield 131, 3) := by decide +kernel
theorem dX3_turnsLength_15 : decode cX3_turnsLength 15 = .ok (.iconst 0, 1) := by decide +kernel
theorem dX3_turnsLength_16 : decode cX3_turnsLength 16 = .ok (.istore_n 1, 1) := by decide +kernel
theorem dX3_turnsLength_17 : decode cX3_turnsLength 17 = .ok (.iload_n 1, 1) := by decide +kernel
theorem dX3_turnsLength_18 : decode cX3_turnsLength 18 = .ok (.aload_n 0, 1) := by decide +kernel
theorem dX3_turnsLength_19 : decode cX3_turnsLength 19 = .ok (.getfield 122, 3) := by decide +kernel
theorem dX3_turnsLength_22 : decode cX3_turnsLength 22 = .ok (.if_icmp .ge 22, 3) := by decide +kernel
theorem dX3_turnsLength_25 : decode cX3_turnsLength 25 = .ok (.aload_n 0, 1) := by decide +kernel
theorem dX3_turnsLength_26 : decode cX3_turnsLength 26 = .ok (.aload_n 0, 1) := by decide +kernel
theorem dX3_turnsLength_27 : decode cX3_turnsLength 27 = .ok (.getfield 20, 3) := by decide +kernel
theorem dX3_turnsLength_30 : decode cX3_turnsLength 30 = .ok (.iload_n 1, 1) := by decide +kernel
theorem dX3_turnsLength_31 : decode cX3_turnsLength 31 = .ok (.iaload, 1) := by decide +kernel
theorem dX3_turnsLength_32 : decode cX3_turnsLength 32 = .ok (.invokevirtual 139, 3) := by decide +kernel
theorem dX3_turnsLength_35 : decode cX3_turnsLength 35 = .ok (.ifCond .eq 9, 3) := by decide +kernel
theorem dX3_turnsLength_38 : decode cX3_turnsLength 38 = .ok (.iinc 1 1, 3) := by decide +kernel
theorem dX3_turnsLength_41 : decode cX3_turnsLength 41 = .ok (.goto (-24), 3) := by decide +kernel
theorem dX3_turnsLength_44 : decode cX3_turnsLength 44 = .ok (.iload_n 1, 1) := by decide +kernel
theorem dX3_turnsLength_45 : decode cX3_turnsLength 45 = .ok (.ireturn, 1) := by decide +kernel
set_option maxRecDepth 20000 in
theorem ggX3_firstError_X3_wordLength : GoodIn wsX3_firstError wsX3_wordLength := goodIn_r _ [6, 7, 8, 9, 10, 11, 5, 12, 13, 14, 15, 16, 17, 18, 19, 20, 36, 37, 38, 39, 40, 41, 42, 43, 44, 45, 46, 47, 48, 49, 50, 51, 52, 53, 54] (by decide +kernel) (by decide +kernel)
set_option maxRecDepth 20000 in
theorem gX3_firstError_X3_wordLength : GoodIn wsX3_firstError (wsV RX3 128 RX3 yX3_wordLength wsX3_wordLength) := goodIn_app (goodIn_of _ (by decide +kernel)) ggX3_firstError_X3_wordLength
set_option maxRecDepth 20000 in
theorem ggX3_firstError_X3_turnsLength : GoodIn wsX3_firstError wsX3_turnsLength := goodIn_r _ [24, 25, 26, 27, 7, 8, 28, 29, 30, 5, 31, 32, 20, 13, 14, 15, 33, 34, 35, 36, 37, 38, 39, 40, 41, 42, 43, 44, 45, 46, 47, 48, 49, 50, 51, 52, 53, 54] (by decide +kernel) (by decide +kernel)
set_option maxRecDepth 20000 in
theorem gX3_firstError_X3_turnsLength : GoodIn wsX3_firstError (wsV RX3 142 RX3 yX3_turnsLength wsX3_turnsLength) := goodIn_app (goodIn_of _ (by decide +kernel)) ggX3_firstError_X3_turnsLength
theorem dX3_firstError_0 : decode cX3_firstError 0 = .ok (.aload_n 0, 1) := by decide +kernel
theorem dX3_firstError_1 : decode cX3_firstError 1 = .ok (.iconst 0, 1) := by decide +kernel
theorem dX3_firstError_2 : decode cX3_firstError 2 = .ok (.putfield 46, 3) := by decide +kernel
theorem dX3_firstError_5 : decode cX3_firstError 5 = .ok (.iload_n 1, 1) := by decide +kernel
theorem dX3_firstError_6 : decode cX3_firstError 6 = .ok (.ifCond .eq 10, 3) := by decide +kernel
theorem dX3_firstError_9 : decode cX3_firstError 9 = .ok (.aload_n 0, 1) := by decide +kernel
theorem dX3_firstError_10 : decode cX3_firstError 10 = .ok (.invokevirtual 128, 3) := by decide +kernel
theorem dX3_firstError_13 : decode cX3_firstError 13 = .ok (.goto 7, 3) := by decide +kernel
theorem dX3_firstError_16 : decode cX3_firstError 16 = .ok (.aload_n 0, 1) := by decide +kernel
theorem dX3_firstError_17 : decode cX3_firstError 17 = .ok (.invokevirtual 142, 3) := by decide +kernel
theorem dX3_firstError_20 : decode cX3_firstError 20 = .ok (.ireturn, 1) := by decide +kernel
set_option maxRecDepth 20000 in
theorem ggX3_load_X3_turnsLength : GoodIn wsX3_load wsX3_turnsLength := goodIn_r _ [13, 5, 14, 2, 1, 7, 15, 16, 17, 12, 18, 3, 8, 19, 20, 21, 22, 23, 24, 31, 32, 33, 34, 35, 36, 37, 38, 39, 40, 41, 42, 43, 44, 45, 46, 47, 48, 49] (by decide +kernel) (by decide +kernel)
set_option maxRecDepth 20000 in
theorem gX3_load_X3_turnsLength : GoodIn wsX3_load (wsV RX3 142 RX3 yX3_turnsLength wsX3_turnsLength) := goodIn_app (goodIn_of _ (by decide +kernel)) ggX3_load_X3_turnsLength
set_option maxRecDepth 20000 in
theorem ggX3_load_X3_putTurn : GoodIn wsX3_load wsX3_putTurn := goodIn_r _ [28, 3, 29, 8, 6, 30, 31, 32, 33, 34, 35, 36, 37, 38, 39, 40, 41, 42, 43, 44, 45, 46, 47, 48, 49] (by decide +kernel) (by decide +kernel)
set_option maxRecDepth 20000 in
theorem gX3_load_X3_putTurn : GoodIn wsX3_load (wsV RX3 103 RX3 yX3_putTurn wsX3_putTurn) := goodIn_app (goodIn_of _ (by decide +kernel)) ggX3_load_X3_putTurn
theorem dX3_load_0 : decode cX3_load 0 = .ok (.aload_n 0, 1) := by decide +kernel
theorem dX3_load_1 : decode cX3_load 1 = .ok (.aload_n 0, 1) := by decide +kernel
theorem dX3_load_2 : decode cX3_load 2 = .ok (.invokevirtual 142, 3) := by decide +kernel
theorem dX3_load_5 : decode cX3_load 5 = .ok (.aload_n 0, 1) := by decide +kernel
theorem dX3_load_6 : decode cX3_load 6 = .ok (.getfield 122, 3) := by decide +kernel
theorem dX3_load_9 : decode cX3_load 9 = .ok (.if_icmp .ne 18, 3) := by decide +kernel
theorem dX3_load_12 : decode cX3_load 12 = .ok (.aload_n 0, 1) := by decide +kernel
theorem dX3_load_13 : decode cX3_load 13 = .ok (.getfield 131, 3) := by decide +kernel
theorem dX3_load_16 : decode cX3_load 16 = .ok (.aload_n 0, 1) := by decide +kernel
theorem dX3_load_17 : decode cX3_load 17 = .ok (.getfield 7, 3) := by decide +kernel
theorem dX3_load_20 : decode cX3_load 20 = .ok (.if_icmp .ne 7, 3) := by decide +kernel
theorem dX3_load_23 : decode cX3_load 23 = .ok (.iconst 0, 1) := by decide +kernel
theorem dX3_load_24 : decode cX3_load 24 = .ok (.goto 4, 3) := by decide +kernel
theorem dX3_load_27 : decode cX3_load 27 = .ok (.iconst 1, 1) := by decide +kernel
theorem dX3_load_28 : decode cX3_load 28 = .ok (.putfield 46, 3) := by decide +kernel
theorem dX3_load_31 : decode cX3_load 31 = .ok (.aload_n 0, 1) := by decide +kernel
theorem dX3_load_32 : decode cX3_load 32 = .ok (.getfield 46, 3) := by decide +kernel
theorem dX3_load_35 : decode cX3_load 35 = .ok (.ifCond .le 5, 3) := by decide +kernel
theorem dX3_load_38 : decode cX3_load 38 = .ok (.iconst 0, 1) := by decide +kernel
theorem dX3_load_39 : decode cX3_load 39 = .ok (.ireturn, 1) := by decide +kernel
theorem dX3_load_40 : decode cX3_load 40 = .ok (.aload_n 0, 1) := by decide +kernel
theorem dX3_load_41 : decode cX3_load 41 = .ok (.getfield 134, 3) := by decide +kernel
theorem dX3_load_44 : decode cX3_load 44 = .ok (.istore_n 1, 1) := by decide +kernel
theorem dX3_load_45 : decode cX3_load 45 = .ok (.iconst 0, 1) := by decide +kernel
theorem dX3_load_46 : decode cX3_load 46 = .ok (.istore_n 2, 1) := by decide +kernel
theorem dX3_load_47 : decode cX3_load 47 = .ok (.iload_n 2, 1) := by decide +kernel
theorem dX3_load_48 : decode cX3_load 48 = .ok (.iload_n 1, 1) := by decide +kernel
theorem dX3_load_49 : decode cX3_load 49 = .ok (.if_icmp .ge 53, 3) := by decide +kernel
theorem dX3_load_52 : decode cX3_load 52 = .ok (.iconst 0, 1) := by decide +kernel
theorem dX3_load_53 : decode cX3_load 53 = .ok (.istore_n 3, 1) := by decide +kernel
theorem dX3_load_54 : decode cX3_load 54 = .ok (.iload_n 3, 1) := by decide +kernel
theorem dX3_load_55 : decode cX3_load 55 = .ok (.aload_n 0, 1) := by decide +kernel
theorem dX3_load_56 : decode cX3_load 56 = .ok (.getfield 7, 3) := by decide +kernel
theorem dX3_load_59 : decode cX3_load 59 = .ok (.if_icmp .ge 33, 3) := by decide +kernel
theorem dX3_load_62 : decode cX3_load 62 = .ok (.aload_n 0, 1) := by decide +kernel
theorem dX3_load_63 : decode cX3_load 63 = .ok (.getfield 23, 3) := by decide +kernel
theorem dX3_load_66 : decode cX3_load 66 = .ok (.iload_n 3, 1) := by decide +kernel
theorem dX3_load_67 : decode cX3_load 67 = .ok (.aload_n 0, 1) := by decide +kernel
theorem dX3_load_68 : decode cX3_load 68 = .ok (.getfield 20, 3) := by decide +kernel
theorem dX3_load_71 : decode cX3_load 71 = .ok (.aload_n 0, 1) := by decide +kernel
theorem dX3_load_72 : decode cX3_load 72 = .ok (.getfield 7, 3) := by decide +kernel
theorem dX3_load_75 : decode cX3_load 75 = .ok (.iconst 1, 1) := by decide +kernel
theorem dX3_load_76 : decode cX3_load 76 = .ok (.iadd, 1) := by decide +kernel
theorem dX3_load_77 : decode cX3_load 77 = .ok (.iload_n 2, 1) := by decide +kernel
theorem dX3_load_78 : decode cX3_load 78 = .ok (.imul, 1) := by decide +kernel
theorem dX3_load_79 : decode cX3_load 79 = .ok (.iload_n 3, 1) := by decide +kernel
theorem dX3_load_80 : decode cX3_load 80 = .ok (.iadd, 1) := by decide +kernel
theorem dX3_load_81 : decode cX3_load 81 = .ok (.iaload, 1) := by decide +kernel
theorem dX3_load_82 : decode cX3_load 82 = .ok (.bipush 48, 2) := by decide +kernel
theorem dX3_load_84 : decode cX3_load 84 = .ok (.isub, 1) := by decide +kernel
theorem dX3_load_85 : decode cX3_load 85 = .ok (.iastore, 1) := by decide +kernel
theorem dX3_load_86 : decode cX3_load 86 = .ok (.iinc 3 1, 3) := by decide +kernel
theorem dX3_load_89 : decode cX3_load 89 = .ok (.goto (-35), 3) := by decide +kernel
theorem dX3_load_92 : decode cX3_load 92 = .ok (.aload_n 0, 1) := by decide +kernel
theorem dX3_load_93 : decode cX3_load 93 = .ok (.invokevirtual 103, 3) := by decide +kernel
theorem dX3_load_96 : decode cX3_load 96 = .ok (.iinc 2 1, 3) := by decide +kernel
theorem dX3_load_99 : decode cX3_load 99 = .ok (.goto (-52), 3) := by decide +kernel
theorem dX3_load_102 : decode cX3_load 102 = .ok (.aload_n 0, 1) := by decide +kernel
theorem dX3_load_103 : decode cX3_load 103 = .ok (.iconst 0, 1) := by decide +kernel
theorem dX3_load_104 : decode cX3_load 104 = .ok (.putfield 122, 3) := by decide +kernel
theorem dX3_load_107 : decode cX3_load 107 = .ok (.aload_n 0, 1) := by decide +kernel
theorem dX3_load_108 : decode cX3_load 108 = .ok (.getfield 53, 3) := by decide +kernel
theorem dX3_load_111 : decode cX3_load 111 = .ok (.ireturn, 1) := by decide +kernel
set_option maxRecDepth 20000 in
theorem ggX3_isAllowedWord_X3_moveBy : GoodIn wsX3_isAllowedWord wsX3_moveBy := goodIn_r _ [8, 9, 10, 7, 11, 12, 13, 14, 15, 16, 20, 21, 22, 23, 24, 25, 26, 27, 28, 29, 30, 31, 32, 33, 34, 35, 36, 37, 38] (by decide +kernel) (by decide +kernel)
set_option maxRecDepth 20000 in
theorem gX3_isAllowedWord_X3_moveBy : GoodIn wsX3_isAllowedWord (wsV RX3 125 RX3 yX3_moveBy wsX3_moveBy) := goodIn_app (goodIn_of _ (by decide +kernel)) ggX3_isAllowedWord_X3_moveBy
set_option maxRecDepth 20000 in
theorem ggX3_isAllowedWord_X3_has : GoodIn wsX3_isAllowedWord wsX3_has := goodIn_r _ [19] (by decide +kernel) (by decide +kernel)
set_option maxRecDepth 20000 in
theorem gX3_isAllowedWord_X3_has : GoodIn wsX3_isAllowedWord (va_wsS RX3 60 yX3_has wsX3_has) := goodIn_app (goodIn_of _ (by decide +kernel)) ggX3_isAllowedWord_X3_has
theorem dX3_isAllowedWord_0 : decode cX3_isAllowedWord 0 = .ok (.iconst 1, 1) := by decide +kernel
theorem dX3_isAllowedWord_1 : decode cX3_isAllowedWord 1 = .ok (.istore_n 1, 1) := by decide +kernel
theorem dX3_isAllowedWord_2 : decode cX3_isAllowedWord 2 = .ok (.iconst 0, 1) := by decide +kernel
theorem dX3_isAllowedWord_3 : decode cX3_isAllowedWord 3 = .ok (.istore_n 2, 1) := by decide +kernel
