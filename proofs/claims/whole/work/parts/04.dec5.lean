theorem dJxe99ae_isNaN_b9ae7_0 : decode cJxe99ae_isNaN_b9ae7 0 = .ok (.dload_n 0, 1) := by decide +kernel
theorem dJxe99ae_isNaN_b9ae7_1 : decode cJxe99ae_isNaN_b9ae7 1 = .ok (.dload_n 0, 1) := by decide +kernel
theorem dJxe99ae_isNaN_b9ae7_2 : decode cJxe99ae_isNaN_b9ae7 2 = .ok (.dcmp .l, 1) := by decide +kernel
theorem dJxe99ae_isNaN_b9ae7_3 : decode cJxe99ae_isNaN_b9ae7 3 = .ok (.ifCond .eq 7, 3) := by decide +kernel
theorem dJxe99ae_isNaN_b9ae7_6 : decode cJxe99ae_isNaN_b9ae7 6 = .ok (.iconst 1, 1) := by decide +kernel
theorem dJxe99ae_isNaN_b9ae7_7 : decode cJxe99ae_isNaN_b9ae7 7 = .ok (.goto 4, 3) := by decide +kernel
theorem dJxe99ae_isNaN_b9ae7_10 : decode cJxe99ae_isNaN_b9ae7 10 = .ok (.iconst 0, 1) := by decide +kernel
theorem dJxe99ae_isNaN_b9ae7_11 : decode cJxe99ae_isNaN_b9ae7 11 = .ok (.ireturn, 1) := by decide +kernel
set_option maxRecDepth 20000 in
theorem ggJxe99ae_doubleToLongBits_ccdee_Jxe99ae_isNaN_b9ae7 : GoodIn wsJxe99ae_doubleToLongBits_ccdee wsJxe99ae_isNaN_b9ae7 := goodIn_r _ [9] (by decide +kernel) (by decide +kernel)
set_option maxRecDepth 20000 in
theorem gJxe99ae_doubleToLongBits_ccdee_Jxe99ae_isNaN_b9ae7 : GoodIn wsJxe99ae_doubleToLongBits_ccdee (va_wsS RJxe99ae 122 yJxe99ae_isNaN_b9ae7 wsJxe99ae_isNaN_b9ae7) := goodIn_app (goodIn_of _ (by decide +kernel)) ggJxe99ae_doubleToLongBits_ccdee_Jxe99ae_isNaN_b9ae7
theorem dJxe99ae_doubleToLongBits_ccdee_0 : decode cJxe99ae_doubleToLongBits_ccdee 0 = .ok (.dload_n 0, 1) := by decide +kernel
theorem dJxe99ae_doubleToLongBits_ccdee_1 : decode cJxe99ae_doubleToLongBits_ccdee 1 = .ok (.invokestatic 122, 3) := by decide +kernel
theorem dJxe99ae_doubleToLongBits_ccdee_4 : decode cJxe99ae_doubleToLongBits_ccdee 4 = .ok (.ifCond .ne 8, 3) := by decide +kernel
theorem dJxe99ae_doubleToLongBits_ccdee_7 : decode cJxe99ae_doubleToLongBits_ccdee 7 = .ok (.dload_n 0, 1) := by decide +kernel
theorem dJxe99ae_doubleToLongBits_ccdee_8 : decode cJxe99ae_doubleToLongBits_ccdee 8 = .ok (.invokestatic 134, 3) := by decide +kernel
theorem dJxe99ae_doubleToLongBits_ccdee_11 : decode cJxe99ae_doubleToLongBits_ccdee 11 = .ok (.lreturn, 1) := by decide +kernel
theorem dJxe99ae_doubleToLongBits_ccdee_12 : decode cJxe99ae_doubleToLongBits_ccdee 12 = .ok (.ldc2_w 137, 3) := by decide +kernel
theorem dJxe99ae_doubleToLongBits_ccdee_15 : decode cJxe99ae_doubleToLongBits_ccdee 15 = .ok (.lreturn, 1) := by decide +kernel
theorem dJ6_bitCount_0f7a4_0 : decode cJ6_bitCount_0f7a4 0 = .ok (.iload_n 0, 1) := by decide +kernel
theorem dJ6_bitCount_0f7a4_1 : decode cJ6_bitCount_0f7a4 1 = .ok (.iload_n 0, 1) := by decide +kernel
theorem dJ6_bitCount_0f7a4_2 : decode cJ6_bitCount_0f7a4 2 = .ok (.iconst 1, 1) := by decide +kernel
theorem dJ6_bitCount_0f7a4_3 : decode cJ6_bitCount_0f7a4 3 = .ok (.iushr, 1) := by decide +kernel
theorem dJ6_bitCount_0f7a4_4 : decode cJ6_bitCount_0f7a4 4 = .ok (.ldc_w 265, 3) := by decide +kernel
theorem dJ6_bitCount_0f7a4_7 : decode cJ6_bitCount_0f7a4 7 = .ok (.iand, 1) := by decide +kernel
theorem dJ6_bitCount_0f7a4_8 : decode cJ6_bitCount_0f7a4 8 = .ok (.isub, 1) := by decide +kernel
theorem dJ6_bitCount_0f7a4_9 : decode cJ6_bitCount_0f7a4 9 = .ok (.istore_n 0, 1) := by decide +kernel
theorem dJ6_bitCount_0f7a4_10 : decode cJ6_bitCount_0f7a4 10 = .ok (.iload_n 0, 1) := by decide +kernel
theorem dJ6_bitCount_0f7a4_11 : decode cJ6_bitCount_0f7a4 11 = .ok (.ldc_w 266, 3) := by decide +kernel
theorem dJ6_bitCount_0f7a4_14 : decode cJ6_bitCount_0f7a4 14 = .ok (.iand, 1) := by decide +kernel
theorem dJ6_bitCount_0f7a4_15 : decode cJ6_bitCount_0f7a4 15 = .ok (.iload_n 0, 1) := by decide +kernel
theorem dJ6_bitCount_0f7a4_16 : decode cJ6_bitCount_0f7a4 16 = .ok (.iconst 2, 1) := by decide +kernel
theorem dJ6_bitCount_0f7a4_17 : decode cJ6_bitCount_0f7a4 17 = .ok (.iushr, 1) := by decide +kernel
theorem dJ6_bitCount_0f7a4_18 : decode cJ6_bitCount_0f7a4 18 = .ok (.ldc_w 266, 3) := by decide +kernel
theorem dJ6_bitCount_0f7a4_21 : decode cJ6_bitCount_0f7a4 21 = .ok (.iand, 1) := by decide +kernel
theorem dJ6_bitCount_0f7a4_22 : decode cJ6_bitCount_0f7a4 22 = .ok (.iadd, 1) := by decide +kernel
theorem dJ6_bitCount_0f7a4_23 : decode cJ6_bitCount_0f7a4 23 = .ok (.istore_n 0, 1) := by decide +kernel
theorem dJ6_bitCount_0f7a4_24 : decode cJ6_bitCount_0f7a4 24 = .ok (.iload_n 0, 1) := by decide +kernel
theorem dJ6_bitCount_0f7a4_25 : decode cJ6_bitCount_0f7a4 25 = .ok (.iload_n 0, 1) := by decide +kernel
theorem dJ6_bitCount_0f7a4_26 : decode cJ6_bitCount_0f7a4 26 = .ok (.iconst 4, 1) := by decide +kernel
theorem dJ6_bitCount_0f7a4_27 : decode cJ6_bitCount_0f7a4 27 = .ok (.iushr, 1) := by decide +kernel
theorem dJ6_bitCount_0f7a4_28 : decode cJ6_bitCount_0f7a4 28 = .ok (.iadd, 1) := by decide +kernel
theorem dJ6_bitCount_0f7a4_29 : decode cJ6_bitCount_0f7a4 29 = .ok (.ldc_w 267, 3) := by decide +kernel
theorem dJ6_bitCount_0f7a4_32 : decode cJ6_bitCount_0f7a4 32 = .ok (.iand, 1) := by decide +kernel
theorem dJ6_bitCount_0f7a4_33 : decode cJ6_bitCount_0f7a4 33 = .ok (.istore_n 0, 1) := by decide +kernel
theorem dJ6_bitCount_0f7a4_34 : decode cJ6_bitCount_0f7a4 34 = .ok (.iload_n 0, 1) := by decide +kernel
theorem dJ6_bitCount_0f7a4_35 : decode cJ6_bitCount_0f7a4 35 = .ok (.iload_n 0, 1) := by decide +kernel
theorem dJ6_bitCount_0f7a4_36 : decode cJ6_bitCount_0f7a4 36 = .ok (.bipush 8, 2) := by decide +kernel
theorem dJ6_bitCount_0f7a4_38 : decode cJ6_bitCount_0f7a4 38 = .ok (.iushr, 1) := by decide +kernel
theorem dJ6_bitCount_0f7a4_39 : decode cJ6_bitCount_0f7a4 39 = .ok (.iadd, 1) := by decide +kernel
theorem dJ6_bitCount_0f7a4_40 : decode cJ6_bitCount_0f7a4 40 = .ok (.istore_n 0, 1) := by decide +kernel
theorem dJ6_bitCount_0f7a4_41 : decode cJ6_bitCount_0f7a4 41 = .ok (.iload_n 0, 1) := by decide +kernel
theorem dJ6_bitCount_0f7a4_42 : decode cJ6_bitCount_0f7a4 42 = .ok (.iload_n 0, 1) := by decide +kernel
theorem dJ6_bitCount_0f7a4_43 : decode cJ6_bitCount_0f7a4 43 = .ok (.bipush 16, 2) := by decide +kernel
theorem dJ6_bitCount_0f7a4_45 : decode cJ6_bitCount_0f7a4 45 = .ok (.iushr, 1) := by decide +kernel
theorem dJ6_bitCount_0f7a4_46 : decode cJ6_bitCount_0f7a4 46 = .ok (.iadd, 1) := by decide +kernel
theorem dJ6_bitCount_0f7a4_47 : decode cJ6_bitCount_0f7a4 47 = .ok (.istore_n 0, 1) := by decide +kernel
theorem dJ6_bitCount_0f7a4_48 : decode cJ6_bitCount_0f7a4 48 = .ok (.iload_n 0, 1) := by decide +kernel
theorem dJ6_bitCount_0f7a4_49 : decode cJ6_bitCount_0f7a4 49 = .ok (.bipush 63, 2) := by decide +kernel
theorem dJ6_bitCount_0f7a4_51 : decode cJ6_bitCount_0f7a4 51 = .ok (.iand, 1) := by decide +kernel
theorem dJ6_bitCount_0f7a4_52 : decode cJ6_bitCount_0f7a4 52 = .ok (.ireturn, 1) := by decide +kernel
set_option maxRecDepth 20000 in
theorem ggL_begin_X2_begin : GoodIn wsL_begin wsX2_begin := goodIn_ca (goodIn_r _ [6, 7, 8, 9, 10, 11, 12, 13, 14, 15, 16, 17, 18, 19, 20, 5, 21, 22, 23, 24, 25, 26, 27, 28, 29, 30, 31, 32, 33, 34, 35, 36, 37, 38, 39, 40, 41, 42, 43, 44, 45, 46, 47, 48, 49, 50, 51, 52, 53, 54, 55, 56, 57, 58, 59, 60, 61, 62, 63, 64, 65, 66, 67, 68, 69, 70, 71, 72, 73, 74, 75, 76, 77, 78, 79, 80, 81, 82, 83, 84] (by decide +kernel) (by decide +kernel)) (goodIn_sub (fun _ h => List.mem_cons_of_mem _ (List.mem_append_right _ h)) (by decide +kernel))
set_option maxRecDepth 20000 in
theorem gL_begin_X2_begin : GoodIn wsL_begin (wsV RL 7 RX2 yX2_begin wsX2_begin) := goodIn_app (goodIn_of _ (by decide +kernel)) ggL_begin_X2_begin
theorem dL_begin_0 : decode cL_begin 0 = .ok (.aload_n 2, 1) := by decide +kernel
theorem dL_begin_1 : decode cL_begin 1 = .ok (.iconst 0, 1) := by decide +kernel
theorem dL_begin_2 : decode cL_begin 2 = .ok (.aload_n 0, 1) := by decide +kernel
theorem dL_begin_3 : decode cL_begin 3 = .ok (.iload_n 1, 1) := by decide +kernel
theorem dL_begin_4 : decode cL_begin 4 = .ok (.invokevirtual 7, 3) := by decide +kernel
theorem dL_begin_7 : decode cL_begin 7 = .ok (.i2l, 1) := by decide +kernel
theorem dL_begin_8 : decode cL_begin 8 = .ok (.lastore, 1) := by decide +kernel
theorem dL_begin_9 : decode cL_begin 9 = .ok (.goto 6, 3) := by decide +kernel
theorem dL_begin_12 : decode cL_begin 12 = .ok (.astore_n 3, 1) := by decide +kernel
theorem dL_begin_13 : decode cL_begin 13 = .ok (.iconst 1, 1) := by decide +kernel
theorem dL_begin_14 : decode cL_begin 14 = .ok (.ireturn, 1) := by decide +kernel
theorem dL_begin_15 : decode cL_begin 15 = .ok (.iconst 0, 1) := by decide +kernel
theorem dL_begin_16 : decode cL_begin 16 = .ok (.ireturn, 1) := by decide +kernel
set_option maxRecDepth 20000 in
theorem ggL_addTurn_X2_addTurn : GoodIn wsL_addTurn wsX2_addTurn := goodIn_ca (goodIn_ca (goodIn_ca (goodIn_r _ [8, 9, 10, 11, 12, 13, 14, 15, 16, 17, 18, 19, 7, 20, 21, 22, 23, 24, 25, 26, 27, 28, 29, 30, 31, 32, 33, 34, 35, 36, 37, 38, 39, 40, 41, 42, 43, 44, 45, 46, 47, 48, 49, 50, 51, 52, 53, 54, 55, 56, 57, 58, 59, 60, 61, 62, 63, 64, 65, 66, 67, 68, 69, 70, 71, 72, 73, 74, 75, 76, 77, 78, 79, 80, 81, 82, 83, 84, 85, 86, 87, 88, 89, 90, 91, 92, 93, 94] (by decide +kernel) (by decide +kernel)) (goodIn_sub (fun _ h => List.mem_cons_of_mem _ (List.mem_append_left _ (List.mem_append_left _ (List.mem_append_right _ h)))) (by decide +kernel))) (goodIn_sub (fun _ h => List.mem_cons_of_mem _ (List.mem_append_left _ (List.mem_append_right _ h))) (by decide +kernel))) (goodIn_sub (fun _ h => List.mem_cons_of_mem _ (List.mem_append_right _ h)) (by decide +kernel))
set_option maxRecDepth 20000 in
theorem gL_addTurn_X2_addTurn : GoodIn wsL_addTurn (wsV RL 15 RX2 yX2_addTurn wsX2_addTurn) := goodIn_app (goodIn_of _ (by decide +kernel)) ggL_addTurn_X2_addTurn
theorem dL_addTurn_0 : decode cL_addTurn 0 = .ok (.aload 4, 2) := by decide +kernel
theorem dL_addTurn_2 : decode cL_addTurn 2 = .ok (.iconst 0, 1) := by decide +kernel
theorem dL_addTurn_3 : decode cL_addTurn 3 = .ok (.aload_n 0, 1) := by decide +kernel
theorem dL_addTurn_4 : decode cL_addTurn 4 = .ok (.iload_n 1, 1) := by decide +kernel
theorem dL_addTurn_5 : decode cL_addTurn 5 = .ok (.iload_n 2, 1) := by decide +kernel
theorem dL_addTurn_6 : decode cL_addTurn 6 = .ok (.iload_n 3, 1) := by decide +kernel
theorem dL_addTurn_7 : decode cL_addTurn 7 = .ok (.invokevirtual 15, 3) := by decide +kernel
theorem dL_addTurn_10 : decode cL_addTurn 10 = .ok (.i2l, 1) := by decide +kernel
theorem dL_addTurn_11 : decode cL_addTurn 11 = .ok (.lastore, 1) := by decide +kernel
theorem dL_addTurn_12 : decode cL_addTurn 12 = .ok (.goto 15, 3) := by decide +kernel
theorem dL_addTurn_15 : decode cL_addTurn 15 = .ok (.astore 5, 2) := by decide +kernel
theorem dL_addTurn_17 : decode cL_addTurn 17 = .ok (.iconst 1, 1) := by decide +kernel
theorem dL_addTurn_18 : decode cL_addTurn 18 = .ok (.ireturn, 1) := by decide +kernel
theorem dL_addTurn_19 : decode cL_addTurn 19 = .ok (.astore 5, 2) := by decide +kernel
theorem dL_addTurn_21 : decode cL_addTurn 21 = .ok (.iconst 2, 1) := by decide +kernel
theorem dL_addTurn_22 : decode cL_addTurn 22 = .ok (.ireturn, 1) := by decide +kernel
theorem dL_addTurn_23 : decode cL_addTurn 23 = .ok (.astore 5, 2) := by decide +kernel
theorem dL_addTurn_25 : decode cL_addTurn 25 = .ok (.iconst 3, 1) := by decide +kernel
theorem dL_addTurn_26 : decode cL_addTurn 26 = .ok (.ireturn, 1) := by decide +kernel
theorem dL_addTurn_27 : decode cL_addTurn 27 = .ok (.iconst 0, 1) := by decide +kernel
theorem dL_addTurn_28 : decode cL_addTurn 28 = .ok (.ireturn, 1) := by decide +kernel
set_option maxRecDepth 20000 in
theorem ggL_dropTurn_X2_dropTurn : GoodIn wsL_dropTurn wsX2_dropTurn := goodIn_ca (goodIn_r _ [6, 7, 8, 9, 10, 11, 12, 13, 14, 15, 16, 17, 18, 19, 20] (by decide +kernel) (by decide +kernel)) (goodIn_sub (fun _ h => List.mem_cons_of_mem _ (List.mem_append_right _ h)) (by decide +kernel))
set_option maxRecDepth 20000 in
theorem gL_dropTurn_X2_dropTurn : GoodIn wsL_dropTurn (wsV RL 23 RX2 yX2_dropTurn wsX2_dropTurn) := goodIn_app (goodIn_of _ (by decide +kernel)) ggL_dropTurn_X2_dropTurn
theorem dL_dropTurn_0 : decode cL_dropTurn 0 = .ok (.aload_n 1, 1) := by decide +kernel
theorem dL_dropTurn_1 : decode cL_dropTurn 1 = .ok (.iconst 0, 1) := by decide +kernel
theorem dL_dropTurn_2 : decode cL_dropTurn 2 = .ok (.aload_n 0, 1) := by decide +kernel
theorem dL_dropTurn_3 : decode cL_dropTurn 3 = .ok (.invokevirtual 23, 3) := by decide +kernel
theorem dL_dropTurn_6 : decode cL_dropTurn 6 = .ok (.i2l, 1) := by decide +kernel
theorem dL_dropTurn_7 : decode cL_dropTurn 7 = .ok (.lastore, 1) := by decide +kernel
theorem dL_dropTurn_8 : decode cL_dropTurn 8 = .ok (.goto 6, 3) := by decide +kernel
theorem dL_dropTurn_11 : decode cL_dropTurn 11 = .ok (.astore_n 2, 1) := by decide +kernel
theorem dL_dropTurn_12 : decode cL_dropTurn 12 = .ok (.iconst 1, 1) := by decide +kernel
theorem dL_dropTurn_13 : decode cL_dropTurn 13 = .ok (.ireturn, 1) := by decide +kernel
theorem dL_dropTurn_14 : decode cL_dropTurn 14 = .ok (.iconst 0, 1) := by decide +kernel
theorem dL_dropTurn_15 : decode cL_dropTurn 15 = .ok (.ireturn, 1) := by decide +kernel
set_option maxRecDepth 20000 in
theorem ggL_allow_X2_allow : GoodIn wsL_allow wsX2_allow := goodIn_ca (goodIn_r _ [6, 7, 8, 9, 10, 11, 12, 13, 14, 15, 16, 17, 18, 19, 20] (by decide +kernel) (by decide +kernel)) (goodIn_sub (fun _ h => List.mem_cons_of_mem _ (List.mem_append_right _ h)) (by decide +kernel))
set_option maxRecDepth 20000 in
theorem gL_allow_X2_allow : GoodIn wsL_allow (wsV RL 27 RX2 yX2_allow wsX2_allow) := goodIn_app (goodIn_of _ (by decide +kernel)) ggL_allow_X2_allow
theorem dL_allow_0 : decode cL_allow 0 = .ok (.aload_n 2, 1) := by decide +kernel
theorem dL_allow_1 : decode cL_allow 1 = .ok (.iconst 0, 1) := by decide +kernel
theorem dL_allow_2 : decode cL_allow 2 = .ok (.aload_n 0, 1) := by decide +kernel
theorem dL_allow_3 : decode cL_allow 3 = .ok (.iload_n 1, 1) := by decide +kernel
theorem dL_allow_4 : decode cL_allow 4 = .ok (.invokevirtual 27, 3) := by decide +kernel
theorem dL_allow_7 : decode cL_allow 7 = .ok (.i2l, 1) := by decide +kernel
theorem dL_allow_8 : decode cL_allow 8 = .ok (.lastore, 1) := by decide +kernel
theorem dL_allow_9 : decode cL_allow 9 = .ok (.goto 6, 3) := by decide +kernel
theorem dL_allow_12 : decode cL_allow 12 = .ok (.astore_n 3, 1) := by decide +kernel
theorem dL_allow_13 : decode cL_allow 13 = .ok (.iconst 1, 1) := by decide +kernel
theorem dL_allow_14 : decode cL_allow 14 = .ok (.ireturn, 1) := by decide +kernel
theorem dL_allow_15 : decode cL_allow 15 = .ok (.iconst 0, 1) := by decide +kernel
theorem dL_allow_16 : decode cL_allow 16 = .ok (.ireturn, 1) := by decide +kernel
set_option maxRecDepth 20000 in
theorem ggL_exchange_X2_exchange : GoodIn wsL_exchange wsX2_exchange := goodIn_ca (goodIn_r _ [6, 7, 8, 9, 10, 11, 12, 5, 13, 14, 15, 16, 17, 18, 19, 20, 21, 22, 23, 24] (by decide +kernel) (by decide +kernel)) (goodIn_sub (fun _ h => List.mem_cons_of_mem _ (List.mem_append_right _ h)) (by decide +kernel))
set_option maxRecDepth 20000 in
theorem gL_exchange_X2_exchange : GoodIn wsL_exchange (wsV RL 30 RX2 yX2_exchange wsX2_exchange) := goodIn_app (goodIn_of _ (by decide +kernel)) ggL_exchange_X2_exchange
theorem dL_exchange_0 : decode cL_exchange 0 = .ok (.aload_n 3, 1) := by decide +kernel
theorem dL_exchange_1 : decode cL_exchange 1 = .ok (.iconst 0, 1) := by decide +kernel
theorem dL_exchange_2 : decode cL_exchange 2 = .ok (.aload_n 0, 1) := by decide +kernel
theorem dL_exchange_3 : decode cL_exchange 3 = .ok (.iload_n 1, 1) := by decide +kernel
theorem dL_exchange_4 : decode cL_exchange 4 = .ok (.iload_n 2, 1) := by decide +kernel
theorem dL_exchange_5 : decode cL_exchange 5 = .ok (.invokevirtual 30, 3) := by decide +kernel
theorem dL_exchange_8 : decode cL_exchange 8 = .ok (.i2l, 1) := by decide +kernel
theorem dL_exchange_9 : decode cL_exchange 9 = .ok (.lastore, 1) := by decide +kernel
theorem dL_exchange_10 : decode cL_exchange 10 = .ok (.goto 7, 3) := by decide +kernel
theorem dL_exchange_13 : decode cL_exchange 13 = .ok (.astore 4, 2) := by decide +kernel
theorem dL_exchange_15 : decode cL_exchange 15 = .ok (.iconst 1, 1) := by decide +kernel
theorem dL_exchange_16 : decode cL_exchange 16 = .ok (.ireturn, 1) := by decide +kernel
theorem dL_exchange_17 : decode cL_exchange 17 = .ok (.iconst 0, 1) := by decide +kernel
theorem dL_exchange_18 : decode cL_exchange 18 = .ok (.ireturn, 1) := by decide +kernel
set_option maxRecDepth 20000 in
theorem ggL_make_X2_make : GoodIn wsL_make wsX2_make := goodIn_ca (goodIn_ca (goodIn_r _ [7, 8, 9, 10, 11, 12, 13, 14, 15, 16, 17, 6, 18, 19, 20, 21, 22, 23, 24, 25, 26, 27, 28, 29, 30, 31, 32, 33, 34, 35, 36, 37, 38, 39] (by decide +kernel) (by decide +kernel)) (goodIn_sub (fun _ h => List.mem_cons_of_mem _ (List.mem_append_left _ (List.mem_append_right _ h))) (by decide +kernel))) (goodIn_sub (fun _ h => List.mem_cons_of_mem _ (List.mem_append_right _ h)) (by decide +kernel))
set_option maxRecDepth 20000 in
theorem gL_make_X2_make : GoodIn wsL_make (wsV RL 34 RX2 yX2_make wsX2_make) := goodIn_app (goodIn_of _ (by decide +kernel)) ggL_make_X2_make
theorem dL_make_0 : decode cL_make 0 = .ok (.aload_n 2, 1) := by decide +kernel
theorem dL_make_1 : decode cL_make 1 = .ok (.iconst 0, 1) := by decide +kernel
theorem dL_make_2 : decode cL_make 2 = .ok (.aload_n 0, 1) := by decide +kernel
theorem dL_make_3 : decode cL_make 3 = .ok (.iload_n 1, 1) := by decide +kernel
theorem dL_make_4 : decode cL_make 4 = .ok (.invokevirtual 34, 3) := by decide +kernel
theorem dL_make_7 : decode cL_make 7 = .ok (.i2l, 1) := by decide +kernel
theorem dL_make_8 : decode cL_make 8 = .ok (.lastore, 1) := by decide +kernel
theorem dL_make_9 : decode cL_make 9 = .ok (.goto 9, 3) := by decide +kernel
theorem dL_make_12 : decode cL_make 12 = .ok (.astore_n 3, 1) := by decide +kernel
theorem dL_make_13 : decode cL_make 13 = .ok (.iconst 1, 1) := by decide +kernel
theorem dL_make_14 : decode cL_make 14 = .ok (.ireturn, 1) := by decide +kernel
theorem dL_make_15 : decode cL_make 15 = .ok (.astore_n 3, 1) := by decide +kernel
theorem dL_make_16 : decode cL_make 16 = .ok (.iconst 2, 1) := by decide +kernel
theorem dL_make_17 : decode cL_make 17 = .ok (.ireturn, 1) := by decide +kernel
theorem dL_make_18 : decode cL_make 18 = .ok (.iconst 0, 1) := by decide +kernel
theorem dL_make_19 : decode cL_make 19 = .ok (.ireturn, 1) := by decide +kernel
set_option maxRecDepth 20000 in
theorem ggL_append_X2_append : GoodIn wsL_append wsX2_append := goodIn_ca (goodIn_ca (goodIn_r _ [7, 8, 9, 10, 11, 12, 13, 14, 15, 16, 17, 18, 19, 20, 21, 22, 23] (by decide +kernel) (by decide +kernel)) (goodIn_sub (fun _ h => List.mem_cons_of_mem _ (List.mem_append_left _ (List.mem_append_right _ h))) (by decide +kernel))) (goodIn_sub (fun _ h => List.mem_cons_of_mem _ (List.mem_append_right _ h)) (by decide +kernel))
set_option maxRecDepth 20000 in
theorem gL_append_X2_append : GoodIn wsL_append (wsV RL 37 RX2 yX2_append wsX2_append) := goodIn_app (goodIn_of _ (by decide +kernel)) ggL_append_X2_append
theorem dL_append_0 : decode cL_append 0 = .ok (.aload_n 2, 1) := by decide +kernel
theorem dL_append_1 : decode cL_append 1 = .ok (.iconst 0, 1) := by decide +kernel
theorem dL_append_2 : decode cL_append 2 = .ok (.aload_n 0, 1) := by decide +kernel
theorem dL_append_3 : decode cL_append 3 = .ok (.iload_n 1, 1) := by decide +kernel
theorem dL_append_4 : decode cL_append 4 = .ok (.invokevirtual 37, 3) := by decide +kernel
theorem dL_append_7 : decode cL_append 7 = .ok (.i2l, 1) := by decide +kernel
theorem dL_append_8 : decode cL_append 8 = .ok (.lastore, 1) := by decide +kernel
theorem dL_append_9 : decode cL_append 9 = .ok (.goto 9, 3) := by decide +kernel
theorem dL_append_12 : decode cL_append 12 = .ok (.astore_n 3, 1) := by decide +kernel
theorem dL_append_13 : decode cL_append 13 = .ok (.iconst 1, 1) := by decide +kernel
theorem dL_append_14 : decode cL_append 14 = .ok (.ireturn, 1) := by decide +kernel
theorem dL_append_15 : decode cL_append 15 = .ok (.astore_n 3, 1) := by decide +kernel
theorem dL_append_16 : decode cL_append 16 = .ok (.iconst 2, 1) := by decide +kernel
theorem dL_append_17 : decode cL_append 17 = .ok (.ireturn, 1) := by decide +kernel
theorem dL_append_18 : decode cL_append 18 = .ok (.iconst 0, 1) := by decide +kernel
theorem dL_append_19 : decode cL_append 19 = .ok (.ireturn, 1) := by decide +kernel
set_option maxRecDepth 20000 in
theorem ggL_load_X2_load : GoodIn wsL_load wsX2_load := goodIn_ca (goodIn_r _ [6, 7, 8, 9, 10, 11, 12, 13, 14, 15, 5, 16, 17, 18, 19, 20, 21, 22, 23, 24, 25, 26, 27, 28, 29, 30, 31, 32, 33, 34, 35, 36, 37, 38, 39, 40, 41, 42, 43, 44, 45, 46, 47, 48, 49, 50, 51, 52, 53, 54, 55, 56, 57, 58, 59, 60, 61, 62, 63, 64, 65, 66, 67, 68, 69, 70, 71, 72, 73, 74, 75, 76, 77, 78, 79, 80, 81, 82, 83, 84, 85, 86, 87, 88, 89, 90, 91, 92, 93, 94, 95] (by decide +kernel) (by decide +kernel)) (goodIn_sub (fun _ h => List.mem_cons_of_mem _ (List.mem_append_right _ h)) (by decide +kernel))
set_option maxRecDepth 20000 in
theorem gL_load_X2_load : GoodIn wsL_load (wsV RL 40 RX2 yX2_load wsX2_load) := goodIn_app (goodIn_of _ (by decide +kernel)) ggL_load_X2_load
theorem dL_load_0 : decode cL_load 0 = .ok (.aload_n 1, 1) := by decide +kernel
theorem dL_load_1 : decode cL_load 1 = .ok (.iconst 0, 1) := by decide +kernel
theorem dL_load_2 : decode cL_load 2 = .ok (.aload_n 0, 1) := by decide +kernel
theorem dL_load_3 : decode cL_load 3 = .ok (.invokevirtual 40, 3) := by decide +kernel
theorem dL_load_6 : decode cL_load 6 = .ok (.i2l, 1) := by decide +kernel
theorem dL_load_7 : decode cL_load 7 = .ok (.lastore, 1) := by decide +kernel
theorem dL_load_8 : decode cL_load 8 = .ok (.goto 6, 3) := by decide +kernel
theorem dL_load_11 : decode cL_load 11 = .ok (.astore_n 2, 1) := by decide +kernel
theorem dL_load_12 : decode cL_load 12 = .ok (.iconst 1, 1) := by decide +kernel
theorem dL_load_13 : decode cL_load 13 = .ok (.ireturn, 1) := by decide +kernel
theorem dL_load_14 : decode cL_load 14 = .ok (.iconst 0, 1) := by decide +kernel
theorem dL_load_15 : decode cL_load 15 = .ok (.ireturn, 1) := by decide +kernel
set_option maxRecDepth 20000 in
theorem ggL_run_X2_run : GoodIn wsL_run wsX2_run := goodIn_ca (goodIn_ca (goodIn_r _ [7, 8, 9, 10, 11, 12, 13, 14, 15, 16, 17, 6, 18, 19, 20, 21, 22, 23, 24, 25, 26, 27, 28, 29, 30, 31, 32, 33, 34, 35, 36, 37, 38, 39, 40, 41, 42, 43, 44, 45, 46, 47, 48, 49, 50, 51, 52, 53, 54, 55, 56, 57, 58, 59, 60, 61] (by decide +kernel) (by decide +kernel)) (goodIn_sub (fun _ h => List.mem_cons_of_mem _ (List.mem_append_left _ (List.mem_append_right _ h))) (by decide +kernel))) (goodIn_sub (fun _ h => List.mem_cons_of_mem _ (List.mem_append_right _ h)) (by decide +kernel))
set_option maxRecDepth 20000 in
theorem gL_run_X2_run : GoodIn wsL_run (wsV RL 43 RX2 yX2_run wsX2_run) := goodIn_app (goodIn_of _ (by decide +kernel)) ggL_run_X2_run
theorem dL_run_0 : decode cL_run 0 = .ok (.aload_n 1, 1) := by decide +kernel
theorem dL_run_1 : decode cL_run 1 = .ok (.iconst 0, 1) := by decide +kernel
theorem dL_run_2 : decode cL_run 2 = .ok (.aload_n 0, 1) := by decide +kernel
theorem dL_run_3 : decode cL_run 3 = .ok (.invokevirtual 43, 3) := by decide +kernel
theorem dL_run_6 : decode cL_run 6 = .ok (.i2l, 1) := by decide +kernel
theorem dL_run_7 : decode cL_run 7 = .ok (.lastore, 1) := by decide +kernel
theorem dL_run_8 : decode cL_run 8 = .ok (.goto 9, 3) := by decide +kernel
theorem dL_run_11 : decode cL_run 11 = .ok (.astore_n 2, 1) := by decide +kernel
theorem dL_run_12 : decode cL_run 12 = .ok (.iconst 1, 1) := by decide +kernel
theorem dL_run_13 : decode cL_run 13 = .ok (.ireturn, 1) := by decide +kernel
theorem dL_run_14 : decode cL_run 14 = .ok (.astore_n 2, 1) := by decide +kernel
theorem dL_run_15 : decode cL_run 15 = .ok (.iconst 2, 1) := by decide +kernel
theorem dL_run_16 : decode cL_run 16 = .ok (.ireturn, 1) := by decide +kernel
theorem dL_run_17 : decode cL_run 17 = .ok (.iconst 0, 1) := by decide +kernel
theorem dL_run_18 : decode cL_run 18 = .ok (.ireturn, 1) := by decide +kernel
set_option maxRecDepth 20000 in
theorem ggL_order_X2_order : GoodIn wsL_order wsX2_order := goodIn_ca (goodIn_r _ [6, 7, 8, 9, 10, 11, 12, 13, 14, 5, 15, 16, 17, 18, 19, 20, 21, 22, 23, 24, 25, 26, 27, 28, 29, 30, 31, 32, 33, 34, 35, 36, 37, 38, 39, 40, 41, 42, 43, 44, 45, 46, 47, 48, 49, 50, 51, 52, 53] (by decide +kernel) (by decide +kernel)) (goodIn_sub (fun _ h => List.mem_cons_of_mem _ (List.mem_append_right _ h)) (by decide +kernel))
set_option maxRecDepth 20000 in
theorem gL_order_X2_order : GoodIn wsL_order (wsV RL 46 RX2 yX2_order wsX2_order) := goodIn_app (goodIn_of _ (by decide +kernel)) ggL_order_X2_order
theorem dL_order_0 : decode cL_order 0 = .ok (.aload_n 1, 1) := by decide +kernel
theorem dL_order_1 : decode cL_order 1 = .ok (.iconst 0, 1) := by decide +kernel
theorem dL_order_2 : decode cL_order 2 = .ok (.aload_n 0, 1) := by decide +kernel
theorem dL_order_3 : decode cL_order 3 = .ok (.invokevirtual 46, 3) := by decide +kernel
theorem dL_order_6 : decode cL_order 6 = .ok (.i2l, 1) := by decide +kernel
theorem dL_order_7 : decode cL_order 7 = .ok (.lastore, 1) := by decide +kernel
theorem dL_order_8 : decode cL_order 8 = .ok (.goto 6, 3) := by decide +kernel
theorem dL_order_11 : decode cL_order 11 = .ok (.astore_n 2, 1) := by decide +kernel
theorem dL_order_12 : decode cL_order 12 = .ok (.iconst 1, 1) := by decide +kernel
theorem dL_order_13 : decode cL_order 13 = .ok (.ireturn, 1) := by decide +kernel
theorem dL_order_14 : decode cL_order 14 = .ok (.iconst 0, 1) := by decide +kernel
theorem dL_order_15 : decode cL_order 15 = .ok (.ireturn, 1) := by decide +kernel
set_option maxRecDepth 20000 in
theorem ggL_group_X2_group : GoodIn wsL_group wsX2_group := goodIn_ca (goodIn_r _ [6, 7, 8, 9, 10, 11, 12, 5, 13, 14, 15, 16, 17, 18, 19, 20, 21, 22, 23, 24, 25, 26, 27, 28, 29, 30, 31, 32, 33, 34, 35, 36, 37, 38, 39, 40, 41, 42, 43, 44, 45, 46, 47, 48, 49, 50, 51, 52, 53, 54, 55, 56, 57, 58, 59, 60, 61, 62, 63, 64, 65, 66, 67, 68, 69, 70, 71, 72, 73, 74, 75, 76, 77, 78, 79, 80, 81, 82, 83, 84, 85, 86, 87, 88, 89, 90, 91, 92, 93, 94] (by decide +kernel) (by decide +kernel)) (goodIn_sub (fun _ h => List.mem_cons_of_mem _ (List.mem_append_right _ h)) (by decide +kernel))
set_option maxRecDepth 20000 in
theorem gL_group_X2_group : GoodIn wsL_group (wsV RL 49 RX2 yX2_group wsX2_group) := goodIn_app (goodIn_of _ (by decide +kernel)) ggL_group_X2_group
theorem dL_group_0 : decode cL_group 0 = .ok (.aload_n 2, 1) := by decide +kernel
theorem dL_group_1 : decode cL_group 1 = .ok (.iconst 0, 1) := by decide +kernel
theorem dL_group_2 : decode cL_group 2 = .ok (.aload_n 0, 1) := by decide +kernel
theorem dL_group_3 : decode cL_group 3 = .ok (.iload_n 1, 1) := by decide +kernel
theorem dL_group_4 : decode cL_group 4 = .ok (.invokevirtual 49, 3) := by decide +kernel
theorem dL_group_7 : decode cL_group 7 = .ok (.i2l, 1) := by decide +kernel
theorem dL_group_8 : decode cL_group 8 = .ok (.lastore, 1) := by decide +kernel
theorem dL_group_9 : decode cL_group 9 = .ok (.goto 6, 3) := by decide +kernel
theorem dL_group_12 : decode cL_group 12 = .ok (.astore_n 3, 1) := by decide +kernel
theorem dL_group_13 : decode cL_group 13 = .ok (.iconst 1, 1) := by decide +kernel
theorem dL_group_14 : decode cL_group 14 = .ok (.ireturn, 1) := by decide +kernel
theorem dL_group_15 : decode cL_group 15 = .ok (.iconst 0, 1) := by decide +kernel
theorem dL_group_16 : decode cL_group 16 = .ok (.ireturn, 1) := by decide +kernel
set_option maxRecDepth 20000 in
theorem ggL_basicOrbit_X2_basicOrbit : GoodIn wsL_basicOrbit wsX2_basicOrbit := goodIn_ca (goodIn_r _ [6, 7, 8, 9, 10, 11, 12, 13, 5, 14, 15, 16, 17, 18, 19, 20, 21, 22, 23, 24, 25, 26, 27, 28, 29, 30, 31, 32, 33, 34, 35, 36, 37, 38, 39, 40, 41, 42, 43, 44, 45, 46, 47, 48, 49, 50, 51, 52, 53, 54, 55, 56, 57, 58, 59, 60, 61, 62, 63, 64, 65, 66, 67, 68] (by decide +kernel) (by decide +kernel)) (goodIn_sub (fun _ h => List.mem_cons_of_mem _ (List.mem_append_right _ h)) (by decide +kernel))
set_option maxRecDepth 20000 in
theorem gL_basicOrbit_X2_basicOrbit : GoodIn wsL_basicOrbit (wsV RL 52 RX2 yX2_basicOrbit wsX2_basicOrbit) := goodIn_app (goodIn_of _ (by decide +kernel)) ggL_basicOrbit_X2_basicOrbit
theorem dL_basicOrbit_0 : decode cL_basicOrbit 0 = .ok (.aload_n 2, 1) := by decide +kernel
theorem dL_basicOrbit_1 : decode cL_basicOrbit 1 = .ok (.iconst 0, 1) := by decide +kernel
theorem dL_basicOrbit_2 : decode cL_basicOrbit 2 = .ok (.aload_n 0, 1) := by decide +kernel
theorem dL_basicOrbit_3 : decode cL_basicOrbit 3 = .ok (.iload_n 1, 1) := by decide +kernel
theorem dL_basicOrbit_4 : decode cL_basicOrbit 4 = .ok (.invokevirtual 52, 3) := by decide +kernel
theorem dL_basicOrbit_7 : decode cL_basicOrbit 7 = .ok (.i2l, 1) := by decide +kernel
theorem dL_basicOrbit_8 : decode cL_basicOrbit 8 = .ok (.lastore, 1) := by decide +kernel
theorem dL_basicOrbit_9 : decode cL_basicOrbit 9 = .ok (.goto 6, 3) := by decide +kernel
theorem dL_basicOrbit_12 : decode cL_basicOrbit 12 = .ok (.astore_n 3, 1) := by decide +kernel
theorem dL_basicOrbit_13 : decode cL_basicOrbit 13 = .ok (.iconst 1, 1) := by decide +kernel
theorem dL_basicOrbit_14 : decode cL_basicOrbit 14 = .ok (.ireturn, 1) := by decide +kernel
theorem dL_basicOrbit_15 : decode cL_basicOrbit 15 = .ok (.iconst 0, 1) := by decide +kernel
theorem dL_basicOrbit_16 : decode cL_basicOrbit 16 = .ok (.ireturn, 1) := by decide +kernel
set_option maxRecDepth 20000 in
theorem ggL_phase_X2_phase : GoodIn wsL_phase wsX2_phase := goodIn_ca (goodIn_r _ [6, 7, 8, 9, 10, 11, 12, 13, 14, 15, 5, 16, 17, 18, 19, 20, 21, 22, 23, 24, 25, 26, 27, 28, 29, 30, 31, 32, 33, 34, 35, 36, 37, 38, 39, 40, 41, 42, 43, 44, 45, 46, 47, 48, 49, 50, 51, 52, 53, 54, 55, 56, 57, 58, 59, 60, 61, 62, 63, 64, 65, 66, 67, 68, 69, 70, 71, 72, 73, 74, 75, 76, 77, 78, 79, 80, 81, 82, 83, 84, 85, 86] (by decide +kernel) (by decide +kernel)) (goodIn_sub (fun _ h => List.mem_cons_of_mem _ (List.mem_append_right _ h)) (by decide +kernel))
set_option maxRecDepth 20000 in
theorem gL_phase_X2_phase : GoodIn wsL_phase (wsV RL 55 RX2 yX2_phase wsX2_phase) := goodIn_app (goodIn_of _ (by decide +kernel)) ggL_phase_X2_phase
theorem dL_phase_0 : decode cL_phase 0 = .ok (.aload_n 3, 1) := by decide +kernel
theorem dL_phase_1 : decode cL_phase 1 = .ok (.iconst 0, 1) := by decide +kernel
theorem dL_phase_2 : decode cL_phase 2 = .ok (.aload_n 0, 1) := by decide +kernel
theorem dL_phase_3 : decode cL_phase 3 = .ok (.iload_n 1, 1) := by decide +kernel
theorem dL_phase_4 : decode cL_phase 4 = .ok (.iload_n 2, 1) := by decide +kernel
theorem dL_phase_5 : decode cL_phase 5 = .ok (.invokevirtual 55, 3) := by decide +kernel
theorem dL_phase_8 : decode cL_phase 8 = .ok (.i2l, 1) := by decide +kernel
theorem dL_phase_9 : decode cL_phase 9 = .ok (.lastore, 1) := by decide +kernel
theorem dL_phase_10 : decode cL_phase 10 = .ok (.goto 7, 3) := by decide +kernel
theorem dL_phase_13 : decode cL_phase 13 = .ok (.astore 4, 2) := by decide +kernel
theorem dL_phase_15 : decode cL_phase 15 = .ok (.iconst 1, 1) := by decide +kernel
theorem dL_phase_16 : decode cL_phase 16 = .ok (.ireturn, 1) := by decide +kernel
theorem dL_phase_17 : decode cL_phase 17 = .ok (.iconst 0, 1) := by decide +kernel
theorem dL_phase_18 : decode cL_phase 18 = .ok (.ireturn, 1) := by decide +kernel
set_option maxRecDepth 20000 in
theorem ggL_ifForbidden_X2_ifForbidden : GoodIn wsL_ifForbidden wsX2_ifForbidden := goodIn_ca (goodIn_ca (goodIn_ca (goodIn_r _ [8, 9, 10, 11, 12, 13, 14, 15, 16, 17, 18, 19, 20, 7, 21, 22, 23, 24, 25, 26, 27, 28, 29, 30, 31, 32, 33, 34, 35, 36, 37, 38, 39, 40, 41, 42, 43, 44, 45, 46, 47, 48, 49, 50, 51, 52, 53, 54, 55, 56, 57, 58, 59, 60, 61, 62, 63, 64, 65, 66, 67, 68, 69, 70, 71, 72, 73, 74, 75, 76, 77, 78, 79, 80, 81, 82, 83, 84, 85, 86, 87, 88, 89, 90, 91, 92] (by decide +kernel) (by decide +kernel)) (goodIn_sub (fun _ h => List.mem_cons_of_mem _ (List.mem_append_left _ (List.mem_append_left _ (List.mem_append_right _ h)))) (by decide +kernel))) (goodIn_sub (fun _ h => List.mem_cons_of_mem _ (List.mem_append_left _ (List.mem_append_right _ h))) (by decide +kernel))) (goodIn_sub (fun _ h => List.mem_cons_of_mem _ (List.mem_append_right _ h)) (by decide +kernel))
set_option maxRecDepth 20000 in
theorem gL_ifForbidden_X2_ifForbidden : GoodIn wsL_ifForbidden (wsV RL 58 RX2 yX2_ifForbidden wsX2_ifForbidden) := goodIn_app (goodIn_of _ (by decide +kernel)) ggL_ifForbidden_X2_ifForbidden
theorem dL_ifForbidden_0 : decode cL_ifForbidden 0 = .ok (.aload_n 3, 1) := by decide +kernel
theorem dL_ifForbidden_1 : decode cL_ifForbidden 1 = .ok (.iconst 0, 1) := by decide +kernel
theorem dL_ifForbidden_2 : decode cL_ifForbidden 2 = .ok (.aload_n 0, 1) := by decide +kernel
theorem dL_ifForbidden_3 : decode cL_ifForbidden 3 = .ok (.iload_n 1, 1) := by decide +kernel
theorem dL_ifForbidden_4 : decode cL_ifForbidden 4 = .ok (.iload_n 2, 1) := by decide +kernel
theorem dL_ifForbidden_5 : decode cL_ifForbidden 5 = .ok (.invokevirtual 58, 3) := by decide +kernel
theorem dL_ifForbidden_8 : decode cL_ifForbidden 8 = .ok (.i2l, 1) := by decide +kernel
theorem dL_ifForbidden_9 : decode cL_ifForbidden 9 = .ok (.lastore, 1) := by decide +kernel
theorem dL_ifForbidden_10 : decode cL_ifForbidden 10 = .ok (.goto 15, 3) := by decide +kernel
theorem dL_ifForbidden_13 : decode cL_ifForbidden 13 = .ok (.astore 4, 2) := by decide +kernel
theorem dL_ifForbidden_15 : decode cL_ifForbidden 15 = .ok (.iconst 1, 1) := by decide +kernel
theorem dL_ifForbidden_16 : decode cL_ifForbidden 16 = .ok (.ireturn, 1) := by decide +kernel
theorem dL_ifForbidden_17 : decode cL_ifForbidden 17 = .ok (.astore 4, 2) := by decide +kernel
theorem dL_ifForbidden_19 : decode cL_ifForbidden 19 = .ok (.iconst 2, 1) := by decide +kernel
theorem dL_ifForbidden_20 : decode cL_ifForbidden 20 = .ok (.ireturn, 1) := by decide +kernel
theorem dL_ifForbidden_21 : decode cL_ifForbidden 21 = .ok (.astore 4, 2) := by decide +kernel
theorem dL_ifForbidden_23 : decode cL_ifForbidden 23 = .ok (.iconst 3, 1) := by decide +kernel
theorem dL_ifForbidden_24 : decode cL_ifForbidden 24 = .ok (.ireturn, 1) := by decide +kernel
theorem dL_ifForbidden_25 : decode cL_ifForbidden 25 = .ok (.iconst 0, 1) := by decide +kernel
theorem dL_ifForbidden_26 : decode cL_ifForbidden 26 = .ok (.ireturn, 1) := by decide +kernel
set_option maxRecDepth 20000 in
theorem ggL_tile_X2_tile : GoodIn wsL_tile wsX2_tile := goodIn_ca (goodIn_r _ [6, 7, 8, 9, 10, 11, 12, 5, 13, 14, 15, 16, 17, 18, 19, 20, 21, 22, 23, 24] (by decide +kernel) (by decide +kernel)) (goodIn_sub (fun _ h => List.mem_cons_of_mem _ (List.mem_append_right _ h)) (by decide +kernel))
set_option maxRecDepth 20000 in
theorem gL_tile_X2_tile : GoodIn wsL_tile (wsV RL 61 RX2 yX2_tile wsX2_tile) := goodIn_app (goodIn_of _ (by decide +kernel)) ggL_tile_X2_tile
theorem dL_tile_0 : decode cL_tile 0 = .ok (.aload_n 2, 1) := by decide +kernel
theorem dL_tile_1 : decode cL_tile 1 = .ok (.iconst 0, 1) := by decide +kernel
theorem dL_tile_2 : decode cL_tile 2 = .ok (.aload_n 0, 1) := by decide +kernel
theorem dL_tile_3 : decode cL_tile 3 = .ok (.iload_n 1, 1) := by decide +kernel
theorem dL_tile_4 : decode cL_tile 4 = .ok (.invokevirtual 61, 3) := by decide +kernel
theorem dL_tile_7 : decode cL_tile 7 = .ok (.i2l, 1) := by decide +kernel
theorem dL_tile_8 : decode cL_tile 8 = .ok (.lastore, 1) := by decide +kernel
theorem dL_tile_9 : decode cL_tile 9 = .ok (.goto 6, 3) := by decide +kernel
theorem dL_tile_12 : decode cL_tile 12 = .ok (.astore_n 3, 1) := by decide +kernel
theorem dL_tile_13 : decode cL_tile 13 = .ok (.iconst 1, 1) := by decide +kernel
theorem dL_tile_14 : decode cL_tile 14 = .ok (.ireturn, 1) := by decide +kernel
theorem dL_tile_15 : decode cL_tile 15 = .ok (.iconst 0, 1) := by decide +kernel
theorem dL_tile_16 : decode cL_tile 16 = .ok (.ireturn, 1) := by decide +kernel
set_option maxRecDepth 20000 in
theorem ggL_source_X2_source : GoodIn wsL_source wsX2_source := goodIn_ca (goodIn_r _ [6, 7, 8, 9, 10, 11, 12, 5, 13, 14, 15, 16, 17, 18, 19, 20, 21, 22, 23, 24, 25, 26, 27, 28, 29] (by decide +kernel) (by decide +kernel)) (goodIn_sub (fun _ h => List.mem_cons_of_mem _ (List.mem_append_right _ h)) (by decide +kernel))
set_option maxRecDepth 20000 in
theorem gL_source_X2_source : GoodIn wsL_source (wsV RL 64 RX2 yX2_source wsX2_source) := goodIn_app (goodIn_of _ (by decide +kernel)) ggL_source_X2_source
theorem dL_source_0 : decode cL_source 0 = .ok (.aload_n 3, 1) := by decide +kernel
theorem dL_source_1 : decode cL_source 1 = .ok (.iconst 0, 1) := by decide +kernel
theorem dL_source_2 : decode cL_source 2 = .ok (.aload_n 0, 1) := by decide +kernel
theorem dL_source_3 : decode cL_source 3 = .ok (.iload_n 1, 1) := by decide +kernel
theorem dL_source_4 : decode cL_source 4 = .ok (.iload_n 2, 1) := by decide +kernel
theorem dL_source_5 : decode cL_source 5 = .ok (.invokevirtual 64, 3) := by decide +kernel
theorem dL_source_8 : decode cL_source 8 = .ok (.i2l, 1) := by decide +kernel
theorem dL_source_9 : decode cL_source 9 = .ok (.lastore, 1) := by decide +kernel
theorem dL_source_10 : decode cL_source 10 = .ok (.goto 7, 3) := by decide +kernel
theorem dL_source_13 : decode cL_source 13 = .ok (.astore 4, 2) := by decide +kernel
theorem dL_source_15 : decode cL_source 15 = .ok (.iconst 1, 1) := by decide +kernel
theorem dL_source_16 : decode cL_source 16 = .ok (.ireturn, 1) := by decide +kernel
theorem dL_source_17 : decode cL_source 17 = .ok (.iconst 0, 1) := by decide +kernel
theorem dL_source_18 : decode cL_source 18 = .ok (.ireturn, 1) := by decide +kernel
set_option maxRecDepth 20000 in
theorem ggL_commute_X2_commute : GoodIn wsL_commute wsX2_commute := goodIn_ca (goodIn_r _ [6, 7, 8, 9, 10, 11, 12, 13, 5, 14, 15, 16, 17, 18, 19, 20, 21, 22, 23, 24, 25] (by decide +kernel) (by decide +kernel)) (goodIn_sub (fun _ h => List.mem_cons_of_mem _ (List.mem_append_right _ h)) (by decide +kernel))
set_option maxRecDepth 20000 in
theorem gL_commute_X2_commute : GoodIn wsL_commute (wsV RL 67 RX2 yX2_commute wsX2_commute) := goodIn_app (goodIn_of _ (by decide +kernel)) ggL_commute_X2_commute
theorem dL_commute_0 : decode cL_commute 0 = .ok (.aload_n 3, 1) := by decide +kernel
theorem dL_commute_1 : decode cL_commute 1 = .ok (.iconst 0, 1) := by decide +kernel
theorem dL_commute_2 : decode cL_commute 2 = .ok (.aload_n 0, 1) := by decide +kernel
theorem dL_commute_3 : decode cL_commute 3 = .ok (.iload_n 1, 1) := by decide +kernel
theorem dL_commute_4 : decode cL_commute 4 = .ok (.iload_n 2, 1) := by decide +kernel
theorem dL_commute_5 : decode cL_commute 5 = .ok (.invokevirtual 67, 3) := by decide +kernel
theorem dL_commute_8 : decode cL_commute 8 = .ok (.ifCond .eq 7, 3) := by decide +kernel
theorem dL_commute_11 : decode cL_commute 11 = .ok (.lconst 1, 1) := by decide +kernel
theorem dL_commute_12 : decode cL_commute 12 = .ok (.goto 4, 3) := by decide +kernel
theorem dL_commute_15 : decode cL_commute 15 = .ok (.lconst 0, 1) := by decide +kernel
theorem dL_commute_16 : decode cL_commute 16 = .ok (.lastore, 1) := by decide +kernel
theorem dL_commute_17 : decode cL_commute 17 = .ok (.goto 7, 3) := by decide +kernel
theorem dL_commute_20 : decode cL_commute 20 = .ok (.astore 4, 2) := by decide +kernel
theorem dL_commute_22 : decode cL_commute 22 = .ok (.iconst 1, 1) := by decide +kernel
theorem dL_commute_23 : decode cL_commute 23 = .ok (.ireturn, 1) := by decide +kernel
theorem dL_commute_24 : decode cL_commute 24 = .ok (.iconst 0, 1) := by decide +kernel
theorem dL_commute_25 : decode cL_commute 25 = .ok (.ireturn, 1) := by decide +kernel
set_option maxRecDepth 20000 in
theorem ggL_count_X2_count : GoodIn wsL_count wsX2_count := goodIn_ca (goodIn_r _ [6, 7, 8, 9, 10, 11, 12, 13, 14, 15, 5, 16, 17, 18, 19, 20, 21, 22, 23, 24, 25, 26, 27, 28, 29, 30] (by decide +kernel) (by decide +kernel)) (goodIn_sub (fun _ h => List.mem_cons_of_mem _ (List.mem_append_right _ h)) (by decide +kernel))
set_option maxRecDepth 20000 in
theorem gL_count_X2_count : GoodIn wsL_count (wsV RL 71 RX2 yX2_count wsX2_count) := goodIn_app (goodIn_of _ (by decide +kernel)) ggL_count_X2_count
theorem dL_count_0 : decode cL_count 0 = .ok (.aload_n 2, 1) := by decide +kernel
theorem dL_count_1 : decode cL_count 1 = .ok (.iconst 0, 1) := by decide +kernel
theorem dL_count_2 : decode cL_count 2 = .ok (.aload_n 0, 1) := by decide +kernel
theorem dL_count_3 : decode cL_count 3 = .ok (.iload_n 1, 1) := by decide +kernel
theorem dL_count_4 : decode cL_count 4 = .ok (.invokevirtual 71, 3) := by decide +kernel
theorem dL_count_7 : decode cL_count 7 = .ok (.i2l, 1) := by decide +kernel
theorem dL_count_8 : decode cL_count 8 = .ok (.lastore, 1) := by decide +kernel
theorem dL_count_9 : decode cL_count 9 = .ok (.goto 6, 3) := by decide +kernel
theorem dL_count_12 : decode cL_count 12 = .ok (.astore_n 3, 1) := by decide +kernel
theorem dL_count_13 : decode cL_count 13 = .ok (.iconst 1, 1) := by decide +kernel
theorem dL_count_14 : decode cL_count 14 = .ok (.ireturn, 1) := by decide +kernel
theorem dL_count_15 : decode cL_count 15 = .ok (.iconst 0, 1) := by decide +kernel
theorem dL_count_16 : decode cL_count 16 = .ok (.ireturn, 1) := by decide +kernel
set_option maxRecDepth 20000 in
theorem ggL_law_X2_init : GoodIn wsL_law wsX2_init := goodIn_r _ [9, 10, 11, 12, 13, 14, 15, 16, 17, 18, 19, 20, 21, 22, 23, 24, 25, 26, 27, 28, 29, 30, 31, 32, 6, 33, 34, 35, 36, 37, 38, 39, 40, 41, 42, 43, 44, 45, 46, 47, 48, 49, 50, 51, 52, 53, 54, 55, 56, 57, 58, 59, 60, 61, 2, 62, 740, 741, 742, 743, 744, 745, 746, 747, 748, 749, 769, 770, 771, 772, 773, 774, 775, 776, 777, 778, 779, 780, 781, 782] (by decide +kernel) (by decide +kernel)
set_option maxRecDepth 20000 in
theorem gL_law_X2_init : GoodIn wsL_law (wsX2_init) := ggL_law_X2_init
set_option maxRecDepth 20000 in
theorem ggL_law_X3_init : GoodIn wsL_law wsX3_init := goodIn_r _ [65, 66, 11, 12, 67, 13, 68, 69, 70, 71, 72, 73, 74, 75, 6, 76, 77, 78, 79, 80, 5, 81, 750, 751, 752, 753, 754, 755, 756, 757, 758, 759, 760, 761, 762, 763, 764, 765, 766, 767, 768] (by decide +kernel) (by decide +kernel)
set_option maxRecDepth 20000 in
theorem gL_law_X3_init : GoodIn wsL_law (wsX3_init) := ggL_law_X3_init
set_option maxRecDepth 20000 in
theorem ggL_law_L_begin : GoodIn wsL_law wsL_begin := goodIn_ca (goodIn_r _ [85, 86, 87, 88, 89, 2, 90, 91, 92, 21, 93, 94, 14, 25, 95, 96, 22, 23, 24, 60, 61, 62, 26, 27, 28, 29, 11, 12, 30, 31, 13, 32, 6, 33, 34, 35, 36, 37, 38, 39, 40, 41, 42, 43, 44, 45, 46, 47, 48, 49, 50, 51, 52, 53, 54, 55, 56, 57, 58, 59, 97, 740, 741, 742, 743, 744, 745, 746, 747, 748, 749, 769, 770, 771, 772, 773, 774, 775, 776, 777, 778, 779, 780, 781, 782] (by decide +kernel) (by decide +kernel)) (goodIn_sub (fun _ h => List.mem_append_left _ (List.mem_append_left _ (List.mem_append_right _ h))) (by decide +kernel))
set_option maxRecDepth 20000 in
theorem gL_law_L_begin : GoodIn wsL_law (va_wsS RL 78 yL_begin wsL_begin) := goodIn_app (goodIn_of _ (by decide +kernel)) ggL_law_L_begin
set_option maxRecDepth 20000 in
theorem ggL_law_X3_begin : GoodIn wsL_law wsX3_begin := goodIn_r _ [101, 102, 67, 103, 104, 105, 106, 5, 107, 78, 79, 80, 81, 68, 750, 751, 752, 753, 754, 755, 756, 757, 758, 759, 760, 761, 762, 763, 764, 765, 766, 767, 768] (by decide +kernel) (by decide +kernel)
set_option maxRecDepth 20000 in
theorem gL_law_X3_begin : GoodIn wsL_law (wsV RL 83 RX3 yX3_begin wsX3_begin) := goodIn_app (goodIn_of _ (by decide +kernel)) ggL_law_X3_begin
set_option maxRecDepth 20000 in
theorem ggL_law_X3_thrown : GoodIn wsL_law wsX3_thrown := goodIn_r _ [111, 102, 750, 751, 752, 753, 754, 755, 756, 757, 758, 759, 760, 761, 762, 763, 764, 765, 766, 767, 768] (by decide +kernel) (by decide +kernel)
set_option maxRecDepth 20000 in
theorem gL_law_X3_thrown : GoodIn wsL_law (wsV RL 84 RX3 yX3_thrown wsX3_thrown) := goodIn_app (goodIn_of _ (by decide +kernel)) ggL_law_X3_thrown
set_option maxRecDepth 20000 in
theorem ggL_law_L_addTurn : GoodIn wsL_law wsL_addTurn := goodIn_ca (goodIn_ca (goodIn_ca (goodIn_r _ [114, 115, 86, 116, 117, 118, 119, 2, 120, 121, 122, 91, 92, 123, 124, 93, 21, 125, 126, 127, 128, 129, 130, 131, 132, 133, 134, 135, 18, 136, 137, 138, 139, 25, 94, 140, 141, 142, 24, 143, 32, 34, 53, 54, 35, 61, 62, 144, 145, 146, 147, 148, 149, 150, 151, 152, 153, 154, 155, 156, 157, 158, 159, 160, 55, 56, 57, 58, 39, 59, 40, 740, 741, 742, 743, 744, 745, 746, 747, 748, 749, 769, 770, 771, 772, 773, 774, 775, 776, 777, 778, 779, 780, 781, 782] (by decide +kernel) (by decide +kernel)) (goodIn_sub (fun _ h => List.mem_append_left _ (List.mem_append_right _ h)) (by decide +kernel))) (goodIn_sub (fun _ h => List.mem_append_left _ (List.mem_append_left _ (List.mem_append_right _ h))) (by decide +kernel))) (goodIn_sub (fun _ h => List.mem_append_right _ h) (by decide +kernel))
set_option maxRecDepth 20000 in
theorem gL_law_L_addTurn : GoodIn wsL_law (va_wsS RL 87 yL_addTurn wsL_addTurn) := goodIn_app (goodIn_of _ (by decide +kernel)) ggL_law_L_addTurn
set_option maxRecDepth 20000 in
theorem ggL_law_X3_addTurn : GoodIn wsL_law wsX3_addTurn := goodIn_r _ [164, 103, 102, 67, 71, 165, 166, 167, 5, 168, 105, 106, 107, 169, 170, 171, 172, 69, 104, 750, 751, 752, 753, 754, 755, 756, 757, 758, 759, 760, 761, 762, 763, 764, 765, 766, 767, 768] (by decide +kernel) (by decide +kernel)
set_option maxRecDepth 20000 in
theorem gL_law_X3_addTurn : GoodIn wsL_law (wsV RL 90 RX3 yX3_addTurn wsX3_addTurn) := goodIn_app (goodIn_of _ (by decide +kernel)) ggL_law_X3_addTurn
set_option maxRecDepth 20000 in
theorem ggL_law_L_dropTurn : GoodIn wsL_law wsL_dropTurn := goodIn_ca (goodIn_r _ [175, 116, 176, 177, 178, 2, 179, 123, 124, 93, 94, 740, 741, 742, 743, 744, 745, 746, 747, 748, 749] (by decide +kernel) (by decide +kernel)) (goodIn_sub (fun _ h => List.mem_append_right _ h) (by decide +kernel))
set_option maxRecDepth 20000 in
theorem gL_law_L_dropTurn : GoodIn wsL_law (va_wsS RL 91 yL_dropTurn wsL_dropTurn) := goodIn_app (goodIn_of _ (by decide +kernel)) ggL_law_L_dropTurn
set_option maxRecDepth 20000 in
theorem ggL_law_X3_dropTurn : GoodIn wsL_law wsX3_dropTurn := goodIn_r _ [183, 103, 102, 104, 750, 751, 752, 753, 754, 755, 756, 757, 758, 759, 760, 761, 762, 763, 764, 765, 766, 767, 768] (by decide +kernel) (by decide +kernel)
set_option maxRecDepth 20000 in
theorem gL_law_X3_dropTurn : GoodIn wsL_law (wsV RL 94 RX3 yX3_dropTurn wsX3_dropTurn) := goodIn_app (goodIn_of _ (by decide +kernel)) ggL_law_X3_dropTurn
set_option maxRecDepth 20000 in
theorem ggL_law_L_allow : GoodIn wsL_law wsL_allow := goodIn_ca (goodIn_r _ [186, 86, 187, 188, 189, 2, 190, 91, 92, 93, 94, 740, 741, 742, 743, 744, 745, 746, 747, 748, 749] (by decide +kernel) (by decide +kernel)) (goodIn_sub (fun _ h => List.mem_append_left _ (List.mem_append_left _ (List.mem_append_right _ h))) (by decide +kernel))
set_option maxRecDepth 20000 in
theorem gL_law_L_allow : GoodIn wsL_law (va_wsS RL 95 yL_allow wsL_allow) := goodIn_app (goodIn_of _ (by decide +kernel)) ggL_law_L_allow
set_option maxRecDepth 20000 in
theorem ggL_law_X3_allow : GoodIn wsL_law wsX3_allow := goodIn_r _ [194, 103, 102, 104, 105, 106, 5, 107, 750, 751, 752, 753, 754, 755, 756, 757, 758, 759, 760, 761, 762, 763, 764, 765, 766, 767, 768] (by decide +kernel) (by decide +kernel)
set_option maxRecDepth 20000 in
theorem gL_law_X3_allow : GoodIn wsL_law (wsV RL 97 RX3 yX3_allow wsX3_allow) := goodIn_app (goodIn_of _ (by decide +kernel)) ggL_law_X3_allow
set_option maxRecDepth 20000 in
theorem ggL_law_L_exchange : GoodIn wsL_law wsL_exchange := goodIn_ca (goodIn_r _ [197, 115, 198, 199, 200, 2, 201, 121, 122, 14, 125, 126, 127, 128, 21, 740, 741, 742, 743, 744, 745, 746, 747, 748, 749] (by decide +kernel) (by decide +kernel)) (goodIn_sub (fun _ h => List.mem_append_left _ (List.mem_append_right _ h)) (by decide +kernel))
set_option maxRecDepth 20000 in
theorem gL_law_L_exchange : GoodIn wsL_law (va_wsS RL 98 yL_exchange wsL_exchange) := goodIn_app (goodIn_of _ (by decide +kernel)) ggL_law_L_exchange
set_option maxRecDepth 20000 in
theorem ggL_law_X3_exchange : GoodIn wsL_law wsX3_exchange := goodIn_r _ [205, 102, 68, 165, 166, 167, 5, 168, 67, 105, 106, 107, 750, 751, 752, 753, 754, 755, 756, 757, 758, 759, 760, 761, 762, 763, 764, 765, 766, 767, 768] (by decide +kernel) (by decide +kernel)
set_option maxRecDepth 20000 in
theorem gL_law_X3_exchange : GoodIn wsL_law (wsV RL 101 RX3 yX3_exchange wsX3_exchange) := goodIn_app (goodIn_of _ (by decide +kernel)) ggL_law_X3_exchange
set_option maxRecDepth 20000 in
theorem ggL_law_L_make : GoodIn wsL_law wsL_make := goodIn_ca (goodIn_ca (goodIn_r _ [208, 115, 116, 209, 210, 211, 2, 212, 121, 122, 123, 124, 14, 21, 18, 213, 214, 215, 216, 93, 217, 218, 219, 220, 94, 221, 222, 223, 224, 15, 740, 741, 742, 743, 744, 745, 746, 747, 748, 749] (by decide +kernel) (by decide +kernel)) (goodIn_sub (fun _ h => List.mem_append_left _ (List.mem_append_right _ h)) (by decide +kernel))) (goodIn_sub (fun _ h => List.mem_append_right _ h) (by decide +kernel))
set_option maxRecDepth 20000 in
theorem gL_law_L_make : GoodIn wsL_law (va_wsS RL 102 yL_make wsL_make) := goodIn_app (goodIn_of _ (by decide +kernel)) ggL_law_L_make
set_option maxRecDepth 20000 in
theorem ggL_law_X3_make : GoodIn wsL_law wsX3_make := goodIn_r _ [228, 104, 102, 229, 230, 231, 5, 232, 103, 105, 106, 107, 233, 234, 235, 236, 237, 238, 239, 68, 72, 67, 240, 241, 242, 243, 69, 750, 751, 752, 753, 754, 755, 756, 757, 758, 759, 760, 761, 762, 763, 764, 765, 766, 767, 768] (by decide +kernel) (by decide +kernel)
set_option maxRecDepth 20000 in
theorem gL_law_X3_make : GoodIn wsL_law (wsV RL 104 RX3 yX3_make wsX3_make) := goodIn_app (goodIn_of _ (by decide +kernel)) ggL_law_X3_make
set_option maxRecDepth 20000 in
theorem ggL_law_X2_solve : GoodIn wsL_law wsX2_solve := goodIn_r _ [247, 14, 21, 248, 249, 250, 2, 251, 252, 253, 254, 255, 256, 25, 257, 94, 258, 259, 260, 38, 261, 48, 262, 263, 47, 264, 265, 266, 267, 268, 46, 269, 270, 271, 272, 273, 274, 275, 276, 15, 277, 144, 145, 146, 147, 148, 149, 150, 151, 152, 60, 61, 62, 740, 741, 742, 743, 744, 745, 746, 747, 748, 749, 779, 780, 781, 782, 769, 770, 771, 772, 773, 774, 775, 776, 777, 778] (by decide +kernel) (by decide +kernel)
set_option maxRecDepth 20000 in
theorem gL_law_X2_solve : GoodIn wsL_law (wsV RL 105 RX2 yX2_solve wsX2_solve) := goodIn_app (goodIn_of _ (by decide +kernel)) ggL_law_X2_solve
set_option maxRecDepth 20000 in
theorem ggL_law_X3_solve : GoodIn wsL_law wsX3_solve := goodIn_r _ [281, 102, 104, 74, 282, 283, 284, 5, 285, 286, 287, 288, 289, 67, 290, 291, 292, 293, 294, 295, 296, 297, 298, 75, 299, 300, 301, 302, 71, 103, 72, 303, 304, 305, 306, 233, 234, 235, 307, 308, 309, 240, 241, 242, 243, 69, 310, 311, 312, 313, 314, 315, 316, 317, 68, 318, 319, 320, 321, 322, 323, 324, 325, 236, 237, 238, 239, 750, 751, 752, 753, 754, 755, 756, 757, 758, 759, 760, 761, 762, 763, 764, 765, 766, 767, 768] (by decide +kernel) (by decide +kernel)
set_option maxRecDepth 20000 in
theorem gL_law_X3_solve : GoodIn wsL_law (wsV RL 108 RX3 yX3_solve wsX3_solve) := goodIn_app (goodIn_of _ (by decide +kernel)) ggL_law_X3_solve
set_option maxRecDepth 20000 in
theorem ggL_law_L_append : GoodIn wsL_law wsL_append := goodIn_ca (goodIn_ca (goodIn_r _ [328, 86, 116, 329, 330, 331, 2, 332, 91, 92, 123, 124, 333, 20, 740, 741, 742, 743, 744, 745, 746, 747, 748, 749] (by decide +kernel) (by decide +kernel)) (goodIn_sub (fun _ h => List.mem_append_left _ (List.mem_append_left _ (List.mem_append_right _ h))) (by decide +kernel))) (goodIn_sub (fun _ h => List.mem_append_right _ h) (by decide +kernel))
set_option maxRecDepth 20000 in
theorem gL_law_L_append : GoodIn wsL_law (va_wsS RL 109 yL_append wsL_append) := goodIn_app (goodIn_of _ (by decide +kernel)) ggL_law_L_append
set_option maxRecDepth 20000 in
theorem ggL_law_X3_append : GoodIn wsL_law wsX3_append := goodIn_r _ [337, 338, 102, 70, 105, 106, 5, 107, 750, 751, 752, 753, 754, 755, 756, 757, 758, 759, 760, 761, 762, 763, 764, 765, 766, 767, 768] (by decide +kernel) (by decide +kernel)
set_option maxRecDepth 20000 in
theorem gL_law_X3_append : GoodIn wsL_law (wsV RL 111 RX3 yX3_append wsX3_append) := goodIn_app (goodIn_of _ (by decide +kernel)) ggL_law_X3_append
set_option maxRecDepth 20000 in
theorem ggL_law_X2_clearInput : GoodIn wsL_law wsX2_clearInput := goodIn_r _ [342, 333, 740, 741, 742, 743, 744, 745, 746, 747, 748, 749] (by decide +kernel) (by decide +kernel)
set_option maxRecDepth 20000 in
theorem gL_law_X2_clearInput : GoodIn wsL_law (wsV RL 112 RX2 yX2_clearInput wsX2_clearInput) := goodIn_app (goodIn_of _ (by decide +kernel)) ggL_law_X2_clearInput
set_option maxRecDepth 20000 in
theorem ggL_law_X3_clearInput : GoodIn wsL_law wsX3_clearInput := goodIn_r _ [346, 102, 338, 750, 751, 752, 753, 754, 755, 756, 757, 758, 759, 760, 761, 762, 763, 764, 765, 766, 767, 768] (by decide +kernel) (by decide +kernel)
set_option maxRecDepth 20000 in
theorem gL_law_X3_clearInput : GoodIn wsL_law (wsV RL 115 RX3 yX3_clearInput wsX3_clearInput) := goodIn_app (goodIn_of _ (by decide +kernel)) ggL_law_X3_clearInput
set_option maxRecDepth 20000 in
theorem ggL_law_X2_firstError : GoodIn wsL_law wsX2_firstError := goodIn_r _ [350, 351, 352, 353, 2, 354, 333, 20, 355, 356, 357, 358, 93, 359, 360, 361, 362, 21, 125, 126, 127, 128, 740, 741, 742, 743, 744, 745, 746, 747, 748, 749] (by decide +kernel) (by decide +kernel)
set_option maxRecDepth 20000 in
theorem gL_law_X2_firstError : GoodIn wsL_law (wsV RL 116 RX2 yX2_firstError wsX2_firstError) := goodIn_app (goodIn_of _ (by decide +kernel)) ggL_law_X2_firstError
set_option maxRecDepth 20000 in
theorem ggL_law_X3_firstError : GoodIn wsL_law wsX3_firstError := goodIn_r _ [366, 102, 367, 368, 369, 5, 370, 338, 70, 371, 372, 373, 374, 105, 106, 107, 229, 230, 231, 232, 103, 375, 376, 377, 378, 379, 380, 381, 382, 383, 384, 385, 67, 233, 234, 235, 750, 751, 752, 753, 754, 755, 756, 757, 758, 759, 760, 761, 762, 763, 764, 765, 766, 767, 768] (by decide +kernel) (by decide +kernel)
set_option maxRecDepth 20000 in
theorem gL_law_X3_firstError : GoodIn wsL_law (wsV RL 120 RX3 yX3_firstError wsX3_firstError) := goodIn_app (goodIn_of _ (by decide +kernel)) ggL_law_X3_firstError
set_option maxRecDepth 20000 in
theorem ggL_law_L_load : GoodIn wsL_law wsL_load := goodIn_ca (goodIn_r _ [388, 86, 389, 390, 391, 2, 392, 91, 92, 333, 20, 21, 93, 393, 394, 395, 396, 359, 360, 361, 362, 125, 126, 127, 128, 132, 133, 134, 135, 18, 136, 137, 138, 139, 25, 94, 140, 141, 142, 24, 143, 32, 34, 53, 54, 35, 61, 62, 144, 145, 146, 147, 148, 149, 150, 151, 152, 153, 154, 155, 156, 157, 158, 159, 160, 55, 56, 57, 58, 39, 59, 40, 740, 741, 742, 743, 744, 745, 746, 747, 748, 749, 769, 770, 771, 772, 773, 774, 775, 776, 777, 778, 779, 780, 781, 782] (by decide +kernel) (by decide +kernel)) (goodIn_sub (fun _ h => List.mem_append_left _ (List.mem_append_left _ (List.mem_append_right _ h))) (by decide +kernel))
set_option maxRecDepth 20000 in
theorem gL_law_L_load : GoodIn wsL_law (va_wsS RL 121 yL_load wsL_load) := goodIn_app (goodIn_of _ (by decide +kernel)) ggL_law_L_load
set_option maxRecDepth 20000 in
theorem ggL_law_X3_load : GoodIn wsL_law wsX3_load := goodIn_r _ [400, 338, 381, 67, 102, 379, 71, 70, 103, 375, 376, 377, 5, 378, 380, 382, 383, 384, 385, 105, 106, 107, 233, 234, 235, 169, 170, 171, 172, 69, 104, 750, 751, 752, 753, 754, 755, 756, 757, 758, 759, 760, 761, 762, 763, 764, 765, 766, 767, 768] (by decide +kernel) (by decide +kernel)
set_option maxRecDepth 20000 in
theorem gL_law_X3_load : GoodIn wsL_law (wsV RL 123 RX3 yX3_load wsX3_load) := goodIn_app (goodIn_of _ (by decide +kernel)) ggL_law_X3_load
set_option maxRecDepth 20000 in
theorem ggL_law_L_run : GoodIn wsL_law wsL_run := goodIn_ca (goodIn_ca (goodIn_r _ [403, 86, 116, 404, 405, 406, 2, 407, 91, 92, 123, 124, 333, 20, 14, 408, 409, 410, 411, 351, 352, 353, 354, 355, 356, 357, 358, 93, 217, 218, 219, 220, 94, 213, 214, 215, 216, 412, 413, 414, 415, 221, 222, 223, 224, 21, 15, 18, 416, 340, 341, 342, 740, 741, 742, 743, 744, 745, 746, 747, 748, 749] (by decide +kernel) (by decide +kernel)) (goodIn_sub (fun _ h => List.mem_append_left _ (List.mem_append_left _ (List.mem_append_right _ h))) (by decide +kernel))) (goodIn_sub (fun _ h => List.mem_append_right _ h) (by decide +kernel))
set_option maxRecDepth 20000 in
theorem gL_law_L_run : GoodIn wsL_law (va_wsS RL 124 yL_run wsL_run) := goodIn_app (goodIn_of _ (by decide +kernel)) ggL_law_L_run
set_option maxRecDepth 20000 in
theorem ggL_law_X3_run : GoodIn wsL_law wsX3_run := goodIn_r _ [420, 102, 338, 70, 421, 422, 423, 5, 424, 367, 368, 369, 370, 371, 372, 373, 374, 105, 106, 107, 229, 230, 231, 232, 103, 425, 426, 427, 428, 104, 233, 234, 235, 236, 237, 238, 239, 68, 72, 67, 240, 241, 242, 243, 69, 750, 751, 752, 753, 754, 755, 756, 757, 758, 759, 760, 761, 762, 763, 764, 765, 766, 767, 768] (by decide +kernel) (by decide +kernel)
set_option maxRecDepth 20000 in
theorem gL_law_X3_run : GoodIn wsL_law (wsV RL 126 RX3 yX3_run wsX3_run) := goodIn_app (goodIn_of _ (by decide +kernel)) ggL_law_X3_run
set_option maxRecDepth 20000 in
theorem ggL_law_L_order : GoodIn wsL_law wsL_order := goodIn_ca (goodIn_r _ [431, 86, 432, 433, 434, 2, 435, 91, 92, 16, 21, 96, 408, 409, 410, 411, 333, 351, 352, 353, 354, 20, 355, 356, 357, 358, 93, 60, 61, 62, 412, 413, 414, 415, 221, 222, 223, 224, 15, 18, 436, 437, 438, 439, 740, 741, 742, 743, 744, 745, 746, 747, 748, 749] (by decide +kernel) (by decide +kernel)) (goodIn_sub (fun _ h => List.mem_append_left _ (List.mem_append_left _ (List.mem_append_right _ h))) (by decide +kernel))
set_option maxRecDepth 20000 in
theorem gL_law_L_order : GoodIn wsL_law (va_wsS RL 127 yL_order wsL_order) := goodIn_app (goodIn_of _ (by decide +kernel)) ggL_law_L_order
set_option maxRecDepth 20000 in
theorem ggL_law_X3_order : GoodIn wsL_law wsX3_order := goodIn_r _ [443, 102, 71, 338, 70, 72, 421, 422, 423, 5, 424, 367, 368, 369, 370, 371, 372, 373, 374, 105, 106, 107, 229, 230, 231, 232, 103, 303, 304, 305, 306, 67, 291, 292, 293, 294, 233, 234, 235, 240, 241, 242, 243, 69, 444, 445, 446, 447, 310, 311, 312, 313, 750, 751, 752, 753, 754, 755, 756, 757, 758, 759, 760, 761, 762, 763, 764, 765, 766, 767, 768] (by decide +kernel) (by decide +kernel)
set_option maxRecDepth 20000 in
theorem gL_law_X3_order : GoodIn wsL_law (wsV RL 129 RX3 yX3_order wsX3_order) := goodIn_app (goodIn_of _ (by decide +kernel)) ggL_law_X3_order
set_option maxRecDepth 20000 in
theorem ggL_law_L_group : GoodIn wsL_law wsL_group := goodIn_ca (goodIn_r _ [450, 86, 451, 452, 453, 2, 454, 91, 92, 455, 253, 254, 255, 256, 25, 257, 94, 258, 259, 260, 38, 261, 48, 262, 263, 47, 264, 265, 266, 267, 268, 46, 269, 270, 271, 272, 456, 457, 458, 459, 21, 460, 461, 462, 463, 93, 217, 218, 219, 220, 213, 214, 215, 216, 464, 465, 466, 467, 18, 468, 469, 470, 471, 472, 473, 474, 475, 476, 477, 478, 479, 779, 780, 781, 782, 740, 741, 742, 743, 744, 745, 746, 747, 748, 749, 769, 770, 771, 772, 773, 774, 775, 776, 777, 778] (by decide +kernel) (by decide +kernel)) (goodIn_sub (fun _ h => List.mem_append_left _ (List.mem_append_left _ (List.mem_append_right _ h))) (by decide +kernel))
set_option maxRecDepth 20000 in
theorem gL_law_L_group : GoodIn wsL_law (va_wsS RL 130 yL_group wsL_group) := goodIn_app (goodIn_of _ (by decide +kernel)) ggL_law_L_group
set_option maxRecDepth 20000 in
theorem ggL_law_X3_group : GoodIn wsL_law wsX3_group := goodIn_r _ [483, 102, 104, 105, 106, 5, 107, 282, 283, 284, 285, 286, 287, 288, 289, 67, 74, 290, 291, 292, 293, 294, 295, 296, 297, 298, 75, 299, 300, 301, 302, 71, 103, 72, 303, 304, 305, 306, 233, 234, 235, 307, 308, 309, 240, 241, 242, 243, 69, 310, 311, 312, 313, 484, 485, 486, 487, 488, 489, 490, 491, 492, 493, 494, 495, 496, 497, 498, 499, 500, 501, 502, 503, 750, 751, 752, 753, 754, 755, 756, 757, 758, 759, 760, 761, 762, 763, 764, 765, 766, 767, 768] (by decide +kernel) (by decide +kernel)
set_option maxRecDepth 20000 in
theorem gL_law_X3_group : GoodIn wsL_law (wsV RL 132 RX3 yX3_group wsX3_group) := goodIn_app (goodIn_of _ (by decide +kernel)) ggL_law_X3_group
set_option maxRecDepth 20000 in
theorem ggL_law_L_basicOrbit : GoodIn wsL_law wsL_basicOrbit := goodIn_ca (goodIn_r _ [506, 115, 507, 508, 509, 2, 510, 121, 122, 96, 21, 125, 126, 127, 128, 253, 254, 255, 256, 25, 257, 94, 258, 259, 260, 38, 261, 48, 262, 263, 47, 264, 265, 266, 267, 268, 46, 269, 270, 271, 272, 511, 512, 513, 514, 740, 741, 742, 743, 744, 745, 746, 747, 748, 749, 769, 770, 771, 772, 773, 774, 775, 776, 777, 778, 779, 780, 781, 782] (by decide +kernel) (by decide +kernel)) (goodIn_sub (fun _ h => List.mem_append_left _ (List.mem_append_right _ h)) (by decide +kernel))
set_option maxRecDepth 20000 in
theorem gL_law_L_basicOrbit : GoodIn wsL_law (va_wsS RL 133 yL_basicOrbit wsL_basicOrbit) := goodIn_app (goodIn_of _ (by decide +kernel)) ggL_law_L_basicOrbit
set_option maxRecDepth 20000 in
theorem ggL_law_X3_basicOrbit : GoodIn wsL_law wsX3_basicOrbit := goodIn_r _ [518, 102, 104, 165, 166, 167, 5, 168, 67, 105, 106, 107, 282, 283, 284, 285, 286, 287, 288, 289, 74, 290, 291, 292, 293, 294, 295, 296, 297, 298, 75, 299, 300, 301, 302, 71, 103, 72, 303, 304, 305, 306, 233, 234, 235, 307, 308, 309, 240, 241, 242, 243, 69, 310, 311, 312, 313, 519, 520, 521, 522, 750, 751, 752, 753, 754, 755, 756, 757, 758, 759, 760, 761, 762, 763, 764, 765, 766, 767, 768] (by decide +kernel) (by decide +kernel)
set_option maxRecDepth 20000 in
theorem gL_law_X3_basicOrbit : GoodIn wsL_law (wsV RL 135 RX3 yX3_basicOrbit wsX3_basicOrbit) := goodIn_app (goodIn_of _ (by decide +kernel)) ggL_law_X3_basicOrbit
set_option maxRecDepth 20000 in
theorem ggL_law_X2_layer : GoodIn wsL_law wsX2_layer := goodIn_r _ [526, 253, 254, 255, 2, 256, 25, 257, 94, 258, 259, 260, 38, 261, 48, 262, 263, 47, 264, 265, 266, 267, 268, 46, 269, 270, 271, 272, 527, 528, 529, 530, 740, 741, 742, 743, 744, 745, 746, 747, 748, 749, 769, 770, 771, 772, 773, 774, 775, 776, 777, 778, 779, 780, 781, 782] (by decide +kernel) (by decide +kernel)
set_option maxRecDepth 20000 in
theorem gL_law_X2_layer : GoodIn wsL_law (wsV RL 136 RX2 yX2_layer wsX2_layer) := goodIn_app (goodIn_of _ (by decide +kernel)) ggL_law_X2_layer
set_option maxRecDepth 20000 in
theorem ggL_law_X3_layer : GoodIn wsL_law wsX3_layer := goodIn_r _ [534, 102, 104, 282, 283, 284, 5, 285, 286, 287, 288, 289, 67, 74, 290, 291, 292, 293, 294, 295, 296, 297, 298, 75, 299, 300, 301, 302, 71, 103, 72, 303, 304, 305, 306, 233, 234, 235, 307, 308, 309, 240, 241, 242, 243, 69, 310, 311, 312, 313, 535, 536, 537, 538, 750, 751, 752, 753, 754, 755, 756, 757, 758, 759, 760, 761, 762, 763, 764, 765, 766, 767, 768] (by decide +kernel) (by decide +kernel)
set_option maxRecDepth 20000 in
theorem gL_law_X3_layer : GoodIn wsL_law (wsV RL 139 RX3 yX3_layer wsX3_layer) := goodIn_app (goodIn_of _ (by decide +kernel)) ggL_law_X3_layer
set_option maxRecDepth 20000 in
theorem ggL_law_X2_length : GoodIn wsL_law wsX2_length := goodIn_r _ [251, 252, 253, 254, 255, 2, 256, 25, 257, 94, 258, 259, 260, 38, 261, 48, 262, 263, 47, 264, 265, 266, 267, 268, 46, 269, 270, 271, 272, 273, 274, 275, 276, 21, 15, 14, 277, 144, 145, 146, 147, 148, 149, 150, 151, 152, 779, 780, 781, 782, 740, 741, 742, 743, 744, 745, 746, 747, 748, 749, 769, 770, 771, 772, 773, 774, 775, 776, 777, 778] (by decide +kernel) (by decide +kernel)
set_option maxRecDepth 20000 in
theorem gL_law_X2_length : GoodIn wsL_law (wsV RL 140 RX2 yX2_length wsX2_length) := goodIn_app (goodIn_of _ (by decide +kernel)) ggL_law_X2_length
set_option maxRecDepth 20000 in
theorem ggL_law_X3_length : GoodIn wsL_law wsX3_length := goodIn_r _ [543, 102, 104, 74, 282, 283, 284, 5, 285, 286, 287, 288, 289, 67, 290, 291, 292, 293, 294, 295, 296, 297, 298, 75, 299, 300, 301, 302, 71, 103, 72, 303, 304, 305, 306, 233, 234, 235, 307, 308, 309, 240, 241, 242, 243, 69, 310, 311, 312, 313, 314, 315, 316, 317, 68, 750, 751, 752, 753, 754, 755, 756, 757, 758, 759, 760, 761, 762, 763, 764, 765, 766, 767, 768] (by decide +kernel) (by decide +kernel)
set_option maxRecDepth 20000 in
theorem gL_law_X3_length : GoodIn wsL_law (wsV RL 143 RX3 yX3_length wsX3_length) := goodIn_app (goodIn_of _ (by decide +kernel)) ggL_law_X3_length
set_option maxRecDepth 20000 in
theorem ggL_law_X2_wordMove : GoodIn wsL_law wsX2_wordMove := goodIn_r _ [547, 252, 25, 548, 253, 254, 255, 2, 256, 257, 94, 258, 259, 260, 38, 261, 48, 262, 263, 47, 264, 265, 266, 267, 268, 46, 269, 270, 271, 272, 273, 274, 275, 276, 21, 15, 14, 277, 144, 145, 146, 147, 148, 149, 150, 151, 152, 549, 550, 551, 552, 553, 554, 555, 556, 779, 780, 781, 782, 740, 741, 742, 743, 744, 745, 746, 747, 748, 749, 769, 770, 771, 772, 773, 774, 775, 776, 777, 778] (by decide +kernel) (by decide +kernel)
set_option maxRecDepth 20000 in
theorem gL_law_X2_wordMove : GoodIn wsL_law (wsV RL 144 RX2 yX2_wordMove wsX2_wordMove) := goodIn_app (goodIn_of _ (by decide +kernel)) ggL_law_X2_wordMove
set_option maxRecDepth 20000 in
theorem ggL_law_X3_wordMove : GoodIn wsL_law wsX3_wordMove := goodIn_r _ [560, 102, 104, 282, 283, 284, 5, 285, 286, 287, 288, 289, 67, 74, 290, 291, 292, 293, 294, 295, 296, 297, 298, 75, 299, 300, 301, 302, 71, 103, 72, 303, 304, 305, 306, 233, 234, 235, 307, 308, 309, 240, 241, 242, 243, 69, 310, 311, 312, 313, 561, 562, 563, 564, 314, 315, 316, 317, 68, 105, 106, 107, 318, 319, 320, 321, 322, 323, 324, 325, 750, 751, 752, 753, 754, 755, 756, 757, 758, 759, 760, 761, 762, 763, 764, 765, 766, 767, 768] (by decide +kernel) (by decide +kernel)
set_option maxRecDepth 20000 in
theorem gL_law_X3_wordMove : GoodIn wsL_law (wsV RL 147 RX3 yX3_wordMove wsX3_wordMove) := goodIn_app (goodIn_of _ (by decide +kernel)) ggL_law_X3_wordMove
set_option maxRecDepth 20000 in
theorem ggL_law_X2_words : GoodIn wsL_law wsX2_words := goodIn_r _ [568, 252, 25, 253, 254, 255, 2, 256, 257, 94, 258, 259, 260, 38, 261, 48, 262, 263, 47, 264, 265, 266, 267, 268, 46, 269, 270, 271, 272, 273, 274, 275, 276, 21, 15, 14, 277, 144, 145, 146, 147, 148, 149, 150, 151, 152, 569, 570, 571, 572, 573, 553, 554, 555, 556, 779, 780, 781, 782, 740, 741, 742, 743, 744, 745, 746, 747, 748, 749, 769, 770, 771, 772, 773, 774, 775, 776, 777, 778] (by decide +kernel) (by decide +kernel)
set_option maxRecDepth 20000 in
theorem gL_law_X2_words : GoodIn wsL_law (wsV RL 148 RX2 yX2_words wsX2_words) := goodIn_app (goodIn_of _ (by decide +kernel)) ggL_law_X2_words
set_option maxRecDepth 20000 in
theorem ggL_law_X3_words : GoodIn wsL_law wsX3_words := goodIn_r _ [577, 102, 104, 282, 283, 284, 5, 285, 286, 287, 288, 289, 67, 74, 290, 291, 292, 293, 294, 295, 296, 297, 298, 75, 299, 300, 301, 302, 71, 103, 72, 303, 304, 305, 306, 233, 234, 235, 307, 308, 309, 240, 241, 242, 243, 69, 310, 311, 312, 313, 578, 579, 580, 581, 76, 314, 315, 316, 317, 68, 322, 323, 324, 325, 750, 751, 752, 753, 754, 755, 756, 757, 758, 759, 760, 761, 762, 763, 764, 765, 766, 767, 768] (by decide +kernel) (by decide +kernel)
set_option maxRecDepth 20000 in
theorem gL_law_X3_words : GoodIn wsL_law (wsV RL 152 RX3 yX3_words wsX3_words) := goodIn_app (goodIn_of _ (by decide +kernel)) ggL_law_X3_words
set_option maxRecDepth 20000 in
theorem ggL_law_L_phase : GoodIn wsL_law wsL_phase := goodIn_ca (goodIn_r _ [584, 86, 585, 586, 587, 2, 588, 91, 92, 94, 252, 25, 589, 273, 274, 275, 276, 21, 15, 14, 277, 144, 145, 146, 147, 148, 149, 150, 151, 152, 253, 254, 255, 256, 257, 258, 259, 260, 38, 261, 48, 262, 263, 47, 264, 265, 266, 267, 268, 46, 269, 270, 271, 272, 590, 591, 592, 593, 594, 595, 596, 597, 598, 740, 741, 742, 743, 744, 745, 746, 747, 748, 749, 779, 780, 781, 782, 769, 770, 771, 772, 773, 774, 775, 776, 777, 778] (by decide +kernel) (by decide +kernel)) (goodIn_sub (fun _ h => List.mem_append_left _ (List.mem_append_left _ (List.mem_append_right _ h))) (by decide +kernel))
set_option maxRecDepth 20000 in
theorem gL_law_L_phase : GoodIn wsL_law (va_wsS RL 153 yL_phase wsL_phase) := goodIn_app (goodIn_of _ (by decide +kernel)) ggL_law_L_phase
set_option maxRecDepth 20000 in
theorem ggL_law_X3_phase : GoodIn wsL_law wsX3_phase := goodIn_r _ [602, 104, 102, 105, 106, 5, 107, 603, 604, 605, 606, 74, 290, 77, 75, 282, 283, 284, 285, 286, 287, 288, 289, 67, 291, 292, 293, 294, 295, 296, 297, 298, 299, 300, 301, 302, 71, 103, 72, 303, 304, 305, 306, 233, 234, 235, 307, 308, 309, 240, 241, 242, 243, 69, 310, 311, 312, 313, 314, 315, 316, 317, 68, 318, 319, 320, 321, 322, 323, 324, 325, 750, 751, 752, 753, 754, 755, 756, 757, 758, 759, 760, 761, 762, 763, 764, 765, 766, 767, 768] (by decide +kernel) (by decide +kernel)
set_option maxRecDepth 20000 in
theorem gL_law_X3_phase : GoodIn wsL_law (wsV RL 155 RX3 yX3_phase wsX3_phase) := goodIn_app (goodIn_of _ (by decide +kernel)) ggL_law_X3_phase
set_option maxRecDepth 20000 in
theorem ggL_law_L_ifForbidden : GoodIn wsL_law wsL_ifForbidden := goodIn_ca (goodIn_ca (goodIn_ca (goodIn_r _ [609, 115, 86, 116, 610, 611, 612, 2, 613, 121, 122, 91, 92, 123, 124, 94, 455, 252, 213, 214, 215, 216, 93, 217, 218, 219, 220, 590, 591, 592, 593, 25, 594, 258, 259, 260, 38, 261, 48, 262, 263, 47, 264, 265, 266, 267, 268, 46, 269, 270, 271, 272, 273, 274, 275, 276, 21, 15, 14, 277, 144, 145, 146, 147, 148, 149, 150, 151, 152, 740, 741, 742, 743, 744, 745, 746, 747, 748, 749, 779, 780, 781, 782, 769, 770, 771, 772, 773, 774, 775, 776, 777, 778] (by decide +kernel) (by decide +kernel)) (goodIn_sub (fun _ h => List.mem_append_left _ (List.mem_append_right _ h)) (by decide +kernel))) (goodIn_sub (fun _ h => List.mem_append_left _ (List.mem_append_left _ (List.mem_append_right _ h))) (by decide +kernel))) (goodIn_sub (fun _ h => List.mem_append_right _ h) (by decide +kernel))
set_option maxRecDepth 20000 in
theorem gL_law_L_ifForbidden : GoodIn wsL_law (va_wsS RL 156 yL_ifForbidden wsL_ifForbidden) := goodIn_app (goodIn_of _ (by decide +kernel)) ggL_law_L_ifForbidden
set_option maxRecDepth 20000 in
theorem ggL_law_X3_ifForbidden : GoodIn wsL_law wsX3_ifForbidden := goodIn_r _ [617, 104, 102, 290, 74, 229, 230, 231, 5, 232, 103, 105, 106, 107, 233, 234, 235, 282, 283, 284, 285, 286, 287, 288, 289, 67, 291, 292, 293, 294, 295, 296, 297, 298, 75, 299, 300, 301, 302, 71, 72, 303, 304, 305, 306, 307, 308, 309, 240, 241, 242, 243, 69, 310, 311, 312, 313, 314, 315, 316, 317, 68, 750, 751, 752, 753, 754, 755, 756, 757, 758, 759, 760, 761, 762, 763, 764, 765, 766, 767, 768] (by decide +kernel) (by decide +kernel)
set_option maxRecDepth 20000 in
theorem gL_law_X3_ifForbidden : GoodIn wsL_law (wsV RL 158 RX3 yX3_ifForbidden wsX3_ifForbidden) := goodIn_app (goodIn_of _ (by decide +kernel)) ggL_law_X3_ifForbidden
set_option maxRecDepth 20000 in
theorem ggL_law_L_tile : GoodIn wsL_law wsL_tile := goodIn_ca (goodIn_r _ [620, 115, 621, 622, 623, 2, 624, 121, 122, 14, 125, 126, 127, 128, 21, 740, 741, 742, 743, 744, 745, 746, 747, 748, 749] (by decide +kernel) (by decide +kernel)) (goodIn_sub (fun _ h => List.mem_append_left _ (List.mem_append_right _ h)) (by decide +kernel))
set_option maxRecDepth 20000 in
theorem gL_law_L_tile : GoodIn wsL_law (va_wsS RL 159 yL_tile wsL_tile) := goodIn_app (goodIn_of _ (by decide +kernel)) ggL_law_L_tile
set_option maxRecDepth 20000 in
theorem ggL_law_X3_tile : GoodIn wsL_law wsX3_tile := goodIn_r _ [628, 102, 68, 165, 166, 167, 5, 168, 67, 105, 106, 107, 750, 751, 752, 753, 754, 755, 756, 757, 758, 759, 760, 761, 762, 763, 764, 765, 766, 767, 768] (by decide +kernel) (by decide +kernel)
set_option maxRecDepth 20000 in
theorem gL_law_X3_tile : GoodIn wsL_law (wsV RL 161 RX3 yX3_tile wsX3_tile) := goodIn_app (goodIn_of _ (by decide +kernel)) ggL_law_X3_tile
set_option maxRecDepth 20000 in
theorem ggL_law_L_source : GoodIn wsL_law wsL_source := goodIn_ca (goodIn_r _ [631, 115, 632, 633, 634, 2, 635, 121, 122, 18, 213, 214, 215, 216, 93, 125, 126, 127, 128, 21, 740, 741, 742, 743, 744, 745, 746, 747, 748, 749] (by decide +kernel) (by decide +kernel)) (goodIn_sub (fun _ h => List.mem_append_left _ (List.mem_append_right _ h)) (by decide +kernel))
set_option maxRecDepth 20000 in
theorem gL_law_L_source : GoodIn wsL_law (va_wsS RL 162 yL_source wsL_source) := goodIn_app (goodIn_of _ (by decide +kernel)) ggL_law_L_source
set_option maxRecDepth 20000 in
theorem ggL_law_X3_source : GoodIn wsL_law wsX3_source := goodIn_r _ [639, 102, 69, 229, 230, 231, 5, 232, 103, 105, 106, 107, 165, 166, 167, 168, 67, 750, 751, 752, 753, 754, 755, 756, 757, 758, 759, 760, 761, 762, 763, 764, 765, 766, 767, 768] (by decide +kernel) (by decide +kernel)
set_option maxRecDepth 20000 in
theorem gL_law_X3_source : GoodIn wsL_law (wsV RL 164 RX3 yX3_source wsX3_source) := goodIn_app (goodIn_of _ (by decide +kernel)) ggL_law_X3_source
set_option maxRecDepth 20000 in
theorem ggL_law_L_commute : GoodIn wsL_law wsL_commute := goodIn_ca (goodIn_r _ [642, 115, 643, 644, 645, 2, 646, 121, 122, 21, 18, 213, 214, 215, 216, 93, 740, 741, 742, 743, 744, 745, 746, 747, 748, 749] (by decide +kernel) (by decide +kernel)) (goodIn_sub (fun _ h => List.mem_append_left _ (List.mem_append_right _ h)) (by decide +kernel))
set_option maxRecDepth 20000 in
theorem gL_law_L_commute : GoodIn wsL_law (va_wsS RL 165 yL_commute wsL_commute) := goodIn_app (goodIn_of _ (by decide +kernel)) ggL_law_L_commute
set_option maxRecDepth 20000 in
theorem ggL_law_X3_commute : GoodIn wsL_law wsX3_commute := goodIn_r _ [650, 102, 67, 69, 229, 230, 231, 5, 232, 103, 105, 106, 107, 750, 751, 752, 753, 754, 755, 756, 757, 758, 759, 760, 761, 762, 763, 764, 765, 766, 767, 768] (by decide +kernel) (by decide +kernel)
set_option maxRecDepth 20000 in
theorem gL_law_X3_commute : GoodIn wsL_law (wsV RL 167 RX3 yX3_commute wsX3_commute) := goodIn_app (goodIn_of _ (by decide +kernel)) ggL_law_X3_commute
set_option maxRecDepth 20000 in
theorem ggL_law_L_count : GoodIn wsL_law wsL_count := goodIn_ca (goodIn_r _ [653, 86, 654, 655, 656, 2, 657, 91, 92, 21, 93, 94, 14, 436, 437, 438, 439, 476, 477, 478, 479, 740, 741, 742, 743, 744, 745, 746, 747, 748, 749] (by decide +kernel) (by decide +kernel)) (goodIn_sub (fun _ h => List.mem_append_left _ (List.mem_append_left _ (List.mem_append_right _ h))) (by decide +kernel))
set_option maxRecDepth 20000 in
theorem gL_law_L_count : GoodIn wsL_law (va_wsS RL 168 yL_count wsL_count) := goodIn_app (goodIn_of _ (by decide +kernel)) ggL_law_L_count
set_option maxRecDepth 20000 in
theorem ggL_law_X3_count : GoodIn wsL_law wsX3_count := goodIn_r _ [661, 102, 105, 106, 5, 107, 662, 663, 664, 665, 67, 68, 103, 104, 500, 501, 502, 503, 750, 751, 752, 753, 754, 755, 756, 757, 758, 759, 760, 761, 762, 763, 764, 765, 766, 767, 768] (by decide +kernel) (by decide +kernel)
set_option maxRecDepth 20000 in
theorem gL_law_X3_count : GoodIn wsL_law (wsV RL 170 RX3 yX3_count wsX3_count) := goodIn_app (goodIn_of _ (by decide +kernel)) ggL_law_X3_count
set_option maxRecDepth 20000 in
theorem ggL_law_X2_meanLength : GoodIn wsL_law wsX2_meanLength := goodIn_r _ [669, 455, 253, 254, 255, 2, 256, 25, 257, 94, 258, 259, 260, 38, 261, 48, 262, 263, 47, 264, 265, 266, 267, 268, 46, 269, 270, 271, 272, 670, 671, 672, 673, 779, 780, 781, 782, 740, 741, 742, 743, 744, 745, 746, 747, 748, 749, 769, 770, 771, 772, 773, 774, 775, 776, 777, 778] (by decide +kernel) (by decide +kernel)
set_option maxRecDepth 20000 in
theorem gL_law_X2_meanLength : GoodIn wsL_law (wsV RL 171 RX2 yX2_meanLength wsX2_meanLength) := goodIn_app (goodIn_of _ (by decide +kernel)) ggL_law_X2_meanLength
set_option maxRecDepth 20000 in
theorem ggL_law_X3_meanLength : GoodIn wsL_law wsX3_meanLength := goodIn_r _ [677, 102, 104, 282, 283, 284, 5, 285, 286, 287, 288, 289, 67, 74, 290, 291, 292, 293, 294, 295, 296, 297, 298, 75, 299, 300, 301, 302, 71, 103, 72, 303, 304, 305, 306, 233, 234, 235, 307, 308, 309, 240, 241, 242, 243, 69, 310, 311, 312, 313, 678, 679, 680, 681, 750, 751, 752, 753, 754, 755, 756, 757, 758, 759, 760, 761, 762, 763, 764, 765, 766, 767, 768] (by decide +kernel) (by decide +kernel)
set_option maxRecDepth 20000 in
theorem gL_law_X3_meanLength : GoodIn wsL_law (wsV RL 175 RX3 yX3_meanLength wsX3_meanLength) := goodIn_app (goodIn_of _ (by decide +kernel)) ggL_law_X3_meanLength
set_option maxRecDepth 20000 in
theorem ggL_law_X2_digest : GoodIn wsL_law wsX2_digest := goodIn_ca (goodIn_ca (goodIn_r _ [685, 686, 687, 333, 20, 688, 655, 656, 2, 657, 91, 92, 21, 93, 94, 14, 436, 437, 438, 439, 476, 477, 478, 479, 689, 690, 691, 692, 18, 693, 694, 695, 696, 697, 452, 453, 454, 455, 253, 254, 255, 256, 25, 257, 258, 259, 260, 38, 261, 48, 262, 263, 47, 264, 265, 266, 267, 268, 46, 269, 270, 271, 272, 456, 457, 458, 459, 460, 461, 462, 463, 217, 218, 219, 220, 213, 214, 215, 216, 464, 465, 466, 467, 468, 469, 470, 471, 472, 473, 474, 475, 698, 508, 509, 510, 121, 122, 96, 125, 126, 127, 128, 511, 512, 513, 514, 699, 524, 525, 526, 527, 528, 529, 530, 700, 701, 702, 703, 248, 249, 250, 251, 252, 273, 274, 275, 276, 15, 277, 144, 145, 146, 147, 148, 149, 150, 151, 152, 704, 566, 567, 568, 569, 570, 571, 572, 573, 553, 554, 555, 556, 705, 545, 546, 547, 548, 549, 550, 551, 552, 706, 667, 668, 669, 670, 671, 672, 673, 707, 708, 709, 710, 711, 712, 740, 741, 742, 743, 744, 745, 746, 747, 748, 749, 779, 780, 781, 782, 769, 770, 771, 772, 773, 774, 775, 776, 777, 778] (by decide +kernel) (by decide +kernel)) (goodIn_sub (fun _ h => List.mem_append_left _ (List.mem_append_left _ (List.mem_append_right _ h))) (by decide +kernel))) (goodIn_sub (fun _ h => List.mem_append_left _ (List.mem_append_right _ h)) (by decide +kernel))
set_option maxRecDepth 20000 in
theorem gL_law_X2_digest : GoodIn wsL_law (wsV RL 176 RX2 yX2_digest wsX2_digest) := goodIn_app (goodIn_of _ (by decide +kernel)) ggL_law_X2_digest
set_option maxRecDepth 20000 in
theorem ggL_law_X3_digest : GoodIn wsL_law wsX3_digest := goodIn_r _ [716, 102, 717, 718, 104, 67, 74, 338, 70, 719, 720, 721, 5, 722, 68, 103, 69, 662, 663, 664, 665, 500, 501, 502, 503, 723, 724, 725, 726, 727, 282, 283, 284, 285, 286, 287, 288, 289, 290, 291, 292, 293, 294, 295, 296, 297, 298, 75, 299, 300, 301, 302, 71, 72, 303, 304, 305, 306, 233, 234, 235, 307, 308, 309, 240, 241, 242, 243, 310, 311, 312, 313, 484, 485, 486, 487, 488, 489, 490, 491, 492, 493, 494, 495, 496, 497, 498, 499, 519, 520, 521, 522, 535, 536, 537, 538, 314, 315, 316, 317, 578, 579, 580, 581, 76, 322, 323, 324, 325, 561, 562, 563, 564, 105, 106, 107, 318, 319, 320, 321, 678, 679, 680, 681, 728, 729, 730, 731, 732, 733, 734, 735, 736, 737, 738, 739, 750, 751, 752, 753, 754, 755, 756, 757, 758, 759, 760, 761, 762, 763, 764, 765, 766, 767, 768] (by decide +kernel) (by decide +kernel)
set_option maxRecDepth 20000 in
theorem gL_law_X3_digest : GoodIn wsL_law (wsV RL 179 RX3 yX3_digest wsX3_digest) := goodIn_app (goodIn_of _ (by decide +kernel)) ggL_law_X3_digest
