theorem dX2_wordMove_31 : decode cX2_wordMove 31 = .ok (.iload_n 3, 1) := by decide +kernel
theorem dX2_wordMove_32 : decode cX2_wordMove 32 = .ok (.invokevirtual 193, 3) := by decide +kernel
theorem dX2_wordMove_35 : decode cX2_wordMove 35 = .ok (.istore 4, 2) := by decide +kernel
theorem dX2_wordMove_37 : decode cX2_wordMove 37 = .ok (.iconst 0, 1) := by decide +kernel
theorem dX2_wordMove_38 : decode cX2_wordMove 38 = .ok (.istore 5, 2) := by decide +kernel
theorem dX2_wordMove_40 : decode cX2_wordMove 40 = .ok (.iload 5, 2) := by decide +kernel
theorem dX2_wordMove_42 : decode cX2_wordMove 42 = .ok (.iload_n 1, 1) := by decide +kernel
theorem dX2_wordMove_43 : decode cX2_wordMove 43 = .ok (.if_icmp .ge 39, 3) := by decide +kernel
theorem dX2_wordMove_46 : decode cX2_wordMove 46 = .ok (.iload 4, 2) := by decide +kernel
theorem dX2_wordMove_48 : decode cX2_wordMove 48 = .ok (.iconst (-1), 1) := by decide +kernel
theorem dX2_wordMove_49 : decode cX2_wordMove 49 = .ok (.if_icmp .eq 33, 3) := by decide +kernel
theorem dX2_wordMove_52 : decode cX2_wordMove 52 = .ok (.aload_n 0, 1) := by decide +kernel
theorem dX2_wordMove_53 : decode cX2_wordMove 53 = .ok (.getfield 37, 3) := by decide +kernel
theorem dX2_wordMove_56 : decode cX2_wordMove 56 = .ok (.getfield 197, 3) := by decide +kernel
theorem dX2_wordMove_59 : decode cX2_wordMove 59 = .ok (.iload 4, 2) := by decide +kernel
theorem dX2_wordMove_61 : decode cX2_wordMove 61 = .ok (.aaload, 1) := by decide +kernel
theorem dX2_wordMove_62 : decode cX2_wordMove 62 = .ok (.iload_n 3, 1) := by decide +kernel
theorem dX2_wordMove_63 : decode cX2_wordMove 63 = .ok (.iaload, 1) := by decide +kernel
theorem dX2_wordMove_64 : decode cX2_wordMove 64 = .ok (.istore_n 3, 1) := by decide +kernel
theorem dX2_wordMove_65 : decode cX2_wordMove 65 = .ok (.aload_n 2, 1) := by decide +kernel
theorem dX2_wordMove_66 : decode cX2_wordMove 66 = .ok (.aload_n 0, 1) := by decide +kernel
theorem dX2_wordMove_67 : decode cX2_wordMove 67 = .ok (.getfield 37, 3) := by decide +kernel
theorem dX2_wordMove_70 : decode cX2_wordMove 70 = .ok (.iload_n 3, 1) := by decide +kernel
theorem dX2_wordMove_71 : decode cX2_wordMove 71 = .ok (.invokevirtual 193, 3) := by decide +kernel
theorem dX2_wordMove_74 : decode cX2_wordMove 74 = .ok (.istore 4, 2) := by decide +kernel
theorem dX2_wordMove_76 : decode cX2_wordMove 76 = .ok (.iinc 5 1, 3) := by decide +kernel
theorem dX2_wordMove_79 : decode cX2_wordMove 79 = .ok (.goto (-39), 3) := by decide +kernel
theorem dX2_wordMove_82 : decode cX2_wordMove 82 = .ok (.iload 4, 2) := by decide +kernel
theorem dX2_wordMove_84 : decode cX2_wordMove 84 = .ok (.ireturn, 1) := by decide +kernel
set_option maxRecDepth 20000 in
theorem ggX2_words_X2_solutions : GoodIn wsX2_words wsX2_solutions := goodIn_r _ [7, 2, 8, 9, 10, 11, 12, 13, 14, 15, 16, 17, 18, 19, 20, 21, 22, 23, 24, 25, 26, 27, 28, 59, 60, 61, 62, 63, 64, 65, 66, 67, 68, 69, 70, 71, 72, 73, 74, 75, 76, 77, 78, 55, 56, 57, 58] (by decide +kernel) (by decide +kernel)
set_option maxRecDepth 20000 in
theorem gX2_words_X2_solutions : GoodIn wsX2_words (wsV RX2 159 RX2 yX2_solutions wsX2_solutions) := goodIn_app (goodIn_of _ (by decide +kernel)) ggX2_words_X2_solutions
set_option maxRecDepth 20000 in
theorem ggX2_words_X2_presentCode : GoodIn wsX2_words wsX2_presentCode := goodIn_r _ [32, 33, 34, 35, 36, 37, 6, 38, 39, 40, 41, 42, 43, 44, 45, 59, 60, 61, 62, 63, 64, 65, 66, 67, 68] (by decide +kernel) (by decide +kernel)
set_option maxRecDepth 20000 in
theorem gX2_words_X2_presentCode : GoodIn wsX2_words (wsV RX2 190 RX2 yX2_presentCode wsX2_presentCode) := goodIn_app (goodIn_of _ (by decide +kernel)) ggX2_words_X2_presentCode
set_option maxRecDepth 20000 in
theorem ggX2_words_X1_countWords : GoodIn wsX2_words wsX1_countWords := goodIn_r _ [49, 50, 17, 18, 19, 51, 52, 53, 13, 54, 15, 24, 69, 70, 71, 72, 73, 74, 75, 76, 77, 78, 55, 56, 57, 58] (by decide +kernel) (by decide +kernel)
set_option maxRecDepth 20000 in
theorem gX2_words_X1_countWords : GoodIn wsX2_words (wsV RX2 200 RX1 yX1_countWords wsX1_countWords) := goodIn_app (goodIn_of _ (by decide +kernel)) ggX2_words_X1_countWords
theorem dX2_words_0 : decode cX2_words 0 = .ok (.aload_n 0, 1) := by decide +kernel
theorem dX2_words_1 : decode cX2_words 1 = .ok (.invokevirtual 159, 3) := by decide +kernel
theorem dX2_words_4 : decode cX2_words 4 = .ok (.astore_n 1, 1) := by decide +kernel
theorem dX2_words_5 : decode cX2_words 5 = .ok (.aload_n 0, 1) := by decide +kernel
theorem dX2_words_6 : decode cX2_words 6 = .ok (.invokevirtual 190, 3) := by decide +kernel
theorem dX2_words_9 : decode cX2_words 9 = .ok (.istore_n 2, 1) := by decide +kernel
theorem dX2_words_10 : decode cX2_words 10 = .ok (.aload_n 1, 1) := by decide +kernel
theorem dX2_words_11 : decode cX2_words 11 = .ok (.getfield 187, 3) := by decide +kernel
theorem dX2_words_14 : decode cX2_words 14 = .ok (.iload_n 2, 1) := by decide +kernel
theorem dX2_words_15 : decode cX2_words 15 = .ok (.iaload, 1) := by decide +kernel
theorem dX2_words_16 : decode cX2_words 16 = .ok (.iconst (-1), 1) := by decide +kernel
theorem dX2_words_17 : decode cX2_words 17 = .ok (.if_icmp .ne 7, 3) := by decide +kernel
theorem dX2_words_20 : decode cX2_words 20 = .ok (.lconst 0, 1) := by decide +kernel
theorem dX2_words_21 : decode cX2_words 21 = .ok (.goto 12, 3) := by decide +kernel
theorem dX2_words_24 : decode cX2_words 24 = .ok (.aload_n 1, 1) := by decide +kernel
theorem dX2_words_25 : decode cX2_words 25 = .ok (.aload_n 0, 1) := by decide +kernel
theorem dX2_words_26 : decode cX2_words 26 = .ok (.getfield 37, 3) := by decide +kernel
theorem dX2_words_29 : decode cX2_words 29 = .ok (.iload_n 2, 1) := by decide +kernel
theorem dX2_words_30 : decode cX2_words 30 = .ok (.invokevirtual 200, 3) := by decide +kernel
theorem dX2_words_33 : decode cX2_words 33 = .ok (.lreturn, 1) := by decide +kernel
set_option maxRecDepth 20000 in
theorem ggX2_phase_X2_presentCode : GoodIn wsX2_phase wsX2_presentCode := goodIn_r _ [11, 12, 13, 14, 15, 16, 10, 17, 18, 19, 20, 21, 22, 23, 24, 58, 59, 60, 61, 62, 63, 64, 65, 66, 67] (by decide +kernel) (by decide +kernel)
set_option maxRecDepth 20000 in
theorem gX2_phase_X2_presentCode : GoodIn wsX2_phase (wsV RX2 190 RX2 yX2_presentCode wsX2_presentCode) := goodIn_app (goodIn_of _ (by decide +kernel)) ggX2_phase_X2_presentCode
set_option maxRecDepth 20000 in
theorem ggX2_phase_X2_solutions : GoodIn wsX2_phase wsX2_solutions := goodIn_r _ [28, 5, 29, 3, 30, 31, 32, 33, 34, 35, 36, 37, 38, 39, 40, 41, 42, 43, 44, 45, 46, 47, 48, 58, 59, 60, 61, 62, 63, 64, 65, 66, 67, 72, 73, 74, 75, 76, 77, 78, 79, 80, 81, 68, 69, 70, 71] (by decide +kernel) (by decide +kernel)
set_option maxRecDepth 20000 in
theorem gX2_phase_X2_solutions : GoodIn wsX2_phase (wsV RX2 159 RX2 yX2_solutions wsX2_solutions) := goodIn_app (goodIn_of _ (by decide +kernel)) ggX2_phase_X2_solutions
set_option maxRecDepth 20000 in
theorem ggX2_phase_X2_solutionsOfOthers : GoodIn wsX2_phase wsX2_solutionsOfOthers := goodIn_r _ [52, 5, 53, 30, 31, 32, 33, 34, 35, 36, 37, 38, 39, 40, 41, 42, 43, 44, 45, 46, 47, 48, 58, 59, 60, 61, 62, 63, 64, 65, 66, 67, 72, 73, 74, 75, 76, 77, 78, 79, 80, 81, 68, 69, 70, 71] (by decide +kernel) (by decide +kernel)
set_option maxRecDepth 20000 in
theorem gX2_phase_X2_solutionsOfOthers : GoodIn wsX2_phase (wsV RX2 206 RX2 yX2_solutionsOfOthers wsX2_solutionsOfOthers) := goodIn_app (goodIn_of _ (by decide +kernel)) ggX2_phase_X2_solutionsOfOthers
set_option maxRecDepth 20000 in
theorem ggX2_phase_X1_findNearest : GoodIn wsX2_phase wsX1_findNearest := goodIn_r _ [57, 36, 37, 38, 44, 39, 40, 41, 42, 33, 43, 45, 46, 47, 48, 72, 73, 74, 75, 76, 77, 78, 79, 80, 81, 68, 69, 70, 71] (by decide +kernel) (by decide +kernel)
set_option maxRecDepth 20000 in
theorem gX2_phase_X1_findNearest : GoodIn wsX2_phase (wsV RX2 214 RX1 yX1_findNearest wsX1_findNearest) := goodIn_app (goodIn_of _ (by decide +kernel)) ggX2_phase_X1_findNearest
theorem dX2_phase_0 : decode cX2_phase 0 = .ok (.iload_n 1, 1) := by decide +kernel
theorem dX2_phase_1 : decode cX2_phase 1 = .ok (.ifCond .lt 23, 3) := by decide +kernel
theorem dX2_phase_4 : decode cX2_phase 4 = .ok (.iload_n 1, 1) := by decide +kernel
theorem dX2_phase_5 : decode cX2_phase 5 = .ok (.aload_n 0, 1) := by decide +kernel
theorem dX2_phase_6 : decode cX2_phase 6 = .ok (.getfield 55, 3) := by decide +kernel
theorem dX2_phase_9 : decode cX2_phase 9 = .ok (.iconst (-1), 1) := by decide +kernel
theorem dX2_phase_10 : decode cX2_phase 10 = .ok (.ixor, 1) := by decide +kernel
theorem dX2_phase_11 : decode cX2_phase 11 = .ok (.iand, 1) := by decide +kernel
theorem dX2_phase_12 : decode cX2_phase 12 = .ok (.ifCond .ne 12, 3) := by decide +kernel
theorem dX2_phase_15 : decode cX2_phase 15 = .ok (.iload_n 2, 1) := by decide +kernel
theorem dX2_phase_16 : decode cX2_phase 16 = .ok (.ifCond .lt 8, 3) := by decide +kernel
theorem dX2_phase_19 : decode cX2_phase 19 = .ok (.iload_n 2, 1) := by decide +kernel
theorem dX2_phase_20 : decode cX2_phase 20 = .ok (.iconst 2, 1) := by decide +kernel
theorem dX2_phase_21 : decode cX2_phase 21 = .ok (.if_icmp .le 13, 3) := by decide +kernel
theorem dX2_phase_24 : decode cX2_phase 24 = .ok (.new 45, 3) := by decide +kernel
theorem dX2_phase_27 : decode cX2_phase 27 = .ok (.dup, 1) := by decide +kernel
theorem dX2_phase_28 : decode cX2_phase 28 = .ok (.ldc 204, 2) := by decide +kernel
theorem dX2_phase_30 : decode cX2_phase 30 = .ok (.invokespecial 49, 3) := by decide +kernel
theorem dX2_phase_33 : decode cX2_phase 33 = .ok (.athrow, 1) := by decide +kernel
theorem dX2_phase_34 : decode cX2_phase 34 = .ok (.aload_n 0, 1) := by decide +kernel
theorem dX2_phase_35 : decode cX2_phase 35 = .ok (.invokevirtual 190, 3) := by decide +kernel
theorem dX2_phase_38 : decode cX2_phase 38 = .ok (.istore_n 3, 1) := by decide +kernel
theorem dX2_phase_39 : decode cX2_phase 39 = .ok (.aload_n 0, 1) := by decide +kernel
theorem dX2_phase_40 : decode cX2_phase 40 = .ok (.invokevirtual 159, 3) := by decide +kernel
theorem dX2_phase_43 : decode cX2_phase 43 = .ok (.getfield 187, 3) := by decide +kernel
theorem dX2_phase_46 : decode cX2_phase 46 = .ok (.iload_n 3, 1) := by decide +kernel
theorem dX2_phase_47 : decode cX2_phase 47 = .ok (.iaload, 1) := by decide +kernel
theorem dX2_phase_48 : decode cX2_phase 48 = .ok (.iconst (-1), 1) := by decide +kernel
theorem dX2_phase_49 : decode cX2_phase 49 = .ok (.if_icmp .ne 5, 3) := by decide +kernel
theorem dX2_phase_52 : decode cX2_phase 52 = .ok (.iconst (-1), 1) := by decide +kernel
theorem dX2_phase_53 : decode cX2_phase 53 = .ok (.ireturn, 1) := by decide +kernel
theorem dX2_phase_54 : decode cX2_phase 54 = .ok (.aload_n 0, 1) := by decide +kernel
theorem dX2_phase_55 : decode cX2_phase 55 = .ok (.iload_n 1, 1) := by decide +kernel
theorem dX2_phase_56 : decode cX2_phase 56 = .ok (.invokevirtual 206, 3) := by decide +kernel
theorem dX2_phase_59 : decode cX2_phase 59 = .ok (.astore 4, 2) := by decide +kernel
theorem dX2_phase_61 : decode cX2_phase 61 = .ok (.aload_n 0, 1) := by decide +kernel
theorem dX2_phase_62 : decode cX2_phase 62 = .ok (.getfield 37, 3) := by decide +kernel
theorem dX2_phase_65 : decode cX2_phase 65 = .ok (.getfield 210, 3) := by decide +kernel
theorem dX2_phase_68 : decode cX2_phase 68 = .ok (.aload_n 0, 1) := by decide +kernel
theorem dX2_phase_69 : decode cX2_phase 69 = .ok (.getfield 37, 3) := by decide +kernel
theorem dX2_phase_72 : decode cX2_phase 72 = .ok (.aload_n 0, 1) := by decide +kernel
theorem dX2_phase_73 : decode cX2_phase 73 = .ok (.getfield 55, 3) := by decide +kernel
theorem dX2_phase_76 : decode cX2_phase 76 = .ok (.iload_n 3, 1) := by decide +kernel
theorem dX2_phase_77 : decode cX2_phase 77 = .ok (.aload 4, 2) := by decide +kernel
theorem dX2_phase_79 : decode cX2_phase 79 = .ok (.invokevirtual 214, 3) := by decide +kernel
theorem dX2_phase_82 : decode cX2_phase 82 = .ok (.istore 5, 2) := by decide +kernel
theorem dX2_phase_84 : decode cX2_phase 84 = .ok (.iload 5, 2) := by decide +kernel
theorem dX2_phase_86 : decode cX2_phase 86 = .ok (.iconst (-1), 1) := by decide +kernel
theorem dX2_phase_87 : decode cX2_phase 87 = .ok (.if_icmp .ne 5, 3) := by decide +kernel
theorem dX2_phase_90 : decode cX2_phase 90 = .ok (.iconst (-1), 1) := by decide +kernel
theorem dX2_phase_91 : decode cX2_phase 91 = .ok (.ireturn, 1) := by decide +kernel
theorem dX2_phase_92 : decode cX2_phase 92 = .ok (.aload_n 0, 1) := by decide +kernel
theorem dX2_phase_93 : decode cX2_phase 93 = .ok (.getfield 37, 3) := by decide +kernel
theorem dX2_phase_96 : decode cX2_phase 96 = .ok (.getfield 210, 3) := by decide +kernel
theorem dX2_phase_99 : decode cX2_phase 99 = .ok (.getfield 187, 3) := by decide +kernel
theorem dX2_phase_102 : decode cX2_phase 102 = .ok (.iload 5, 2) := by decide +kernel
theorem dX2_phase_104 : decode cX2_phase 104 = .ok (.iaload, 1) := by decide +kernel
theorem dX2_phase_105 : decode cX2_phase 105 = .ok (.istore 6, 2) := by decide +kernel
theorem dX2_phase_107 : decode cX2_phase 107 = .ok (.aload 4, 2) := by decide +kernel
theorem dX2_phase_109 : decode cX2_phase 109 = .ok (.getfield 187, 3) := by decide +kernel
theorem dX2_phase_112 : decode cX2_phase 112 = .ok (.iload 5, 2) := by decide +kernel
theorem dX2_phase_114 : decode cX2_phase 114 = .ok (.iaload, 1) := by decide +kernel
theorem dX2_phase_115 : decode cX2_phase 115 = .ok (.istore 7, 2) := by decide +kernel
theorem dX2_phase_117 : decode cX2_phase 117 = .ok (.iload_n 2, 1) := by decide +kernel
theorem dX2_phase_118 : decode cX2_phase 118 = .ok (.iconst 2, 1) := by decide +kernel
theorem dX2_phase_119 : decode cX2_phase 119 = .ok (.if_icmp .ne 9, 3) := by decide +kernel
theorem dX2_phase_122 : decode cX2_phase 122 = .ok (.iload 6, 2) := by decide +kernel
theorem dX2_phase_124 : decode cX2_phase 124 = .ok (.iload 7, 2) := by decide +kernel
theorem dX2_phase_126 : decode cX2_phase 126 = .ok (.iadd, 1) := by decide +kernel
theorem dX2_phase_127 : decode cX2_phase 127 = .ok (.ireturn, 1) := by decide +kernel
theorem dX2_phase_128 : decode cX2_phase 128 = .ok (.iload_n 2, 1) := by decide +kernel
theorem dX2_phase_129 : decode cX2_phase 129 = .ok (.ifCond .ne 8, 3) := by decide +kernel
theorem dX2_phase_132 : decode cX2_phase 132 = .ok (.iload 6, 2) := by decide +kernel
theorem dX2_phase_134 : decode cX2_phase 134 = .ok (.goto 5, 3) := by decide +kernel
theorem dX2_phase_137 : decode cX2_phase 137 = .ok (.iload 7, 2) := by decide +kernel
theorem dX2_phase_139 : decode cX2_phase 139 = .ok (.ireturn, 1) := by decide +kernel
set_option maxRecDepth 20000 in
theorem ggX2_ifForbidden_X2_isMove : GoodIn wsX2_ifForbidden wsX2_isMove := goodIn_r _ [14, 15, 62, 63, 64, 65, 66, 67, 68, 69, 70, 71] (by decide +kernel) (by decide +kernel)
set_option maxRecDepth 20000 in
theorem gX2_ifForbidden_X2_isMove : GoodIn wsX2_ifForbidden (wsV RX2 98 RX2 yX2_isMove wsX2_isMove) := goodIn_app (goodIn_of _ (by decide +kernel)) ggX2_ifForbidden_X2_isMove
set_option maxRecDepth 20000 in
theorem ggX2_ifForbidden_X2_isAllowed : GoodIn wsX2_ifForbidden wsX2_isAllowed := goodIn_r _ [19, 7, 10, 11, 12, 13, 14, 15, 62, 63, 64, 65, 66, 67, 68, 69, 70, 71] (by decide +kernel) (by decide +kernel)
set_option maxRecDepth 20000 in
theorem gX2_ifForbidden_X2_isAllowed : GoodIn wsX2_ifForbidden (wsV RX2 103 RX2 yX2_isAllowed wsX2_isAllowed) := goodIn_app (goodIn_of _ (by decide +kernel)) ggX2_ifForbidden_X2_isAllowed
set_option maxRecDepth 20000 in
theorem ggX2_ifForbidden_X2_solutionsOfOthers : GoodIn wsX2_ifForbidden wsX2_solutionsOfOthers := goodIn_r _ [23, 24, 25, 26, 27, 28, 29, 30, 31, 32, 33, 34, 35, 36, 37, 38, 39, 40, 41, 42, 43, 44, 62, 63, 64, 65, 66, 67, 68, 69, 70, 71, 76, 77, 78, 79, 80, 81, 82, 83, 84, 85, 72, 73, 74, 75] (by decide +kernel) (by decide +kernel)
set_option maxRecDepth 20000 in
theorem gX2_ifForbidden_X2_solutionsOfOthers : GoodIn wsX2_ifForbidden (wsV RX2 206 RX2 yX2_solutionsOfOthers wsX2_solutionsOfOthers) := goodIn_app (goodIn_of _ (by decide +kernel)) ggX2_ifForbidden_X2_solutionsOfOthers
set_option maxRecDepth 20000 in
theorem ggX2_ifForbidden_X2_presentCode : GoodIn wsX2_ifForbidden wsX2_presentCode := goodIn_r _ [48, 49, 50, 51, 52, 53, 13, 54, 55, 56, 57, 58, 59, 60, 61, 62, 63, 64, 65, 66, 67, 68, 69, 70, 71] (by decide +kernel) (by decide +kernel)
set_option maxRecDepth 20000 in
theorem gX2_ifForbidden_X2_presentCode : GoodIn wsX2_ifForbidden (wsV RX2 190 RX2 yX2_presentCode wsX2_presentCode) := goodIn_app (goodIn_of _ (by decide +kernel)) ggX2_ifForbidden_X2_presentCode
theorem dX2_ifForbidden_0 : decode cX2_ifForbidden 0 = .ok (.aload_n 0, 1) := by decide +kernel
theorem dX2_ifForbidden_1 : decode cX2_ifForbidden 1 = .ok (.iload_n 1, 1) := by decide +kernel
theorem dX2_ifForbidden_2 : decode cX2_ifForbidden 2 = .ok (.invokevirtual 98, 3) := by decide +kernel
theorem dX2_ifForbidden_5 : decode cX2_ifForbidden 5 = .ok (.ifCond .ne 13, 3) := by decide +kernel
theorem dX2_ifForbidden_8 : decode cX2_ifForbidden 8 = .ok (.new 71, 3) := by decide +kernel
theorem dX2_ifForbidden_11 : decode cX2_ifForbidden 11 = .ok (.dup, 1) := by decide +kernel
theorem dX2_ifForbidden_12 : decode cX2_ifForbidden 12 = .ok (.ldc 101, 2) := by decide +kernel
theorem dX2_ifForbidden_14 : decode cX2_ifForbidden 14 = .ok (.invokespecial 75, 3) := by decide +kernel
theorem dX2_ifForbidden_17 : decode cX2_ifForbidden 17 = .ok (.athrow, 1) := by decide +kernel
theorem dX2_ifForbidden_18 : decode cX2_ifForbidden 18 = .ok (.iload_n 2, 1) := by decide +kernel
theorem dX2_ifForbidden_19 : decode cX2_ifForbidden 19 = .ok (.ifCond .lt 8, 3) := by decide +kernel
theorem dX2_ifForbidden_22 : decode cX2_ifForbidden 22 = .ok (.iload_n 2, 1) := by decide +kernel
theorem dX2_ifForbidden_23 : decode cX2_ifForbidden 23 = .ok (.iconst 1, 1) := by decide +kernel
theorem dX2_ifForbidden_24 : decode cX2_ifForbidden 24 = .ok (.if_icmp .le 13, 3) := by decide +kernel
theorem dX2_ifForbidden_27 : decode cX2_ifForbidden 27 = .ok (.new 45, 3) := by decide +kernel
theorem dX2_ifForbidden_30 : decode cX2_ifForbidden 30 = .ok (.dup, 1) := by decide +kernel
theorem dX2_ifForbidden_31 : decode cX2_ifForbidden 31 = .ok (.ldc 218, 2) := by decide +kernel
theorem dX2_ifForbidden_33 : decode cX2_ifForbidden 33 = .ok (.invokespecial 49, 3) := by decide +kernel
theorem dX2_ifForbidden_36 : decode cX2_ifForbidden 36 = .ok (.athrow, 1) := by decide +kernel
theorem dX2_ifForbidden_37 : decode cX2_ifForbidden 37 = .ok (.aload_n 0, 1) := by decide +kernel
theorem dX2_ifForbidden_38 : decode cX2_ifForbidden 38 = .ok (.iload_n 1, 1) := by decide +kernel
theorem dX2_ifForbidden_39 : decode cX2_ifForbidden 39 = .ok (.invokevirtual 103, 3) := by decide +kernel
theorem dX2_ifForbidden_42 : decode cX2_ifForbidden 42 = .ok (.ifCond .ne 13, 3) := by decide +kernel
theorem dX2_ifForbidden_45 : decode cX2_ifForbidden 45 = .ok (.new 78, 3) := by decide +kernel
theorem dX2_ifForbidden_48 : decode cX2_ifForbidden 48 = .ok (.dup, 1) := by decide +kernel
theorem dX2_ifForbidden_49 : decode cX2_ifForbidden 49 = .ok (.ldc 220, 2) := by decide +kernel
theorem dX2_ifForbidden_51 : decode cX2_ifForbidden 51 = .ok (.invokespecial 82, 3) := by decide +kernel
theorem dX2_ifForbidden_54 : decode cX2_ifForbidden 54 = .ok (.athrow, 1) := by decide +kernel
theorem dX2_ifForbidden_55 : decode cX2_ifForbidden 55 = .ok (.aload_n 0, 1) := by decide +kernel
theorem dX2_ifForbidden_56 : decode cX2_ifForbidden 56 = .ok (.aload_n 0, 1) := by decide +kernel
theorem dX2_ifForbidden_57 : decode cX2_ifForbidden 57 = .ok (.getfield 55, 3) := by decide +kernel
theorem dX2_ifForbidden_60 : decode cX2_ifForbidden 60 = .ok (.iconst 1, 1) := by decide +kernel
theorem dX2_ifForbidden_61 : decode cX2_ifForbidden 61 = .ok (.iload_n 1, 1) := by decide +kernel
theorem dX2_ifForbidden_62 : decode cX2_ifForbidden 62 = .ok (.ishl, 1) := by decide +kernel
theorem dX2_ifForbidden_63 : decode cX2_ifForbidden 63 = .ok (.iconst (-1), 1) := by decide +kernel
theorem dX2_ifForbidden_64 : decode cX2_ifForbidden 64 = .ok (.ixor, 1) := by decide +kernel
theorem dX2_ifForbidden_65 : decode cX2_ifForbidden 65 = .ok (.iand, 1) := by decide +kernel
theorem dX2_ifForbidden_66 : decode cX2_ifForbidden 66 = .ok (.invokevirtual 206, 3) := by decide +kernel
theorem dX2_ifForbidden_69 : decode cX2_ifForbidden 69 = .ok (.astore_n 3, 1) := by decide +kernel
theorem dX2_ifForbidden_70 : decode cX2_ifForbidden 70 = .ok (.iload_n 2, 1) := by decide +kernel
theorem dX2_ifForbidden_71 : decode cX2_ifForbidden 71 = .ok (.ifCond .ne 10, 3) := by decide +kernel
theorem dX2_ifForbidden_74 : decode cX2_ifForbidden 74 = .ok (.aload_n 3, 1) := by decide +kernel
theorem dX2_ifForbidden_75 : decode cX2_ifForbidden 75 = .ok (.getfield 163, 3) := by decide +kernel
theorem dX2_ifForbidden_78 : decode cX2_ifForbidden 78 = .ok (.goto 12, 3) := by decide +kernel
theorem dX2_ifForbidden_81 : decode cX2_ifForbidden 81 = .ok (.aload_n 3, 1) := by decide +kernel
theorem dX2_ifForbidden_82 : decode cX2_ifForbidden 82 = .ok (.getfield 187, 3) := by decide +kernel
theorem dX2_ifForbidden_85 : decode cX2_ifForbidden 85 = .ok (.aload_n 0, 1) := by decide +kernel
theorem dX2_ifForbidden_86 : decode cX2_ifForbidden 86 = .ok (.invokevirtual 190, 3) := by decide +kernel
theorem dX2_ifForbidden_89 : decode cX2_ifForbidden 89 = .ok (.iaload, 1) := by decide +kernel
theorem dX2_ifForbidden_90 : decode cX2_ifForbidden 90 = .ok (.ireturn, 1) := by decide +kernel
set_option maxRecDepth 20000 in
theorem ggX2_tile_X2_isPlace : GoodIn wsX2_tile wsX2_isPlace := goodIn_r _ [8, 9, 10, 11, 12, 13, 14, 15, 16, 17, 18, 19] (by decide +kernel) (by decide +kernel)
set_option maxRecDepth 20000 in
theorem gX2_tile_X2_isPlace : GoodIn wsX2_tile (wsV RX2 67 RX2 yX2_isPlace wsX2_isPlace) := goodIn_app (goodIn_of _ (by decide +kernel)) ggX2_tile_X2_isPlace
theorem dX2_tile_0 : decode cX2_tile 0 = .ok (.aload_n 0, 1) := by decide +kernel
theorem dX2_tile_1 : decode cX2_tile 1 = .ok (.iload_n 1, 1) := by decide +kernel
theorem dX2_tile_2 : decode cX2_tile 2 = .ok (.invokevirtual 67, 3) := by decide +kernel
theorem dX2_tile_5 : decode cX2_tile 5 = .ok (.ifCond .ne 13, 3) := by decide +kernel
theorem dX2_tile_8 : decode cX2_tile 8 = .ok (.new 71, 3) := by decide +kernel
theorem dX2_tile_11 : decode cX2_tile 11 = .ok (.dup, 1) := by decide +kernel
theorem dX2_tile_12 : decode cX2_tile 12 = .ok (.ldc 177, 2) := by decide +kernel
theorem dX2_tile_14 : decode cX2_tile 14 = .ok (.invokespecial 75, 3) := by decide +kernel
theorem dX2_tile_17 : decode cX2_tile 17 = .ok (.athrow, 1) := by decide +kernel
theorem dX2_tile_18 : decode cX2_tile 18 = .ok (.aload_n 0, 1) := by decide +kernel
theorem dX2_tile_19 : decode cX2_tile 19 = .ok (.getfield 9, 3) := by decide +kernel
theorem dX2_tile_22 : decode cX2_tile 22 = .ok (.iload_n 1, 1) := by decide +kernel
theorem dX2_tile_23 : decode cX2_tile 23 = .ok (.iaload, 1) := by decide +kernel
theorem dX2_tile_24 : decode cX2_tile 24 = .ok (.ireturn, 1) := by decide +kernel
set_option maxRecDepth 20000 in
theorem ggX2_source_X2_isMove : GoodIn wsX2_source wsX2_isMove := goodIn_r _ [8, 9, 15, 16, 17, 18, 19, 20, 21, 22, 23, 24] (by decide +kernel) (by decide +kernel)
set_option maxRecDepth 20000 in
theorem gX2_source_X2_isMove : GoodIn wsX2_source (wsV RX2 98 RX2 yX2_isMove wsX2_isMove) := goodIn_app (goodIn_of _ (by decide +kernel)) ggX2_source_X2_isMove
set_option maxRecDepth 20000 in
theorem ggX2_source_X2_isPlace : GoodIn wsX2_source wsX2_isPlace := goodIn_r _ [13, 14, 15, 16, 17, 18, 19, 20, 21, 22, 23, 24] (by decide +kernel) (by decide +kernel)
set_option maxRecDepth 20000 in
theorem gX2_source_X2_isPlace : GoodIn wsX2_source (wsV RX2 67 RX2 yX2_isPlace wsX2_isPlace) := goodIn_app (goodIn_of _ (by decide +kernel)) ggX2_source_X2_isPlace
theorem dX2_source_0 : decode cX2_source 0 = .ok (.aload_n 0, 1) := by decide +kernel
theorem dX2_source_1 : decode cX2_source 1 = .ok (.iload_n 1, 1) := by decide +kernel
theorem dX2_source_2 : decode cX2_source 2 = .ok (.invokevirtual 98, 3) := by decide +kernel
theorem dX2_source_5 : decode cX2_source 5 = .ok (.ifCond .eq 11, 3) := by decide +kernel
theorem dX2_source_8 : decode cX2_source 8 = .ok (.aload_n 0, 1) := by decide +kernel
theorem dX2_source_9 : decode cX2_source 9 = .ok (.iload_n 2, 1) := by decide +kernel
theorem dX2_source_10 : decode cX2_source 10 = .ok (.invokevirtual 67, 3) := by decide +kernel
theorem dX2_source_13 : decode cX2_source 13 = .ok (.ifCond .ne 13, 3) := by decide +kernel
theorem dX2_source_16 : decode cX2_source 16 = .ok (.new 71, 3) := by decide +kernel
theorem dX2_source_19 : decode cX2_source 19 = .ok (.dup, 1) := by decide +kernel
theorem dX2_source_20 : decode cX2_source 20 = .ok (.ldc 222, 2) := by decide +kernel
theorem dX2_source_22 : decode cX2_source 22 = .ok (.invokespecial 75, 3) := by decide +kernel
theorem dX2_source_25 : decode cX2_source 25 = .ok (.athrow, 1) := by decide +kernel
theorem dX2_source_26 : decode cX2_source 26 = .ok (.aload_n 0, 1) := by decide +kernel
theorem dX2_source_27 : decode cX2_source 27 = .ok (.getfield 21, 3) := by decide +kernel
theorem dX2_source_30 : decode cX2_source 30 = .ok (.iload_n 1, 1) := by decide +kernel
theorem dX2_source_31 : decode cX2_source 31 = .ok (.aaload, 1) := by decide +kernel
theorem dX2_source_32 : decode cX2_source 32 = .ok (.iload_n 2, 1) := by decide +kernel
theorem dX2_source_33 : decode cX2_source 33 = .ok (.iaload, 1) := by decide +kernel
theorem dX2_source_34 : decode cX2_source 34 = .ok (.ireturn, 1) := by decide +kernel
set_option maxRecDepth 20000 in
theorem ggX2_commute_X2_isMove : GoodIn wsX2_commute wsX2_isMove := goodIn_r _ [9, 10, 11, 12, 13, 14, 15, 16, 17, 18, 19, 20] (by decide +kernel) (by decide +kernel)
set_option maxRecDepth 20000 in
theorem gX2_commute_X2_isMove : GoodIn wsX2_commute (wsV RX2 98 RX2 yX2_isMove wsX2_isMove) := goodIn_app (goodIn_of _ (by decide +kernel)) ggX2_commute_X2_isMove
theorem dX2_commute_0 : decode cX2_commute 0 = .ok (.aload_n 0, 1) := by decide +kernel
theorem dX2_commute_1 : decode cX2_commute 1 = .ok (.iload_n 1, 1) := by decide +kernel
theorem dX2_commute_2 : decode cX2_commute 2 = .ok (.invokevirtual 98, 3) := by decide +kernel
theorem dX2_commute_5 : decode cX2_commute 5 = .ok (.ifCond .eq 11, 3) := by decide +kernel
theorem dX2_commute_8 : decode cX2_commute 8 = .ok (.aload_n 0, 1) := by decide +kernel
theorem dX2_commute_9 : decode cX2_commute 9 = .ok (.iload_n 2, 1) := by decide +kernel
theorem dX2_commute_10 : decode cX2_commute 10 = .ok (.invokevirtual 98, 3) := by decide +kernel
theorem dX2_commute_13 : decode cX2_commute 13 = .ok (.ifCond .ne 13, 3) := by decide +kernel
theorem dX2_commute_16 : decode cX2_commute 16 = .ok (.new 71, 3) := by decide +kernel
theorem dX2_commute_19 : decode cX2_commute 19 = .ok (.dup, 1) := by decide +kernel
theorem dX2_commute_20 : decode cX2_commute 20 = .ok (.ldc 224, 2) := by decide +kernel
theorem dX2_commute_22 : decode cX2_commute 22 = .ok (.invokespecial 75, 3) := by decide +kernel
theorem dX2_commute_25 : decode cX2_commute 25 = .ok (.athrow, 1) := by decide +kernel
theorem dX2_commute_26 : decode cX2_commute 26 = .ok (.iconst 0, 1) := by decide +kernel
theorem dX2_commute_27 : decode cX2_commute 27 = .ok (.istore_n 3, 1) := by decide +kernel
theorem dX2_commute_28 : decode cX2_commute 28 = .ok (.iload_n 3, 1) := by decide +kernel
theorem dX2_commute_29 : decode cX2_commute 29 = .ok (.aload_n 0, 1) := by decide +kernel
theorem dX2_commute_30 : decode cX2_commute 30 = .ok (.getfield 28, 3) := by decide +kernel
theorem dX2_commute_33 : decode cX2_commute 33 = .ok (.if_icmp .ge 44, 3) := by decide +kernel
theorem dX2_commute_36 : decode cX2_commute 36 = .ok (.aload_n 0, 1) := by decide +kernel
theorem dX2_commute_37 : decode cX2_commute 37 = .ok (.getfield 21, 3) := by decide +kernel
theorem dX2_commute_40 : decode cX2_commute 40 = .ok (.iload_n 1, 1) := by decide +kernel
theorem dX2_commute_41 : decode cX2_commute 41 = .ok (.aaload, 1) := by decide +kernel
theorem dX2_commute_42 : decode cX2_commute 42 = .ok (.aload_n 0, 1) := by decide +kernel
theorem dX2_commute_43 : decode cX2_commute 43 = .ok (.getfield 21, 3) := by decide +kernel
theorem dX2_commute_46 : decode cX2_commute 46 = .ok (.iload_n 2, 1) := by decide +kernel
theorem dX2_commute_47 : decode cX2_commute 47 = .ok (.aaload, 1) := by decide +kernel
theorem dX2_commute_48 : decode cX2_commute 48 = .ok (.iload_n 3, 1) := by decide +kernel
theorem dX2_commute_49 : decode cX2_commute 49 = .ok (.iaload, 1) := by decide +kernel
theorem dX2_commute_50 : decode cX2_commute 50 = .ok (.iaload, 1) := by decide +kernel
theorem dX2_commute_51 : decode cX2_commute 51 = .ok (.aload_n 0, 1) := by decide +kernel
theorem dX2_commute_52 : decode cX2_commute 52 = .ok (.getfield 21, 3) := by decide +kernel
theorem dX2_commute_55 : decode cX2_commute 55 = .ok (.iload_n 2, 1) := by decide +kernel
theorem dX2_commute_56 : decode cX2_commute 56 = .ok (.aaload, 1) := by decide +kernel
theorem dX2_commute_57 : decode cX2_commute 57 = .ok (.aload_n 0, 1) := by decide +kernel
theorem dX2_commute_58 : decode cX2_commute 58 = .ok (.getfield 21, 3) := by decide +kernel
theorem dX2_commute_61 : decode cX2_commute 61 = .ok (.iload_n 1, 1) := by decide +kernel
theorem dX2_commute_62 : decode cX2_commute 62 = .ok (.aaload, 1) := by decide +kernel
theorem dX2_commute_63 : decode cX2_commute 63 = .ok (.iload_n 3, 1) := by decide +kernel
theorem dX2_commute_64 : decode cX2_commute 64 = .ok (.iaload, 1) := by decide +kernel
theorem dX2_commute_65 : decode cX2_commute 65 = .ok (.iaload, 1) := by decide +kernel
theorem dX2_commute_66 : decode cX2_commute 66 = .ok (.if_icmp .eq 5, 3) := by decide +kernel
theorem dX2_commute_69 : decode cX2_commute 69 = .ok (.iconst 0, 1) := by decide +kernel
theorem dX2_commute_70 : decode cX2_commute 70 = .ok (.ireturn, 1) := by decide +kernel
theorem dX2_commute_71 : decode cX2_commute 71 = .ok (.iinc 3 1, 3) := by decide +kernel
theorem dX2_commute_74 : decode cX2_commute 74 = .ok (.goto (-46), 3) := by decide +kernel
theorem dX2_commute_77 : decode cX2_commute 77 = .ok (.iconst 1, 1) := by decide +kernel
theorem dX2_commute_78 : decode cX2_commute 78 = .ok (.ireturn, 1) := by decide +kernel
set_option maxRecDepth 20000 in
theorem ggX2_count_X2_fixedPlaces : GoodIn wsX2_count wsX2_fixedPlaces := goodIn_r _ [11, 3, 16, 17, 18, 19, 20, 21, 22, 23, 24, 25] (by decide +kernel) (by decide +kernel)
set_option maxRecDepth 20000 in
theorem gX2_count_X2_fixedPlaces : GoodIn wsX2_count (wsV RX2 153 RX2 yX2_fixedPlaces wsX2_fixedPlaces) := goodIn_app (goodIn_of _ (by decide +kernel)) ggX2_count_X2_fixedPlaces
set_option maxRecDepth 20000 in
theorem ggX2_count_X2_isEven : GoodIn wsX2_count wsX2_isEven := goodIn_r _ [15, 3, 16, 17, 18, 19, 20, 21, 22, 23, 24, 25] (by decide +kernel) (by decide +kernel)
set_option maxRecDepth 20000 in
theorem gX2_count_X2_isEven : GoodIn wsX2_count (wsV RX2 228 RX2 yX2_isEven wsX2_isEven) := goodIn_app (goodIn_of _ (by decide +kernel)) ggX2_count_X2_isEven
theorem dX2_count_0 : decode cX2_count 0 = .ok (.iload_n 1, 1) := by decide +kernel
theorem dX2_count_1 : decode cX2_count 1 = .ok (.ifCond .lt 8, 3) := by decide +kernel
theorem dX2_count_4 : decode cX2_count 4 = .ok (.iload_n 1, 1) := by decide +kernel
theorem dX2_count_5 : decode cX2_count 5 = .ok (.iconst 4, 1) := by decide +kernel
theorem dX2_count_6 : decode cX2_count 6 = .ok (.if_icmp .le 13, 3) := by decide +kernel
theorem dX2_count_9 : decode cX2_count 9 = .ok (.new 45, 3) := by decide +kernel
theorem dX2_count_12 : decode cX2_count 12 = .ok (.dup, 1) := by decide +kernel
theorem dX2_count_13 : decode cX2_count 13 = .ok (.ldc 226, 2) := by decide +kernel
theorem dX2_count_15 : decode cX2_count 15 = .ok (.invokespecial 49, 3) := by decide +kernel
theorem dX2_count_18 : decode cX2_count 18 = .ok (.athrow, 1) := by decide +kernel
theorem dX2_count_19 : decode cX2_count 19 = .ok (.iload_n 1, 1) := by decide +kernel
theorem dX2_count_20 : decode cX2_count 20 = .ok (.ifCond .ne 8, 3) := by decide +kernel
theorem dX2_count_23 : decode cX2_count 23 = .ok (.aload_n 0, 1) := by decide +kernel
theorem dX2_count_24 : decode cX2_count 24 = .ok (.getfield 28, 3) := by decide +kernel
theorem dX2_count_27 : decode cX2_count 27 = .ok (.ireturn, 1) := by decide +kernel
theorem dX2_count_28 : decode cX2_count 28 = .ok (.iload_n 1, 1) := by decide +kernel
theorem dX2_count_29 : decode cX2_count 29 = .ok (.iconst 1, 1) := by decide +kernel
theorem dX2_count_30 : decode cX2_count 30 = .ok (.if_icmp .ne 8, 3) := by decide +kernel
theorem dX2_count_33 : decode cX2_count 33 = .ok (.aload_n 0, 1) := by decide +kernel
theorem dX2_count_34 : decode cX2_count 34 = .ok (.getfield 52, 3) := by decide +kernel
theorem dX2_count_37 : decode cX2_count 37 = .ok (.ireturn, 1) := by decide +kernel
theorem dX2_count_38 : decode cX2_count 38 = .ok (.iload_n 1, 1) := by decide +kernel
theorem dX2_count_39 : decode cX2_count 39 = .ok (.iconst 2, 1) := by decide +kernel
theorem dX2_count_40 : decode cX2_count 40 = .ok (.if_icmp .ne 8, 3) := by decide +kernel
theorem dX2_count_43 : decode cX2_count 43 = .ok (.aload_n 0, 1) := by decide +kernel
theorem dX2_count_44 : decode cX2_count 44 = .ok (.getfield 55, 3) := by decide +kernel
theorem dX2_count_47 : decode cX2_count 47 = .ok (.ireturn, 1) := by decide +kernel
theorem dX2_count_48 : decode cX2_count 48 = .ok (.iload_n 1, 1) := by decide +kernel
theorem dX2_count_49 : decode cX2_count 49 = .ok (.iconst 3, 1) := by decide +kernel
theorem dX2_count_50 : decode cX2_count 50 = .ok (.if_icmp .ne 12, 3) := by decide +kernel
theorem dX2_count_53 : decode cX2_count 53 = .ok (.aload_n 0, 1) := by decide +kernel
theorem dX2_count_54 : decode cX2_count 54 = .ok (.aload_n 0, 1) := by decide +kernel
theorem dX2_count_55 : decode cX2_count 55 = .ok (.getfield 9, 3) := by decide +kernel
theorem dX2_count_58 : decode cX2_count 58 = .ok (.invokevirtual 153, 3) := by decide +kernel
theorem dX2_count_61 : decode cX2_count 61 = .ok (.ireturn, 1) := by decide +kernel
theorem dX2_count_62 : decode cX2_count 62 = .ok (.aload_n 0, 1) := by decide +kernel
theorem dX2_count_63 : decode cX2_count 63 = .ok (.aload_n 0, 1) := by decide +kernel
theorem dX2_count_64 : decode cX2_count 64 = .ok (.getfield 9, 3) := by decide +kernel
theorem dX2_count_67 : decode cX2_count 67 = .ok (.invokevirtual 228, 3) := by decide +kernel
theorem dX2_count_70 : decode cX2_count 70 = .ok (.ifCond .eq 7, 3) := by decide +kernel
theorem dX2_count_73 : decode cX2_count 73 = .ok (.iconst 1, 1) := by decide +kernel
theorem dX2_count_74 : decode cX2_count 74 = .ok (.goto 4, 3) := by decide +kernel
theorem dX2_count_77 : decode cX2_count 77 = .ok (.iconst 0, 1) := by decide +kernel
theorem dX2_count_78 : decode cX2_count 78 = .ok (.ireturn, 1) := by decide +kernel
set_option maxRecDepth 20000 in
theorem ggX2_meanLength_X2_solutions : GoodIn wsX2_meanLength wsX2_solutions := goodIn_r _ [6, 7, 8, 9, 10, 11, 12, 13, 14, 15, 16, 17, 18, 19, 20, 21, 22, 23, 24, 25, 26, 27, 28, 37, 38, 39, 40, 41, 42, 43, 44, 45, 46, 47, 48, 49, 50, 51, 52, 53, 54, 55, 56, 33, 34, 35, 36] (by decide +kernel) (by decide +kernel)
set_option maxRecDepth 20000 in
theorem gX2_meanLength_X2_solutions : GoodIn wsX2_meanLength (wsV RX2 159 RX2 yX2_solutions wsX2_solutions) := goodIn_app (goodIn_of _ (by decide +kernel)) ggX2_meanLength_X2_solutions
set_option maxRecDepth 20000 in
theorem ggX2_meanLength_X1_sumOfLengths : GoodIn wsX2_meanLength wsX1_sumOfLengths := goodIn_r _ [32, 17, 24, 18, 33, 34, 35, 36] (by decide +kernel) (by decide +kernel)
set_option maxRecDepth 20000 in
theorem gX2_meanLength_X1_sumOfLengths : GoodIn wsX2_meanLength (wsV RX2 232 RX1 yX1_sumOfLengths wsX1_sumOfLengths) := goodIn_app (goodIn_of _ (by decide +kernel)) ggX2_meanLength_X1_sumOfLengths
theorem dX2_meanLength_0 : decode cX2_meanLength 0 = .ok (.aload_n 0, 1) := by decide +kernel
theorem dX2_meanLength_1 : decode cX2_meanLength 1 = .ok (.invokevirtual 159, 3) := by decide +kernel
theorem dX2_meanLength_4 : decode cX2_meanLength 4 = .ok (.astore_n 1, 1) := by decide +kernel
theorem dX2_meanLength_5 : decode cX2_meanLength 5 = .ok (.aload_n 1, 1) := by decide +kernel
theorem dX2_meanLength_6 : decode cX2_meanLength 6 = .ok (.getfield 163, 3) := by decide +kernel
theorem dX2_meanLength_9 : decode cX2_meanLength 9 = .ok (.ifCond .le 17, 3) := by decide +kernel
theorem dX2_meanLength_12 : decode cX2_meanLength 12 = .ok (.aload_n 1, 1) := by decide +kernel
theorem dX2_meanLength_13 : decode cX2_meanLength 13 = .ok (.invokevirtual 232, 3) := by decide +kernel
theorem dX2_meanLength_16 : decode cX2_meanLength 16 = .ok (.l2d, 1) := by decide +kernel
theorem dX2_meanLength_17 : decode cX2_meanLength 17 = .ok (.aload_n 1, 1) := by decide +kernel
theorem dX2_meanLength_18 : decode cX2_meanLength 18 = .ok (.getfield 163, 3) := by decide +kernel
theorem dX2_meanLength_21 : decode cX2_meanLength 21 = .ok (.i2d, 1) := by decide +kernel
theorem dX2_meanLength_22 : decode cX2_meanLength 22 = .ok (.ddiv, 1) := by decide +kernel
theorem dX2_meanLength_23 : decode cX2_meanLength 23 = .ok (.goto 4, 3) := by decide +kernel
theorem dX2_meanLength_26 : decode cX2_meanLength 26 = .ok (.dconst 0, 1) := by decide +kernel
theorem dX2_meanLength_27 : decode cX2_meanLength 27 = .ok (.dreturn, 1) := by decide +kernel
set_option maxRecDepth 20000 in
theorem ggX2_digest_X2_count : GoodIn wsX2_digest wsX2_count := goodIn_ca (goodIn_r _ [9, 10, 11, 12, 13, 14, 15, 16, 17, 18, 8, 19, 20, 21, 22, 23, 174, 175, 176, 177, 178, 179, 180, 181, 182, 183] (by decide +kernel) (by decide +kernel)) (goodIn_sub (fun _ h => List.mem_cons_of_mem _ (List.mem_append_left _ (List.mem_append_right _ h))) (by decide +kernel))
set_option maxRecDepth 20000 in
theorem gX2_digest_X2_count : GoodIn wsX2_digest (wsV RX2 240 RX2 yX2_count wsX2_count) := goodIn_app (goodIn_of _ (by decide +kernel)) ggX2_digest_X2_count
set_option maxRecDepth 20000 in
theorem ggX2_digest_X2_mixRow : GoodIn wsX2_digest wsX2_mixRow := goodIn_r _ [27, 12, 2, 15, 13, 28, 174, 175, 176, 177, 178, 179, 180, 181, 182, 183] (by decide +kernel) (by decide +kernel)
set_option maxRecDepth 20000 in
theorem gX2_digest_X2_mixRow : GoodIn wsX2_digest (wsV RX2 243 RX2 yX2_mixRow wsX2_mixRow) := goodIn_app (goodIn_of _ (by decide +kernel)) ggX2_digest_X2_mixRow
set_option maxRecDepth 20000 in
theorem ggX2_digest_X2_mixGroup : GoodIn wsX2_digest wsX2_mixGroup := goodIn_ca (goodIn_ca (goodIn_r _ [32, 2, 12, 33, 34, 35, 8, 36, 10, 11, 37, 38, 39, 40, 41, 42, 43, 14, 44, 45, 46, 47, 48, 49, 50, 51, 52, 53, 54, 55, 56, 57, 58, 59, 60, 61, 62, 63, 64, 65, 66, 67, 68, 69, 70, 13, 71, 72, 73, 74, 75, 76, 77, 78, 79, 80, 81, 82, 28, 83, 84, 85, 86, 87, 88, 89, 90, 20, 21, 22, 23, 91, 92, 93, 94, 95, 96, 97, 98, 99, 100, 101, 102, 103, 104, 105, 106, 107, 108, 109, 110, 111, 112, 113, 174, 175, 176, 177, 178, 179, 180, 181, 182, 183, 184, 185, 186, 187, 188, 189, 190, 191, 192, 193, 194, 195, 196, 197] (by decide +kernel) (by decide +kernel)) (goodIn_sub (fun _ h => List.mem_cons_of_mem _ (List.mem_append_left _ (List.mem_append_right _ h))) (by decide +kernel))) (goodIn_sub (fun _ h => List.mem_cons_of_mem _ (List.mem_append_right _ h)) (by decide +kernel))
set_option maxRecDepth 20000 in
theorem gX2_digest_X2_mixGroup : GoodIn wsX2_digest (wsV RX2 247 RX2 yX2_mixGroup wsX2_mixGroup) := goodIn_app (goodIn_of _ (by decide +kernel)) ggX2_digest_X2_mixGroup
set_option maxRecDepth 20000 in
theorem ggX2_digest_X2_mixWord : GoodIn wsX2_digest wsX2_mixWord := goodIn_r _ [117, 2, 118, 119, 120, 8, 121, 122, 38, 39, 40, 41, 42, 43, 14, 44, 45, 46, 47, 48, 49, 50, 51, 52, 53, 54, 55, 56, 57, 58, 59, 60, 61, 62, 123, 124, 125, 126, 12, 127, 15, 128, 129, 130, 131, 132, 133, 134, 135, 136, 137, 138, 139, 140, 141, 142, 143, 144, 145, 146, 147, 148, 149, 150, 151, 152, 153, 154, 155, 156, 157, 158, 159, 184, 185, 186, 187, 174, 175, 176, 177, 178, 179, 180, 181, 182, 183, 188, 189, 190, 191, 192, 193, 194, 195, 196, 197] (by decide +kernel) (by decide +kernel)
set_option maxRecDepth 20000 in
theorem gX2_digest_X2_mixWord : GoodIn wsX2_digest (wsV RX2 250 RX2 yX2_mixWord wsX2_mixWord) := goodIn_app (goodIn_of _ (by decide +kernel)) ggX2_digest_X2_mixWord
set_option maxRecDepth 20000 in
theorem ggX2_digest_X2_meanLength : GoodIn wsX2_digest wsX2_meanLength := goodIn_r _ [163, 37, 38, 39, 40, 8, 41, 42, 43, 14, 44, 45, 46, 47, 48, 49, 50, 51, 52, 53, 54, 55, 56, 57, 58, 59, 60, 61, 62, 164, 165, 166, 167, 184, 185, 186, 187, 174, 175, 176, 177, 178, 179, 180, 181, 182, 183, 188, 189, 190, 191, 192, 193, 194, 195, 196, 197] (by decide +kernel) (by decide +kernel)
set_option maxRecDepth 20000 in
theorem gX2_digest_X2_meanLength : GoodIn wsX2_digest (wsV RX2 253 RX2 yX2_meanLength wsX2_meanLength) := goodIn_app (goodIn_of _ (by decide +kernel)) ggX2_digest_X2_meanLength
set_option maxRecDepth 20000 in
theorem ggX2_digest_X2_bitsOf : GoodIn wsX2_digest wsX2_bitsOf := goodIn_r _ [170, 171, 172, 173] (by decide +kernel) (by decide +kernel)
set_option maxRecDepth 20000 in
theorem gX2_digest_X2_bitsOf : GoodIn wsX2_digest (va_wsS RX2 257 yX2_bitsOf wsX2_bitsOf) := goodIn_app (goodIn_of _ (by decide +kernel)) ggX2_digest_X2_bitsOf
theorem dX2_digest_0 : decode cX2_digest 0 = .ok (.ldc2_w 236, 3) := by decide +kernel
theorem dX2_digest_3 : decode cX2_digest 3 = .ok (.lstore_n 1, 1) := by decide +kernel
theorem dX2_digest_4 : decode cX2_digest 4 = .ok (.iconst 0, 1) := by decide +kernel
theorem dX2_digest_5 : decode cX2_digest 5 = .ok (.istore_n 3, 1) := by decide +kernel
theorem dX2_digest_6 : decode cX2_digest 6 = .ok (.iload_n 3, 1) := by decide +kernel
theorem dX2_digest_7 : decode cX2_digest 7 = .ok (.iconst 4, 1) := by decide +kernel
theorem dX2_digest_8 : decode cX2_digest 8 = .ok (.if_icmp .gt 22, 3) := by decide +kernel
theorem dX2_digest_11 : decode cX2_digest 11 = .ok (.ldc2_w 238, 3) := by decide +kernel
theorem dX2_digest_14 : decode cX2_digest 14 = .ok (.lload_n 1, 1) := by decide +kernel
theorem dX2_digest_15 : decode cX2_digest 15 = .ok (.lmul, 1) := by decide +kernel
theorem dX2_digest_16 : decode cX2_digest 16 = .ok (.aload_n 0, 1) := by decide +kernel
theorem dX2_digest_17 : decode cX2_digest 17 = .ok (.iload_n 3, 1) := by decide +kernel
theorem dX2_digest_18 : decode cX2_digest 18 = .ok (.invokevirtual 240, 3) := by decide +kernel
theorem dX2_digest_21 : decode cX2_digest 21 = .ok (.i2l, 1) := by decide +kernel
theorem dX2_digest_22 : decode cX2_digest 22 = .ok (.ladd, 1) := by decide +kernel
theorem dX2_digest_23 : decode cX2_digest 23 = .ok (.lstore_n 1, 1) := by decide +kernel
theorem dX2_digest_24 : decode cX2_digest 24 = .ok (.iinc 3 1, 3) := by decide +kernel
theorem dX2_digest_27 : decode cX2_digest 27 = .ok (.goto (-21), 3) := by decide +kernel
theorem dX2_digest_30 : decode cX2_digest 30 = .ok (.aload_n 0, 1) := by decide +kernel
theorem dX2_digest_31 : decode cX2_digest 31 = .ok (.lload_n 1, 1) := by decide +kernel
theorem dX2_digest_32 : decode cX2_digest 32 = .ok (.invokevirtual 243, 3) := by decide +kernel
theorem dX2_digest_35 : decode cX2_digest 35 = .ok (.lstore_n 1, 1) := by decide +kernel
theorem dX2_digest_36 : decode cX2_digest 36 = .ok (.aload_n 0, 1) := by decide +kernel
theorem dX2_digest_37 : decode cX2_digest 37 = .ok (.lload_n 1, 1) := by decide +kernel
theorem dX2_digest_38 : decode cX2_digest 38 = .ok (.invokevirtual 247, 3) := by decide +kernel
theorem dX2_digest_41 : decode cX2_digest 41 = .ok (.lstore_n 1, 1) := by decide +kernel
theorem dX2_digest_42 : decode cX2_digest 42 = .ok (.aload_n 0, 1) := by decide +kernel
theorem dX2_digest_43 : decode cX2_digest 43 = .ok (.lload_n 1, 1) := by decide +kernel
theorem dX2_digest_44 : decode cX2_digest 44 = .ok (.invokevirtual 250, 3) := by decide +kernel
theorem dX2_digest_47 : decode cX2_digest 47 = .ok (.lstore_n 1, 1) := by decide +kernel
theorem dX2_digest_48 : decode cX2_digest 48 = .ok (.ldc2_w 238, 3) := by decide +kernel
theorem dX2_digest_51 : decode cX2_digest 51 = .ok (.lload_n 1, 1) := by decide +kernel
theorem dX2_digest_52 : decode cX2_digest 52 = .ok (.lmul, 1) := by decide +kernel
theorem dX2_digest_53 : decode cX2_digest 53 = .ok (.aload_n 0, 1) := by decide +kernel
theorem dX2_digest_54 : decode cX2_digest 54 = .ok (.invokevirtual 253, 3) := by decide +kernel
theorem dX2_digest_57 : decode cX2_digest 57 = .ok (.invokestatic 257, 3) := by decide +kernel
theorem dX2_digest_60 : decode cX2_digest 60 = .ok (.ladd, 1) := by decide +kernel
theorem dX2_digest_61 : decode cX2_digest 61 = .ok (.lstore_n 1, 1) := by decide +kernel
theorem dX2_digest_62 : decode cX2_digest 62 = .ok (.ldc2_w 238, 3) := by decide +kernel
theorem dX2_digest_65 : decode cX2_digest 65 = .ok (.lload_n 1, 1) := by decide +kernel
theorem dX2_digest_66 : decode cX2_digest 66 = .ok (.lmul, 1) := by decide +kernel
theorem dX2_digest_67 : decode cX2_digest 67 = .ok (.aload_n 0, 1) := by decide +kernel
theorem dX2_digest_68 : decode cX2_digest 68 = .ok (.getfield 118, 3) := by decide +kernel
theorem dX2_digest_71 : decode cX2_digest 71 = .ok (.i2l, 1) := by decide +kernel
theorem dX2_digest_72 : decode cX2_digest 72 = .ok (.ladd, 1) := by decide +kernel
theorem dX2_digest_73 : decode cX2_digest 73 = .ok (.lstore_n 1, 1) := by decide +kernel
theorem dX2_digest_74 : decode cX2_digest 74 = .ok (.iconst 0, 1) := by decide +kernel
theorem dX2_digest_75 : decode cX2_digest 75 = .ok (.istore_n 3, 1) := by decide +kernel
theorem dX2_digest_76 : decode cX2_digest 76 = .ok (.iload_n 3, 1) := by decide +kernel
theorem dX2_digest_77 : decode cX2_digest 77 = .ok (.aload_n 0, 1) := by decide +kernel
theorem dX2_digest_78 : decode cX2_digest 78 = .ok (.getfield 118, 3) := by decide +kernel
theorem dX2_digest_81 : decode cX2_digest 81 = .ok (.if_icmp .ge 23, 3) := by decide +kernel
theorem dX2_digest_84 : decode cX2_digest 84 = .ok (.ldc2_w 238, 3) := by decide +kernel
theorem dX2_digest_87 : decode cX2_digest 87 = .ok (.lload_n 1, 1) := by decide +kernel
theorem dX2_digest_88 : decode cX2_digest 88 = .ok (.lmul, 1) := by decide +kernel
theorem dX2_digest_89 : decode cX2_digest 89 = .ok (.aload_n 0, 1) := by decide +kernel
theorem dX2_digest_90 : decode cX2_digest 90 = .ok (.getfield 24, 3) := by decide +kernel
theorem dX2_digest_93 : decode cX2_digest 93 = .ok (.iload_n 3, 1) := by decide +kernel
theorem dX2_digest_94 : decode cX2_digest 94 = .ok (.caload, 1) := by decide +kernel
theorem dX2_digest_95 : decode cX2_digest 95 = .ok (.i2l, 1) := by decide +kernel
theorem dX2_digest_96 : decode cX2_digest 96 = .ok (.ladd, 1) := by decide +kernel
theorem dX2_digest_97 : decode cX2_digest 97 = .ok (.lstore_n 1, 1) := by decide +kernel
theorem dX2_digest_98 : decode cX2_digest 98 = .ok (.iinc 3 1, 3) := by decide +kernel
theorem dX2_digest_101 : decode cX2_digest 101 = .ok (.goto (-25), 3) := by decide +kernel
theorem dX2_digest_104 : decode cX2_digest 104 = .ok (.lload_n 1, 1) := by decide +kernel
theorem dX2_digest_105 : decode cX2_digest 105 = .ok (.lreturn, 1) := by decide +kernel
theorem dX2_mixRow_0 : decode cX2_mixRow 0 = .ok (.lload_n 1, 1) := by decide +kernel
theorem dX2_mixRow_1 : decode cX2_mixRow 1 = .ok (.lstore_n 3, 1) := by decide +kernel
theorem dX2_mixRow_2 : decode cX2_mixRow 2 = .ok (.iconst 0, 1) := by decide +kernel
theorem dX2_mixRow_3 : decode cX2_mixRow 3 = .ok (.istore 5, 2) := by decide +kernel
theorem dX2_mixRow_5 : decode cX2_mixRow 5 = .ok (.iload 5, 2) := by decide +kernel
theorem dX2_mixRow_7 : decode cX2_mixRow 7 = .ok (.aload_n 0, 1) := by decide +kernel
theorem dX2_mixRow_8 : decode cX2_mixRow 8 = .ok (.getfield 28, 3) := by decide +kernel
theorem dX2_mixRow_11 : decode cX2_mixRow 11 = .ok (.if_icmp .ge 24, 3) := by decide +kernel
theorem dX2_mixRow_14 : decode cX2_mixRow 14 = .ok (.ldc2_w 238, 3) := by decide +kernel
theorem dX2_mixRow_17 : decode cX2_mixRow 17 = .ok (.lload_n 3, 1) := by decide +kernel
theorem dX2_mixRow_18 : decode cX2_mixRow 18 = .ok (.lmul, 1) := by decide +kernel
theorem dX2_mixRow_19 : decode cX2_mixRow 19 = .ok (.aload_n 0, 1) := by decide +kernel
theorem dX2_mixRow_20 : decode cX2_mixRow 20 = .ok (.getfield 9, 3) := by decide +kernel
theorem dX2_mixRow_23 : decode cX2_mixRow 23 = .ok (.iload 5, 2) := by decide +kernel
theorem dX2_mixRow_25 : decode cX2_mixRow 25 = .ok (.iaload, 1) := by decide +kernel
theorem dX2_mixRow_26 : decode cX2_mixRow 26 = .ok (.i2l, 1) := by decide +kernel
theorem dX2_mixRow_27 : decode cX2_mixRow 27 = .ok (.ladd, 1) := by decide +kernel
theorem dX2_mixRow_28 : decode cX2_mixRow 28 = .ok (.lstore_n 3, 1) := by decide +kernel
theorem dX2_mixRow_29 : decode cX2_mixRow 29 = .ok (.iinc 5 1, 3) := by decide +kernel
theorem dX2_mixRow_32 : decode cX2_mixRow 32 = .ok (.goto (-27), 3) := by decide +kernel
theorem dX2_mixRow_35 : decode cX2_mixRow 35 = .ok (.iconst 0, 1) := by decide +kernel
theorem dX2_mixRow_36 : decode cX2_mixRow 36 = .ok (.istore 5, 2) := by decide +kernel
theorem dX2_mixRow_38 : decode cX2_mixRow 38 = .ok (.iload 5, 2) := by decide +kernel
theorem dX2_mixRow_40 : decode cX2_mixRow 40 = .ok (.iconst 2, 1) := by decide +kernel
theorem dX2_mixRow_41 : decode cX2_mixRow 41 = .ok (.aload_n 0, 1) := by decide +kernel
theorem dX2_mixRow_42 : decode cX2_mixRow 42 = .ok (.getfield 52, 3) := by decide +kernel
theorem dX2_mixRow_45 : decode cX2_mixRow 45 = .ok (.imul, 1) := by decide +kernel
theorem dX2_mixRow_46 : decode cX2_mixRow 46 = .ok (.if_icmp .ge 45, 3) := by decide +kernel
theorem dX2_mixRow_49 : decode cX2_mixRow 49 = .ok (.iconst 0, 1) := by decide +kernel
theorem dX2_mixRow_50 : decode cX2_mixRow 50 = .ok (.istore 6, 2) := by decide +kernel
theorem dX2_mixRow_52 : decode cX2_mixRow 52 = .ok (.iload 6, 2) := by decide +kernel
theorem dX2_mixRow_54 : decode cX2_mixRow 54 = .ok (.aload_n 0, 1) := by decide +kernel
theorem dX2_mixRow_55 : decode cX2_mixRow 55 = .ok (.getfield 28, 3) := by decide +kernel
theorem dX2_mixRow_58 : decode cX2_mixRow 58 = .ok (.if_icmp .ge 27, 3) := by decide +kernel
theorem dX2_mixRow_61 : decode cX2_mixRow 61 = .ok (.ldc2_w 238, 3) := by decide +kernel
theorem dX2_mixRow_64 : decode cX2_mixRow 64 = .ok (.lload_n 3, 1) := by decide +kernel
theorem dX2_mixRow_65 : decode cX2_mixRow 65 = .ok (.lmul, 1) := by decide +kernel
theorem dX2_mixRow_66 : decode cX2_mixRow 66 = .ok (.aload_n 0, 1) := by decide +kernel
theorem dX2_mixRow_67 : decode cX2_mixRow 67 = .ok (.getfield 21, 3) := by decide +kernel
theorem dX2_mixRow_70 : decode cX2_mixRow 70 = .ok (.iload 5, 2) := by decide +kernel
theorem dX2_mixRow_72 : decode cX2_mixRow 72 = .ok (.aaload, 1) := by decide +kernel
theorem dX2_mixRow_73 : decode cX2_mixRow 73 = .ok (.iload 6, 2) := by decide +kernel
theorem dX2_mixRow_75 : decode cX2_mixRow 75 = .ok (.iaload, 1) := by decide +kernel
theorem dX2_mixRow_76 : decode cX2_mixRow 76 = .ok (.i2l, 1) := by decide +kernel
theorem dX2_mixRow_77 : decode cX2_mixRow 77 = .ok (.ladd, 1) := by decide +kernel
theorem dX2_mixRow_78 : decode cX2_mixRow 78 = .ok (.lstore_n 3, 1) := by decide +kernel
theorem dX2_mixRow_79 : decode cX2_mixRow 79 = .ok (.iinc 6 1, 3) := by decide +kernel
theorem dX2_mixRow_82 : decode cX2_mixRow 82 = .ok (.goto (-30), 3) := by decide +kernel
theorem dX2_mixRow_85 : decode cX2_mixRow 85 = .ok (.iinc 5 1, 3) := by decide +kernel
theorem dX2_mixRow_88 : decode cX2_mixRow 88 = .ok (.goto (-50), 3) := by decide +kernel
theorem dX2_mixRow_91 : decode cX2_mixRow 91 = .ok (.lload_n 3, 1) := by decide +kernel
theorem dX2_mixRow_92 : decode cX2_mixRow 92 = .ok (.lreturn, 1) := by decide +kernel
set_option maxRecDepth 20000 in
theorem ggX2_mixGroup_X2_group : GoodIn wsX2_mixGroup wsX2_group := goodIn_ca (goodIn_r _ [7, 8, 9, 10, 11, 12, 13, 6, 14, 15, 16, 17, 18, 19, 20, 21, 22, 23, 24, 25, 26, 27, 28, 29, 30, 31, 32, 33, 34, 35, 36, 37, 38, 39, 40, 2, 41, 42, 43, 44, 45, 46, 47, 48, 49, 50, 51, 52, 53, 54, 55, 56, 57, 58, 59, 60, 61, 62, 63, 64, 65, 66, 67, 68, 69, 70, 104, 105, 106, 107, 94, 95, 96, 97, 98, 99, 100, 101, 102, 103, 108, 109, 110, 111, 112, 113, 114, 115, 116, 117] (by decide +kernel) (by decide +kernel)) (goodIn_sub (fun _ h => List.mem_cons_of_mem _ (List.mem_append_left _ (List.mem_append_right _ h))) (by decide +kernel))
set_option maxRecDepth 20000 in
theorem gX2_mixGroup_X2_group : GoodIn wsX2_mixGroup (wsV RX2 261 RX2 yX2_group wsX2_group) := goodIn_app (goodIn_of _ (by decide +kernel)) ggX2_mixGroup_X2_group
set_option maxRecDepth 20000 in
theorem ggX2_mixGroup_X2_basicOrbit : GoodIn wsX2_mixGroup wsX2_basicOrbit := goodIn_ca (goodIn_r _ [74, 75, 76, 77, 2, 78, 79, 80, 6, 81, 11, 12, 13, 14, 15, 16, 17, 18, 19, 20, 21, 22, 23, 24, 25, 26, 27, 28, 29, 30, 31, 32, 33, 34, 35, 36, 82, 83, 84, 85, 94, 95, 96, 97, 98, 99, 100, 101, 102, 103, 108, 109, 110, 111, 112, 113, 114, 115, 116, 117, 104, 105, 106, 107] (by decide +kernel) (by decide +kernel)) (goodIn_sub (fun _ h => List.mem_cons_of_mem _ (List.mem_append_right _ h)) (by decide +kernel))
set_option maxRecDepth 20000 in
theorem gX2_mixGroup_X2_basicOrbit : GoodIn wsX2_mixGroup (wsV RX2 264 RX2 yX2_basicOrbit wsX2_basicOrbit) := goodIn_app (goodIn_of _ (by decide +kernel)) ggX2_mixGroup_X2_basicOrbit
set_option maxRecDepth 20000 in
theorem ggX2_mixGroup_X2_layer : GoodIn wsX2_mixGroup wsX2_layer := goodIn_r _ [89, 11, 12, 13, 6, 14, 15, 16, 17, 18, 19, 20, 21, 22, 23, 24, 25, 26, 27, 28, 29, 30, 31, 32, 33, 34, 35, 36, 90, 91, 92, 93, 94, 95, 96, 97, 98, 99, 100, 101, 102, 103, 108, 109, 110, 111, 112, 113, 114, 115, 116, 117, 104, 105, 106, 107] (by decide +kernel) (by decide +kernel)
set_option maxRecDepth 20000 in
theorem gX2_mixGroup_X2_layer : GoodIn wsX2_mixGroup (wsV RX2 267 RX2 yX2_layer wsX2_layer) := goodIn_app (goodIn_of _ (by decide +kernel)) ggX2_mixGroup_X2_layer
theorem dX2_mixGroup_0 : decode cX2_mixGroup 0 = .ok (.lload_n 1, 1) := by decide +kernel
theorem dX2_mixGroup_1 : decode cX2_mixGroup 1 = .ok (.lstore_n 3, 1) := by decide +kernel
theorem dX2_mixGroup_2 : decode cX2_mixGroup 2 = .ok (.iconst 0, 1) := by decide +kernel
theorem dX2_mixGroup_3 : decode cX2_mixGroup 3 = .ok (.istore 5, 2) := by decide +kernel
theorem dX2_mixGroup_5 : decode cX2_mixGroup 5 = .ok (.iload 5, 2) := by decide +kernel
theorem dX2_mixGroup_7 : decode cX2_mixGroup 7 = .ok (.iconst 3, 1) := by decide +kernel
theorem dX2_mixGroup_8 : decode cX2_mixGroup 8 = .ok (.if_icmp .gt 23, 3) := by decide +kernel
theorem dX2_mixGroup_11 : decode cX2_mixGroup 11 = .ok (.ldc2_w 238, 3) := by decide +kernel
theorem dX2_mixGroup_14 : decode cX2_mixGroup 14 = .ok (.lload_n 3, 1) := by decide +kernel
theorem dX2_mixGroup_15 : decode cX2_mixGroup 15 = .ok (.lmul, 1) := by decide +kernel
theorem dX2_mixGroup_16 : decode cX2_mixGroup 16 = .ok (.aload_n 0, 1) := by decide +kernel
theorem dX2_mixGroup_17 : decode cX2_mixGroup 17 = .ok (.iload 5, 2) := by decide +kernel
theorem dX2_mixGroup_19 : decode cX2_mixGroup 19 = .ok (.invokevirtual 261, 3) := by decide +kernel
theorem dX2_mixGroup_22 : decode cX2_mixGroup 22 = .ok (.i2l, 1) := by decide +kernel
theorem dX2_mixGroup_23 : decode cX2_mixGroup 23 = .ok (.ladd, 1) := by decide +kernel
theorem dX2_mixGroup_24 : decode cX2_mixGroup 24 = .ok (.lstore_n 3, 1) := by decide +kernel
theorem dX2_mixGroup_25 : decode cX2_mixGroup 25 = .ok (.iinc 5 1, 3) := by decide +kernel
theorem dX2_mixGroup_28 : decode cX2_mixGroup 28 = .ok (.goto (-23), 3) := by decide +kernel
theorem dX2_mixGroup_31 : decode cX2_mixGroup 31 = .ok (.iconst 0, 1) := by decide +kernel
theorem dX2_mixGroup_32 : decode cX2_mixGroup 32 = .ok (.istore 5, 2) := by decide +kernel
theorem dX2_mixGroup_34 : decode cX2_mixGroup 34 = .ok (.iload 5, 2) := by decide +kernel
theorem dX2_mixGroup_36 : decode cX2_mixGroup 36 = .ok (.aload_n 0, 1) := by decide +kernel
theorem dX2_mixGroup_37 : decode cX2_mixGroup 37 = .ok (.getfield 28, 3) := by decide +kernel
theorem dX2_mixGroup_40 : decode cX2_mixGroup 40 = .ok (.if_icmp .ge 23, 3) := by decide +kernel
theorem dX2_mixGroup_43 : decode cX2_mixGroup 43 = .ok (.ldc2_w 238, 3) := by decide +kernel
theorem dX2_mixGroup_46 : decode cX2_mixGroup 46 = .ok (.lload_n 3, 1) := by decide +kernel
theorem dX2_mixGroup_47 : decode cX2_mixGroup 47 = .ok (.lmul, 1) := by decide +kernel
theorem dX2_mixGroup_48 : decode cX2_mixGroup 48 = .ok (.aload_n 0, 1) := by decide +kernel
theorem dX2_mixGroup_49 : decode cX2_mixGroup 49 = .ok (.iload 5, 2) := by decide +kernel
theorem dX2_mixGroup_51 : decode cX2_mixGroup 51 = .ok (.invokevirtual 264, 3) := by decide +kernel
theorem dX2_mixGroup_54 : decode cX2_mixGroup 54 = .ok (.i2l, 1) := by decide +kernel
theorem dX2_mixGroup_55 : decode cX2_mixGroup 55 = .ok (.ladd, 1) := by decide +kernel
theorem dX2_mixGroup_56 : decode cX2_mixGroup 56 = .ok (.lstore_n 3, 1) := by decide +kernel
theorem dX2_mixGroup_57 : decode cX2_mixGroup 57 = .ok (.iinc 5 1, 3) := by decide +kernel
theorem dX2_mixGroup_60 : decode cX2_mixGroup 60 = .ok (.goto (-26), 3) := by decide +kernel
theorem dX2_mixGroup_63 : decode cX2_mixGroup 63 = .ok (.iconst 0, 1) := by decide +kernel
theorem dX2_mixGroup_64 : decode cX2_mixGroup 64 = .ok (.istore 5, 2) := by decide +kernel
theorem dX2_mixGroup_66 : decode cX2_mixGroup 66 = .ok (.iload 5, 2) := by decide +kernel
theorem dX2_mixGroup_68 : decode cX2_mixGroup 68 = .ok (.bipush 9, 2) := by decide +kernel
theorem dX2_mixGroup_70 : decode cX2_mixGroup 70 = .ok (.if_icmp .gt 23, 3) := by decide +kernel
theorem dX2_mixGroup_73 : decode cX2_mixGroup 73 = .ok (.ldc2_w 238, 3) := by decide +kernel
theorem dX2_mixGroup_76 : decode cX2_mixGroup 76 = .ok (.lload_n 3, 1) := by decide +kernel
theorem dX2_mixGroup_77 : decode cX2_mixGroup 77 = .ok (.lmul, 1) := by decide +kernel
theorem dX2_mixGroup_78 : decode cX2_mixGroup 78 = .ok (.aload_n 0, 1) := by decide +kernel
theorem dX2_mixGroup_79 : decode cX2_mixGroup 79 = .ok (.iload 5, 2) := by decide +kernel
theorem dX2_mixGroup_81 : decode cX2_mixGroup 81 = .ok (.invokevirtual 267, 3) := by decide +kernel
theorem dX2_mixGroup_84 : decode cX2_mixGroup 84 = .ok (.i2l, 1) := by decide +kernel
theorem dX2_mixGroup_85 : decode cX2_mixGroup 85 = .ok (.ladd, 1) := by decide +kernel
theorem dX2_mixGroup_86 : decode cX2_mixGroup 86 = .ok (.lstore_n 3, 1) := by decide +kernel
theorem dX2_mixGroup_87 : decode cX2_mixGroup 87 = .ok (.iinc 5 1, 3) := by decide +kernel
theorem dX2_mixGroup_90 : decode cX2_mixGroup 90 = .ok (.goto (-24), 3) := by decide +kernel
theorem dX2_mixGroup_93 : decode cX2_mixGroup 93 = .ok (.lload_n 3, 1) := by decide +kernel
theorem dX2_mixGroup_94 : decode cX2_mixGroup 94 = .ok (.lreturn, 1) := by decide +kernel
set_option maxRecDepth 20000 in
theorem ggX2_mixWord_X2_length : GoodIn wsX2_mixWord wsX2_length := goodIn_r _ [6, 7, 8, 9, 10, 5, 11, 12, 13, 14, 15, 16, 17, 18, 19, 20, 21, 22, 23, 24, 25, 26, 27, 28, 29, 30, 31, 32, 33, 34, 35, 36, 37, 38, 39, 40, 41, 42, 43, 44, 45, 46, 47, 48, 49, 50, 73, 74, 75, 76, 77, 78, 79, 80, 81, 82, 83, 84, 85, 86, 87, 88, 89, 90, 91, 92, 93, 94, 95, 96] (by decide +kernel) (by decide +kernel)
set_option maxRecDepth 20000 in
theorem gX2_mixWord_X2_length : GoodIn wsX2_mixWord (wsV RX2 112 RX2 yX2_length wsX2_length) := goodIn_app (goodIn_of _ (by decide +kernel)) ggX2_mixWord_X2_length
set_option maxRecDepth 20000 in
theorem ggX2_mixWord_X2_words : GoodIn wsX2_mixWord wsX2_words := goodIn_r _ [54, 7, 12, 8, 9, 10, 5, 11, 13, 14, 15, 16, 17, 18, 19, 20, 21, 22, 23, 24, 25, 26, 27, 28, 29, 30, 31, 32, 33, 34, 35, 36, 37, 38, 39, 40, 41, 42, 43, 44, 45, 46, 47, 48, 49, 50, 55, 56, 57, 58, 59, 60, 61, 62, 63, 73, 74, 75, 76, 77, 78, 79, 80, 81, 82, 83, 84, 85, 86, 87, 88, 89, 90, 91, 92, 93, 94, 95, 96] (by decide +kernel) (by decide +kernel)
set_option maxRecDepth 20000 in
theorem gX2_mixWord_X2_words : GoodIn wsX2_mixWord (wsV RX2 270 RX2 yX2_words wsX2_words) := goodIn_app (goodIn_of _ (by decide +kernel)) ggX2_mixWord_X2_words
set_option maxRecDepth 20000 in
theorem ggX2_mixWord_X2_wordMove : GoodIn wsX2_mixWord wsX2_wordMove := goodIn_r _ [67, 7, 12, 68, 8, 9, 10, 5, 11, 13, 14, 15, 16, 17, 18, 19, 20, 21, 22, 23, 24, 25, 26, 27, 28, 29, 30, 31, 32, 33, 34, 35, 36, 37, 38, 39, 40, 41, 42, 43, 44, 45, 46, 47, 48, 49, 50, 69, 70, 71, 72, 60, 61, 62, 63, 73, 74, 75, 76, 77, 78, 79, 80, 81, 82, 83, 84, 85, 86, 87, 88, 89, 90, 91, 92, 93, 94, 95, 96] (by decide +kernel) (by decide +kernel)
set_option maxRecDepth 20000 in
theorem gX2_mixWord_X2_wordMove : GoodIn wsX2_mixWord (wsV RX2 273 RX2 yX2_wordMove wsX2_wordMove) := goodIn_app (goodIn_of _ (by decide +kernel)) ggX2_mixWord_X2_wordMove
theorem dX2_mixWord_0 : decode cX2_mixWord 0 = .ok (.aload_n 0, 1) := by decide +kernel
theorem dX2_mixWord_1 : decode cX2_mixWord 1 = .ok (.invokevirtual 112, 3) := by decide +kernel
theorem dX2_mixWord_4 : decode cX2_mixWord 4 = .ok (.istore_n 3, 1) := by decide +kernel
theorem dX2_mixWord_5 : decode cX2_mixWord 5 = .ok (.ldc2_w 238, 3) := by decide +kernel
theorem dX2_mixWord_8 : decode cX2_mixWord 8 = .ok (.lload_n 1, 1) := by decide +kernel
theorem dX2_mixWord_9 : decode cX2_mixWord 9 = .ok (.lmul, 1) := by decide +kernel
theorem dX2_mixWord_10 : decode cX2_mixWord 10 = .ok (.iload_n 3, 1) := by decide +kernel
theorem dX2_mixWord_11 : decode cX2_mixWord 11 = .ok (.i2l, 1) := by decide +kernel
theorem dX2_mixWord_12 : decode cX2_mixWord 12 = .ok (.ladd, 1) := by decide +kernel
theorem dX2_mixWord_13 : decode cX2_mixWord 13 = .ok (.lstore 4, 2) := by decide +kernel
theorem dX2_mixWord_15 : decode cX2_mixWord 15 = .ok (.ldc2_w 238, 3) := by decide +kernel
theorem dX2_mixWord_18 : decode cX2_mixWord 18 = .ok (.lload 4, 2) := by decide +kernel
theorem dX2_mixWord_20 : decode cX2_mixWord 20 = .ok (.lmul, 1) := by decide +kernel
theorem dX2_mixWord_21 : decode cX2_mixWord 21 = .ok (.aload_n 0, 1) := by decide +kernel
theorem dX2_mixWord_22 : decode cX2_mixWord 22 = .ok (.invokevirtual 270, 3) := by decide +kernel
theorem dX2_mixWord_25 : decode cX2_mixWord 25 = .ok (.ladd, 1) := by decide +kernel
theorem dX2_mixWord_26 : decode cX2_mixWord 26 = .ok (.lstore 4, 2) := by decide +kernel
theorem dX2_mixWord_28 : decode cX2_mixWord 28 = .ok (.iconst 0, 1) := by decide +kernel
theorem dX2_mixWord_29 : decode cX2_mixWord 29 = .ok (.istore 6, 2) := by decide +kernel
theorem dX2_mixWord_31 : decode cX2_mixWord 31 = .ok (.iload 6, 2) := by decide +kernel
theorem dX2_mixWord_33 : decode cX2_mixWord 33 = .ok (.iload_n 3, 1) := by decide +kernel
theorem dX2_mixWord_34 : decode cX2_mixWord 34 = .ok (.if_icmp .ge 25, 3) := by decide +kernel
theorem dX2_mixWord_37 : decode cX2_mixWord 37 = .ok (.ldc2_w 238, 3) := by decide +kernel
theorem dX2_mixWord_40 : decode cX2_mixWord 40 = .ok (.lload 4, 2) := by decide +kernel
theorem dX2_mixWord_42 : decode cX2_mixWord 42 = .ok (.lmul, 1) := by decide +kernel
theorem dX2_mixWord_43 : decode cX2_mixWord 43 = .ok (.aload_n 0, 1) := by decide +kernel
theorem dX2_mixWord_44 : decode cX2_mixWord 44 = .ok (.iload 6, 2) := by decide +kernel
theorem dX2_mixWord_46 : decode cX2_mixWord 46 = .ok (.invokevirtual 273, 3) := by decide +kernel
theorem dX2_mixWord_49 : decode cX2_mixWord 49 = .ok (.i2l, 1) := by decide +kernel
theorem dX2_mixWord_50 : decode cX2_mixWord 50 = .ok (.ladd, 1) := by decide +kernel
theorem dX2_mixWord_51 : decode cX2_mixWord 51 = .ok (.lstore 4, 2) := by decide +kernel
theorem dX2_mixWord_53 : decode cX2_mixWord 53 = .ok (.iinc 6 1, 3) := by decide +kernel
theorem dX2_mixWord_56 : decode cX2_mixWord 56 = .ok (.goto (-25), 3) := by decide +kernel
theorem dX2_mixWord_59 : decode cX2_mixWord 59 = .ok (.lload 4, 2) := by decide +kernel
theorem dX2_mixWord_61 : decode cX2_mixWord 61 = .ok (.lreturn, 1) := by decide +kernel
theorem dX2_bitsOf_0 : decode cX2_bitsOf 0 = .ok (.dload_n 0, 1) := by decide +kernel
theorem dX2_bitsOf_1 : decode cX2_bitsOf 1 = .ok (.dconst 0, 1) := by decide +kernel
theorem dX2_bitsOf_2 : decode cX2_bitsOf 2 = .ok (.dcmp .l, 1) := by decide +kernel
theorem dX2_bitsOf_3 : decode cX2_bitsOf 3 = .ok (.ifCond .gt 5, 3) := by decide +kernel
theorem dX2_bitsOf_6 : decode cX2_bitsOf 6 = .ok (.lconst 0, 1) := by decide +kernel
theorem dX2_bitsOf_7 : decode cX2_bitsOf 7 = .ok (.lreturn, 1) := by decide +kernel
theorem dX2_bitsOf_8 : decode cX2_bitsOf 8 = .ok (.dload_n 0, 1) := by decide +kernel
theorem dX2_bitsOf_9 : decode cX2_bitsOf 9 = .ok (.dstore_n 2, 1) := by decide +kernel
theorem dX2_bitsOf_10 : decode cX2_bitsOf 10 = .ok (.ldc2_w 276, 3) := by decide +kernel
theorem dX2_bitsOf_13 : decode cX2_bitsOf 13 = .ok (.lstore 4, 2) := by decide +kernel
theorem dX2_bitsOf_15 : decode cX2_bitsOf 15 = .ok (.iconst 0, 1) := by decide +kernel
theorem dX2_bitsOf_16 : decode cX2_bitsOf 16 = .ok (.istore 6, 2) := by decide +kernel
theorem dX2_bitsOf_18 : decode cX2_bitsOf 18 = .ok (.iload 6, 2) := by decide +kernel
theorem dX2_bitsOf_20 : decode cX2_bitsOf 20 = .ok (.bipush 64, 2) := by decide +kernel
theorem dX2_bitsOf_22 : decode cX2_bitsOf 22 = .ok (.if_icmp .ge 29, 3) := by decide +kernel
theorem dX2_bitsOf_25 : decode cX2_bitsOf 25 = .ok (.dload_n 2, 1) := by decide +kernel
theorem dX2_bitsOf_26 : decode cX2_bitsOf 26 = .ok (.ldc2_w 278, 3) := by decide +kernel
theorem dX2_bitsOf_29 : decode cX2_bitsOf 29 = .ok (.dcmp .l, 1) := by decide +kernel
theorem dX2_bitsOf_30 : decode cX2_bitsOf 30 = .ok (.ifCond .lt 21, 3) := by decide +kernel
theorem dX2_bitsOf_33 : decode cX2_bitsOf 33 = .ok (.dload_n 2, 1) := by decide +kernel
theorem dX2_bitsOf_34 : decode cX2_bitsOf 34 = .ok (.ldc2_w 278, 3) := by decide +kernel
theorem dX2_bitsOf_37 : decode cX2_bitsOf 37 = .ok (.ddiv, 1) := by decide +kernel
theorem dX2_bitsOf_38 : decode cX2_bitsOf 38 = .ok (.dstore_n 2, 1) := by decide +kernel
theorem dX2_bitsOf_39 : decode cX2_bitsOf 39 = .ok (.lload 4, 2) := by decide +kernel
theorem dX2_bitsOf_41 : decode cX2_bitsOf 41 = .ok (.lconst 1, 1) := by decide +kernel
theorem dX2_bitsOf_42 : decode cX2_bitsOf 42 = .ok (.ladd, 1) := by decide +kernel
theorem dX2_bitsOf_43 : decode cX2_bitsOf 43 = .ok (.lstore 4, 2) := by decide +kernel
theorem dX2_bitsOf_45 : decode cX2_bitsOf 45 = .ok (.iinc 6 1, 3) := by decide +kernel
theorem dX2_bitsOf_48 : decode cX2_bitsOf 48 = .ok (.goto (-30), 3) := by decide +kernel
theorem dX2_bitsOf_51 : decode cX2_bitsOf 51 = .ok (.iconst 0, 1) := by decide +kernel
theorem dX2_bitsOf_52 : decode cX2_bitsOf 52 = .ok (.istore 6, 2) := by decide +kernel
theorem dX2_bitsOf_54 : decode cX2_bitsOf 54 = .ok (.iload 6, 2) := by decide +kernel
theorem dX2_bitsOf_56 : decode cX2_bitsOf 56 = .ok (.bipush 64, 2) := by decide +kernel
theorem dX2_bitsOf_58 : decode cX2_bitsOf 58 = .ok (.if_icmp .ge 27, 3) := by decide +kernel
theorem dX2_bitsOf_61 : decode cX2_bitsOf 61 = .ok (.dload_n 2, 1) := by decide +kernel
theorem dX2_bitsOf_62 : decode cX2_bitsOf 62 = .ok (.dconst 1, 1) := by decide +kernel
theorem dX2_bitsOf_63 : decode cX2_bitsOf 63 = .ok (.dcmp .g, 1) := by decide +kernel
theorem dX2_bitsOf_64 : decode cX2_bitsOf 64 = .ok (.ifCond .ge 21, 3) := by decide +kernel
theorem dX2_bitsOf_67 : decode cX2_bitsOf 67 = .ok (.dload_n 2, 1) := by decide +kernel
theorem dX2_bitsOf_68 : decode cX2_bitsOf 68 = .ok (.ldc2_w 278, 3) := by decide +kernel
theorem dX2_bitsOf_71 : decode cX2_bitsOf 71 = .ok (.dmul, 1) := by decide +kernel
theorem dX2_bitsOf_72 : decode cX2_bitsOf 72 = .ok (.dstore_n 2, 1) := by decide +kernel
theorem dX2_bitsOf_73 : decode cX2_bitsOf 73 = .ok (.lload 4, 2) := by decide +kernel
theorem dX2_bitsOf_75 : decode cX2_bitsOf 75 = .ok (.lconst 1, 1) := by decide +kernel
theorem dX2_bitsOf_76 : decode cX2_bitsOf 76 = .ok (.lsub, 1) := by decide +kernel
theorem dX2_bitsOf_77 : decode cX2_bitsOf 77 = .ok (.lstore 4, 2) := by decide +kernel
theorem dX2_bitsOf_79 : decode cX2_bitsOf 79 = .ok (.iinc 6 1, 3) := by decide +kernel
theorem dX2_bitsOf_82 : decode cX2_bitsOf 82 = .ok (.goto (-28), 3) := by decide +kernel
theorem dX2_bitsOf_85 : decode cX2_bitsOf 85 = .ok (.lload 4, 2) := by decide +kernel
theorem dX2_bitsOf_87 : decode cX2_bitsOf 87 = .ok (.bipush 52, 2) := by decide +kernel
theorem dX2_bitsOf_89 : decode cX2_bitsOf 89 = .ok (.lshl, 1) := by decide +kernel
theorem dX2_bitsOf_90 : decode cX2_bitsOf 90 = .ok (.dload_n 2, 1) := by decide +kernel
theorem dX2_bitsOf_91 : decode cX2_bitsOf 91 = .ok (.dconst 1, 1) := by decide +kernel
theorem dX2_bitsOf_92 : decode cX2_bitsOf 92 = .ok (.dsub, 1) := by decide +kernel
theorem dX2_bitsOf_93 : decode cX2_bitsOf 93 = .ok (.ldc2_w 280, 3) := by decide +kernel
theorem dX2_bitsOf_96 : decode cX2_bitsOf 96 = .ok (.dmul, 1) := by decide +kernel
theorem dX2_bitsOf_97 : decode cX2_bitsOf 97 = .ok (.d2l, 1) := by decide +kernel
theorem dX2_bitsOf_98 : decode cX2_bitsOf 98 = .ok (.ladd, 1) := by decide +kernel
theorem dX2_bitsOf_99 : decode cX2_bitsOf 99 = .ok (.lreturn, 1) := by decide +kernel
theorem dX2_isPlace_0 : decode cX2_isPlace 0 = .ok (.iload_n 1, 1) := by decide +kernel
theorem dX2_isPlace_1 : decode cX2_isPlace 1 = .ok (.ifCond .lt 15, 3) := by decide +kernel
theorem dX2_isPlace_4 : decode cX2_isPlace 4 = .ok (.iload_n 1, 1) := by decide +kernel
theorem dX2_isPlace_5 : decode cX2_isPlace 5 = .ok (.aload_n 0, 1) := by decide +kernel
theorem dX2_isPlace_6 : decode cX2_isPlace 6 = .ok (.getfield 28, 3) := by decide +kernel
theorem dX2_isPlace_9 : decode cX2_isPlace 9 = .ok (.if_icmp .ge 7, 3) := by decide +kernel
theorem dX2_isPlace_12 : decode cX2_isPlace 12 = .ok (.iconst 1, 1) := by decide +kernel
theorem dX2_isPlace_13 : decode cX2_isPlace 13 = .ok (.goto 4, 3) := by decide +kernel
theorem dX2_isPlace_16 : decode cX2_isPlace 16 = .ok (.iconst 0, 1) := by decide +kernel
theorem dX2_isPlace_17 : decode cX2_isPlace 17 = .ok (.ireturn, 1) := by decide +kernel
theorem dX2_isMove_0 : decode cX2_isMove 0 = .ok (.iload_n 1, 1) := by decide +kernel
theorem dX2_isMove_1 : decode cX2_isMove 1 = .ok (.ifCond .lt 17, 3) := by decide +kernel
theorem dX2_isMove_4 : decode cX2_isMove 4 = .ok (.iload_n 1, 1) := by decide +kernel
theorem dX2_isMove_5 : decode cX2_isMove 5 = .ok (.iconst 2, 1) := by decide +kernel
theorem dX2_isMove_6 : decode cX2_isMove 6 = .ok (.aload_n 0, 1) := by decide +kernel
theorem dX2_isMove_7 : decode cX2_isMove 7 = .ok (.getfield 52, 3) := by decide +kernel
theorem dX2_isMove_10 : decode cX2_isMove 10 = .ok (.imul, 1) := by decide +kernel
theorem dX2_isMove_11 : decode cX2_isMove 11 = .ok (.if_icmp .ge 7, 3) := by decide +kernel
theorem dX2_isMove_14 : decode cX2_isMove 14 = .ok (.iconst 1, 1) := by decide +kernel
theorem dX2_isMove_15 : decode cX2_isMove 15 = .ok (.goto 4, 3) := by decide +kernel
theorem dX2_isMove_18 : decode cX2_isMove 18 = .ok (.iconst 0, 1) := by decide +kernel
theorem dX2_isMove_19 : decode cX2_isMove 19 = .ok (.ireturn, 1) := by decide +kernel
set_option maxRecDepth 20000 in
theorem ggX2_isAllowed_X2_isMove : GoodIn wsX2_isAllowed wsX2_isMove := goodIn_r _ [6, 7, 8, 9, 10, 11, 12, 13, 14, 15, 16, 17] (by decide +kernel) (by decide +kernel)
set_option maxRecDepth 20000 in
theorem gX2_isAllowed_X2_isMove : GoodIn wsX2_isAllowed (wsV RX2 98 RX2 yX2_isMove wsX2_isMove) := goodIn_app (goodIn_of _ (by decide +kernel)) ggX2_isAllowed_X2_isMove
theorem dX2_isAllowed_0 : decode cX2_isAllowed 0 = .ok (.aload_n 0, 1) := by decide +kernel
theorem dX2_isAllowed_1 : decode cX2_isAllowed 1 = .ok (.iload_n 1, 1) := by decide +kernel
theorem dX2_isAllowed_2 : decode cX2_isAllowed 2 = .ok (.invokevirtual 98, 3) := by decide +kernel
theorem dX2_isAllowed_5 : decode cX2_isAllowed 5 = .ok (.ifCond .eq 18, 3) := by decide +kernel
theorem dX2_isAllowed_8 : decode cX2_isAllowed 8 = .ok (.aload_n 0, 1) := by decide +kernel
theorem dX2_isAllowed_9 : decode cX2_isAllowed 9 = .ok (.getfield 55, 3) := by decide +kernel
theorem dX2_isAllowed_12 : decode cX2_isAllowed 12 = .ok (.iconst 1, 1) := by decide +kernel
theorem dX2_isAllowed_13 : decode cX2_isAllowed 13 = .ok (.iload_n 1, 1) := by decide +kernel
theorem dX2_isAllowed_14 : decode cX2_isAllowed 14 = .ok (.ishl, 1) := by decide +kernel
theorem dX2_isAllowed_15 : decode cX2_isAllowed 15 = .ok (.iand, 1) := by decide +kernel
theorem dX2_isAllowed_16 : decode cX2_isAllowed 16 = .ok (.ifCond .eq 7, 3) := by decide +kernel
theorem dX2_isAllowed_19 : decode cX2_isAllowed 19 = .ok (.iconst 1, 1) := by decide +kernel
theorem dX2_isAllowed_20 : decode cX2_isAllowed 20 = .ok (.goto 4, 3) := by decide +kernel
theorem dX2_isAllowed_23 : decode cX2_isAllowed 23 = .ok (.iconst 0, 1) := by decide +kernel
theorem dX2_isAllowed_24 : decode cX2_isAllowed 24 = .ok (.ireturn, 1) := by decide +kernel
theorem dX2_setSolved_0 : decode cX2_setSolved 0 = .ok (.iconst 0, 1) := by decide +kernel
theorem dX2_setSolved_1 : decode cX2_setSolved 1 = .ok (.istore_n 2, 1) := by decide +kernel
theorem dX2_setSolved_2 : decode cX2_setSolved 2 = .ok (.iload_n 2, 1) := by decide +kernel
theorem dX2_setSolved_3 : decode cX2_setSolved 3 = .ok (.iload_n 1, 1) := by decide +kernel
theorem dX2_setSolved_4 : decode cX2_setSolved 4 = .ok (.if_icmp .ge 13, 3) := by decide +kernel
theorem dX2_setSolved_7 : decode cX2_setSolved 7 = .ok (.aload_n 0, 1) := by decide +kernel
theorem dX2_setSolved_8 : decode cX2_setSolved 8 = .ok (.iload_n 2, 1) := by decide +kernel
theorem dX2_setSolved_9 : decode cX2_setSolved 9 = .ok (.iload_n 2, 1) := by decide +kernel
theorem dX2_setSolved_10 : decode cX2_setSolved 10 = .ok (.iastore, 1) := by decide +kernel
theorem dX2_setSolved_11 : decode cX2_setSolved 11 = .ok (.iinc 2 1, 3) := by decide +kernel
theorem dX2_setSolved_14 : decode cX2_setSolved 14 = .ok (.goto (-12), 3) := by decide +kernel
theorem dX2_setSolved_17 : decode cX2_setSolved 17 = .ok (.return_, 1) := by decide +kernel
theorem dX2_sourceByKind_0 : decode cX2_sourceByKind 0 = .ok (.iload_n 0, 1) := by decide +kernel
theorem dX2_sourceByKind_1 : decode cX2_sourceByKind 1 = .ok (.ifCond .ne 9, 3) := by decide +kernel
theorem dX2_sourceByKind_4 : decode cX2_sourceByKind 4 = .ok (.iload_n 1, 1) := by decide +kernel
theorem dX2_sourceByKind_5 : decode cX2_sourceByKind 5 = .ok (.iload_n 2, 1) := by decide +kernel
theorem dX2_sourceByKind_6 : decode cX2_sourceByKind 6 = .ok (.iadd, 1) := by decide +kernel
theorem dX2_sourceByKind_7 : decode cX2_sourceByKind 7 = .ok (.iload_n 3, 1) := by decide +kernel
theorem dX2_sourceByKind_8 : decode cX2_sourceByKind 8 = .ok (.isub, 1) := by decide +kernel
theorem dX2_sourceByKind_9 : decode cX2_sourceByKind 9 = .ok (.ireturn, 1) := by decide +kernel
theorem dX2_sourceByKind_10 : decode cX2_sourceByKind 10 = .ok (.iload_n 0, 1) := by decide +kernel
theorem dX2_sourceByKind_11 : decode cX2_sourceByKind 11 = .ok (.iconst 1, 1) := by decide +kernel
theorem dX2_sourceByKind_12 : decode cX2_sourceByKind 12 = .ok (.if_icmp .ne 16, 3) := by decide +kernel
theorem dX2_sourceByKind_15 : decode cX2_sourceByKind 15 = .ok (.iload_n 3, 1) := by decide +kernel
theorem dX2_sourceByKind_16 : decode cX2_sourceByKind 16 = .ok (.iload_n 1, 1) := by decide +kernel
theorem dX2_sourceByKind_17 : decode cX2_sourceByKind 17 = .ok (.if_icmp .ne 7, 3) := by decide +kernel
theorem dX2_sourceByKind_20 : decode cX2_sourceByKind 20 = .ok (.iload_n 2, 1) := by decide +kernel
theorem dX2_sourceByKind_21 : decode cX2_sourceByKind 21 = .ok (.goto 6, 3) := by decide +kernel
theorem dX2_sourceByKind_24 : decode cX2_sourceByKind 24 = .ok (.iload_n 3, 1) := by decide +kernel
theorem dX2_sourceByKind_25 : decode cX2_sourceByKind 25 = .ok (.iconst 1, 1) := by decide +kernel
theorem dX2_sourceByKind_26 : decode cX2_sourceByKind 26 = .ok (.isub, 1) := by decide +kernel
theorem dX2_sourceByKind_27 : decode cX2_sourceByKind 27 = .ok (.ireturn, 1) := by decide +kernel
theorem dX2_sourceByKind_28 : decode cX2_sourceByKind 28 = .ok (.iload_n 3, 1) := by decide +kernel
theorem dX2_sourceByKind_29 : decode cX2_sourceByKind 29 = .ok (.iload_n 1, 1) := by decide +kernel
theorem dX2_sourceByKind_30 : decode cX2_sourceByKind 30 = .ok (.if_icmp .ne 5, 3) := by decide +kernel
theorem dX2_sourceByKind_33 : decode cX2_sourceByKind 33 = .ok (.iload_n 2, 1) := by decide +kernel
theorem dX2_sourceByKind_34 : decode cX2_sourceByKind 34 = .ok (.ireturn, 1) := by decide +kernel
theorem dX2_sourceByKind_35 : decode cX2_sourceByKind 35 = .ok (.iload_n 3, 1) := by decide +kernel
theorem dX2_sourceByKind_36 : decode cX2_sourceByKind 36 = .ok (.iload_n 2, 1) := by decide +kernel
theorem dX2_sourceByKind_37 : decode cX2_sourceByKind 37 = .ok (.if_icmp .ne 7, 3) := by decide +kernel
theorem dX2_sourceByKind_40 : decode cX2_sourceByKind 40 = .ok (.iload_n 1, 1) := by decide +kernel
theorem dX2_sourceByKind_41 : decode cX2_sourceByKind 41 = .ok (.goto 4, 3) := by decide +kernel
theorem dX2_sourceByKind_44 : decode cX2_sourceByKind 44 = .ok (.iload_n 3, 1) := by decide +kernel
theorem dX2_sourceByKind_45 : decode cX2_sourceByKind 45 = .ok (.ireturn, 1) := by decide +kernel
theorem dX2_setSource_0 : decode cX2_setSource 0 = .ok (.aload_n 0, 1) := by decide +kernel
theorem dX2_setSource_1 : decode cX2_setSource 1 = .ok (.getfield 21, 3) := by decide +kernel
theorem dX2_setSource_4 : decode cX2_setSource 4 = .ok (.iconst 2, 1) := by decide +kernel
theorem dX2_setSource_5 : decode cX2_setSource 5 = .ok (.aload_n 0, 1) := by decide +kernel
theorem dX2_setSource_6 : decode cX2_setSource 6 = .ok (.getfield 52, 3) := by decide +kernel
theorem dX2_setSource_9 : decode cX2_setSource 9 = .ok (.imul, 1) := by decide +kernel
theorem dX2_setSource_10 : decode cX2_setSource 10 = .ok (.aaload, 1) := by decide +kernel
theorem dX2_setSource_11 : decode cX2_setSource 11 = .ok (.iload_n 1, 1) := by decide +kernel
theorem dX2_setSource_12 : decode cX2_setSource 12 = .ok (.iload_n 2, 1) := by decide +kernel
theorem dX2_setSource_13 : decode cX2_setSource 13 = .ok (.iastore, 1) := by decide +kernel
theorem dX2_setSource_14 : decode cX2_setSource 14 = .ok (.aload_n 0, 1) := by decide +kernel
theorem dX2_setSource_15 : decode cX2_setSource 15 = .ok (.getfield 21, 3) := by decide +kernel
theorem dX2_setSource_18 : decode cX2_setSource 18 = .ok (.iconst 2, 1) := by decide +kernel
theorem dX2_setSource_19 : decode cX2_setSource 19 = .ok (.aload_n 0, 1) := by decide +kernel
theorem dX2_setSource_20 : decode cX2_setSource 20 = .ok (.getfield 52, 3) := by decide +kernel
theorem dX2_setSource_23 : decode cX2_setSource 23 = .ok (.imul, 1) := by decide +kernel
theorem dX2_setSource_24 : decode cX2_setSource 24 = .ok (.iconst 1, 1) := by decide +kernel
theorem dX2_setSource_25 : decode cX2_setSource 25 = .ok (.iadd, 1) := by decide +kernel
theorem dX2_setSource_26 : decode cX2_setSource 26 = .ok (.aaload, 1) := by decide +kernel
theorem dX2_setSource_27 : decode cX2_setSource 27 = .ok (.iload_n 2, 1) := by decide +kernel
theorem dX2_setSource_28 : decode cX2_setSource 28 = .ok (.iload_n 1, 1) := by decide +kernel
theorem dX2_setSource_29 : decode cX2_setSource 29 = .ok (.iastore, 1) := by decide +kernel
theorem dX2_setSource_30 : decode cX2_setSource 30 = .ok (.return_, 1) := by decide +kernel
set_option maxRecDepth 20000 in
theorem ggX2_finishTurn_X0_linkTurn : GoodIn wsX2_finishTurn wsX0_linkTurn := goodIn_r _ [9, 10, 11, 12, 13, 14, 15, 16, 17, 18, 19, 20, 21, 22, 23, 24, 25, 26, 27, 28, 29, 8, 30, 31, 32, 33, 34, 35, 36, 37, 38, 39, 40, 41, 52, 53, 54, 55, 56, 57, 58, 59, 60, 61, 62, 63, 64, 65] (by decide +kernel) (by decide +kernel)
set_option maxRecDepth 20000 in
theorem gX2_finishTurn_X0_linkTurn : GoodIn wsX2_finishTurn (wsV RX2 282 RX0 yX0_linkTurn wsX0_linkTurn) := goodIn_app (goodIn_of _ (by decide +kernel)) ggX2_finishTurn_X0_linkTurn
theorem dX2_finishTurn_0 : decode cX2_finishTurn 0 = .ok (.aload_n 0, 1) := by decide +kernel
theorem dX2_finishTurn_1 : decode cX2_finishTurn 1 = .ok (.getfield 37, 3) := by decide +kernel
theorem dX2_finishTurn_4 : decode cX2_finishTurn 4 = .ok (.aload_n 0, 1) := by decide +kernel
theorem dX2_finishTurn_5 : decode cX2_finishTurn 5 = .ok (.getfield 52, 3) := by decide +kernel
theorem dX2_finishTurn_8 : decode cX2_finishTurn 8 = .ok (.aload_n 0, 1) := by decide +kernel
theorem dX2_finishTurn_9 : decode cX2_finishTurn 9 = .ok (.getfield 21, 3) := by decide +kernel
theorem dX2_finishTurn_12 : decode cX2_finishTurn 12 = .ok (.iconst 2, 1) := by decide +kernel
theorem dX2_finishTurn_13 : decode cX2_finishTurn 13 = .ok (.aload_n 0, 1) := by decide +kernel
theorem dX2_finishTurn_14 : decode cX2_finishTurn 14 = .ok (.getfield 52, 3) := by decide +kernel
theorem dX2_finishTurn_17 : decode cX2_finishTurn 17 = .ok (.imul, 1) := by decide +kernel
theorem dX2_finishTurn_18 : decode cX2_finishTurn 18 = .ok (.iconst 1, 1) := by decide +kernel
theorem dX2_finishTurn_19 : decode cX2_finishTurn 19 = .ok (.iadd, 1) := by decide +kernel
theorem dX2_finishTurn_20 : decode cX2_finishTurn 20 = .ok (.aaload, 1) := by decide +kernel
theorem dX2_finishTurn_21 : decode cX2_finishTurn 21 = .ok (.invokevirtual 282, 3) := by decide +kernel
theorem dX2_finishTurn_24 : decode cX2_finishTurn 24 = .ok (.aload_n 0, 1) := by decide +kernel
theorem dX2_finishTurn_25 : decode cX2_finishTurn 25 = .ok (.dup, 1) := by decide +kernel
theorem dX2_finishTurn_26 : decode cX2_finishTurn 26 = .ok (.getfield 55, 3) := by decide +kernel
theorem dX2_finishTurn_29 : decode cX2_finishTurn 29 = .ok (.iconst 3, 1) := by decide +kernel
theorem dX2_finishTurn_30 : decode cX2_finishTurn 30 = .ok (.iconst 2, 1) := by decide +kernel
theorem dX2_finishTurn_31 : decode cX2_finishTurn 31 = .ok (.aload_n 0, 1) := by decide +kernel
theorem dX2_finishTurn_32 : decode cX2_finishTurn 32 = .ok (.getfield 52, 3) := by decide +kernel
theorem dX2_finishTurn_35 : decode cX2_finishTurn 35 = .ok (.imul, 1) := by decide +kernel
theorem dX2_finishTurn_36 : decode cX2_finishTurn 36 = .ok (.ishl, 1) := by decide +kernel
theorem dX2_finishTurn_37 : decode cX2_finishTurn 37 = .ok (.ior, 1) := by decide +kernel
theorem dX2_finishTurn_38 : decode cX2_finishTurn 38 = .ok (.putfield 55, 3) := by decide +kernel
theorem dX2_finishTurn_41 : decode cX2_finishTurn 41 = .ok (.aload_n 0, 1) := by decide +kernel
theorem dX2_finishTurn_42 : decode cX2_finishTurn 42 = .ok (.dup, 1) := by decide +kernel
theorem dX2_finishTurn_43 : decode cX2_finishTurn 43 = .ok (.getfield 52, 3) := by decide +kernel
theorem dX2_finishTurn_46 : decode cX2_finishTurn 46 = .ok (.iconst 1, 1) := by decide +kernel
theorem dX2_finishTurn_47 : decode cX2_finishTurn 47 = .ok (.iadd, 1) := by decide +kernel
theorem dX2_finishTurn_48 : decode cX2_finishTurn 48 = .ok (.putfield 52, 3) := by decide +kernel
theorem dX2_finishTurn_51 : decode cX2_finishTurn 51 = .ok (.return_, 1) := by decide +kernel
theorem dX2_carryOut_0 : decode cX2_carryOut 0 = .ok (.iconst 0, 1) := by decide +kernel
theorem dX2_carryOut_1 : decode cX2_carryOut 1 = .ok (.istore_n 3, 1) := by decide +kernel
theorem dX2_carryOut_2 : decode cX2_carryOut 2 = .ok (.iload_n 3, 1) := by decide +kernel
theorem dX2_carryOut_3 : decode cX2_carryOut 3 = .ok (.aload_n 0, 1) := by decide +kernel
theorem dX2_carryOut_4 : decode cX2_carryOut 4 = .ok (.getfield 28, 3) := by decide +kernel
theorem dX2_carryOut_7 : decode cX2_carryOut 7 = .ok (.if_icmp .ge 18, 3) := by decide +kernel
theorem dX2_carryOut_10 : decode cX2_carryOut 10 = .ok (.aload_n 0, 1) := by decide +kernel
theorem dX2_carryOut_11 : decode cX2_carryOut 11 = .ok (.getfield 13, 3) := by decide +kernel
theorem dX2_carryOut_14 : decode cX2_carryOut 14 = .ok (.iload_n 3, 1) := by decide +kernel
theorem dX2_carryOut_15 : decode cX2_carryOut 15 = .ok (.aload_n 2, 1) := by decide +kernel
theorem dX2_carryOut_16 : decode cX2_carryOut 16 = .ok (.iload_n 3, 1) := by decide +kernel
theorem dX2_carryOut_17 : decode cX2_carryOut 17 = .ok (.iaload, 1) := by decide +kernel
theorem dX2_carryOut_18 : decode cX2_carryOut 18 = .ok (.iastore, 1) := by decide +kernel
theorem dX2_carryOut_19 : decode cX2_carryOut 19 = .ok (.iinc 3 1, 3) := by decide +kernel
theorem dX2_carryOut_22 : decode cX2_carryOut 22 = .ok (.goto (-20), 3) := by decide +kernel
theorem dX2_carryOut_25 : decode cX2_carryOut 25 = .ok (.iconst 0, 1) := by decide +kernel
theorem dX2_carryOut_26 : decode cX2_carryOut 26 = .ok (.istore_n 3, 1) := by decide +kernel
theorem dX2_carryOut_27 : decode cX2_carryOut 27 = .ok (.iload_n 3, 1) := by decide +kernel
theorem dX2_carryOut_28 : decode cX2_carryOut 28 = .ok (.aload_n 0, 1) := by decide +kernel
theorem dX2_carryOut_29 : decode cX2_carryOut 29 = .ok (.getfield 28, 3) := by decide +kernel
theorem dX2_carryOut_32 : decode cX2_carryOut 32 = .ok (.if_icmp .ge 25, 3) := by decide +kernel
theorem dX2_carryOut_35 : decode cX2_carryOut 35 = .ok (.aload_n 2, 1) := by decide +kernel
theorem dX2_carryOut_36 : decode cX2_carryOut 36 = .ok (.iload_n 3, 1) := by decide +kernel
theorem dX2_carryOut_37 : decode cX2_carryOut 37 = .ok (.aload_n 0, 1) := by decide +kernel
theorem dX2_carryOut_38 : decode cX2_carryOut 38 = .ok (.getfield 13, 3) := by decide +kernel
theorem dX2_carryOut_41 : decode cX2_carryOut 41 = .ok (.aload_n 0, 1) := by decide +kernel
theorem dX2_carryOut_42 : decode cX2_carryOut 42 = .ok (.getfield 21, 3) := by decide +kernel
theorem dX2_carryOut_45 : decode cX2_carryOut 45 = .ok (.iload_n 1, 1) := by decide +kernel
theorem dX2_carryOut_46 : decode cX2_carryOut 46 = .ok (.aaload, 1) := by decide +kernel
theorem dX2_carryOut_47 : decode cX2_carryOut 47 = .ok (.iload_n 3, 1) := by decide +kernel
theorem dX2_carryOut_48 : decode cX2_carryOut 48 = .ok (.iaload, 1) := by decide +kernel
theorem dX2_carryOut_49 : decode cX2_carryOut 49 = .ok (.iaload, 1) := by decide +kernel
theorem dX2_carryOut_50 : decode cX2_carryOut 50 = .ok (.iastore, 1) := by decide +kernel
theorem dX2_carryOut_51 : decode cX2_carryOut 51 = .ok (.iinc 3 1, 3) := by decide +kernel
theorem dX2_carryOut_54 : decode cX2_carryOut 54 = .ok (.goto (-27), 3) := by decide +kernel
theorem dX2_carryOut_57 : decode cX2_carryOut 57 = .ok (.return_, 1) := by decide +kernel
set_option maxRecDepth 20000 in
theorem ggX2_carryOutInput_X2_moveOfLetter : GoodIn wsX2_carryOutInput wsX2_moveOfLetter := goodIn_r _ [7, 8, 16, 17, 18, 19, 20, 21, 22, 23, 24, 25] (by decide +kernel) (by decide +kernel)
set_option maxRecDepth 20000 in
theorem gX2_carryOutInput_X2_moveOfLetter : GoodIn wsX2_carryOutInput (wsV RX2 140 RX2 yX2_moveOfLetter wsX2_moveOfLetter) := goodIn_app (goodIn_of _ (by decide +kernel)) ggX2_carryOutInput_X2_moveOfLetter
set_option maxRecDepth 20000 in
theorem ggX2_carryOutInput_X2_carryOut : GoodIn wsX2_carryOutInput wsX2_carryOut := goodIn_r _ [12, 13, 14, 15, 16, 17, 18, 19, 20, 21, 22, 23, 24, 25] (by decide +kernel) (by decide +kernel)
set_option maxRecDepth 20000 in
theorem gX2_carryOutInput_X2_carryOut : GoodIn wsX2_carryOutInput (wsV RX2 108 RX2 yX2_carryOut wsX2_carryOut) := goodIn_app (goodIn_of _ (by decide +kernel)) ggX2_carryOutInput_X2_carryOut
theorem dX2_carryOutInput_0 : decode cX2_carryOutInput 0 = .ok (.iconst 0, 1) := by decide +kernel
theorem dX2_carryOutInput_1 : decode cX2_carryOutInput 1 = .ok (.istore_n 2, 1) := by decide +kernel
theorem dX2_carryOutInput_2 : decode cX2_carryOutInput 2 = .ok (.iload_n 2, 1) := by decide +kernel
theorem dX2_carryOutInput_3 : decode cX2_carryOutInput 3 = .ok (.aload_n 0, 1) := by decide +kernel
theorem dX2_carryOutInput_4 : decode cX2_carryOutInput 4 = .ok (.getfield 118, 3) := by decide +kernel
theorem dX2_carryOutInput_7 : decode cX2_carryOutInput 7 = .ok (.if_icmp .ge 31, 3) := by decide +kernel
theorem dX2_carryOutInput_10 : decode cX2_carryOutInput 10 = .ok (.aload_n 0, 1) := by decide +kernel
theorem dX2_carryOutInput_11 : decode cX2_carryOutInput 11 = .ok (.aload_n 0, 1) := by decide +kernel
theorem dX2_carryOutInput_12 : decode cX2_carryOutInput 12 = .ok (.getfield 24, 3) := by decide +kernel
theorem dX2_carryOutInput_15 : decode cX2_carryOutInput 15 = .ok (.iload_n 2, 1) := by decide +kernel
theorem dX2_carryOutInput_16 : decode cX2_carryOutInput 16 = .ok (.caload, 1) := by decide +kernel
theorem dX2_carryOutInput_17 : decode cX2_carryOutInput 17 = .ok (.invokevirtual 140, 3) := by decide +kernel
theorem dX2_carryOutInput_20 : decode cX2_carryOutInput 20 = .ok (.istore_n 3, 1) := by decide +kernel
theorem dX2_carryOutInput_21 : decode cX2_carryOutInput 21 = .ok (.iload_n 3, 1) := by decide +kernel
theorem dX2_carryOutInput_22 : decode cX2_carryOutInput 22 = .ok (.iconst (-1), 1) := by decide +kernel
theorem dX2_carryOutInput_23 : decode cX2_carryOutInput 23 = .ok (.if_icmp .eq 9, 3) := by decide +kernel
theorem dX2_carryOutInput_26 : decode cX2_carryOutInput 26 = .ok (.aload_n 0, 1) := by decide +kernel
theorem dX2_carryOutInput_27 : decode cX2_carryOutInput 27 = .ok (.iload_n 3, 1) := by decide +kernel
theorem dX2_carryOutInput_28 : decode cX2_carryOutInput 28 = .ok (.aload_n 1, 1) := by decide +kernel
theorem dX2_carryOutInput_29 : decode cX2_carryOutInput 29 = .ok (.invokevirtual 108, 3) := by decide +kernel
theorem dX2_carryOutInput_32 : decode cX2_carryOutInput 32 = .ok (.iinc 2 1, 3) := by decide +kernel
theorem dX2_carryOutInput_35 : decode cX2_carryOutInput 35 = .ok (.goto (-33), 3) := by decide +kernel
theorem dX2_carryOutInput_38 : decode cX2_carryOutInput 38 = .ok (.return_, 1) := by decide +kernel
theorem dX2_fixedPlaces_0 : decode cX2_fixedPlaces 0 = .ok (.iconst 0, 1) := by decide +kernel
theorem dX2_fixedPlaces_1 : decode cX2_fixedPlaces 1 = .ok (.istore_n 2, 1) := by decide +kernel
theorem dX2_fixedPlaces_2 : decode cX2_fixedPlaces 2 = .ok (.iconst 0, 1) := by decide +kernel
theorem dX2_fixedPlaces_3 : decode cX2_fixedPlaces 3 = .ok (.istore_n 3, 1) := by decide +kernel
theorem dX2_fixedPlaces_4 : decode cX2_fixedPlaces 4 = .ok (.iload_n 3, 1) := by decide +kernel
theorem dX2_fixedPlaces_5 : decode cX2_fixedPlaces 5 = .ok (.aload_n 0, 1) := by decide +kernel
theorem dX2_fixedPlaces_6 : decode cX2_fixedPlaces 6 = .ok (.getfield 28, 3) := by decide +kernel
theorem dX2_fixedPlaces_9 : decode cX2_fixedPlaces 9 = .ok (.if_icmp .ge 19, 3) := by decide +kernel
theorem dX2_fixedPlaces_12 : decode cX2_fixedPlaces 12 = .ok (.aload_n 1, 1) := by decide +kernel
theorem dX2_fixedPlaces_13 : decode cX2_fixedPlaces 13 = .ok (.iload_n 3, 1) := by decide +kernel
theorem dX2_fixedPlaces_14 : decode cX2_fixedPlaces 14 = .ok (.iaload, 1) := by decide +kernel
theorem dX2_fixedPlaces_15 : decode cX2_fixedPlaces 15 = .ok (.iload_n 3, 1) := by decide +kernel
theorem dX2_fixedPlaces_16 : decode cX2_fixedPlaces 16 = .ok (.if_icmp .ne 6, 3) := by decide +kernel
theorem dX2_fixedPlaces_19 : decode cX2_fixedPlaces 19 = .ok (.iinc 2 1, 3) := by decide +kernel
theorem dX2_fixedPlaces_22 : decode cX2_fixedPlaces 22 = .ok (.iinc 3 1, 3) := by decide +kernel
theorem dX2_fixedPlaces_25 : decode cX2_fixedPlaces 25 = .ok (.goto (-21), 3) := by decide +kernel
theorem dX2_fixedPlaces_28 : decode cX2_fixedPlaces 28 = .ok (.iload_n 2, 1) := by decide +kernel
theorem dX2_fixedPlaces_29 : decode cX2_fixedPlaces 29 = .ok (.ireturn, 1) := by decide +kernel
theorem dX2_isEven_0 : decode cX2_isEven 0 = .ok (.iconst 1, 1) := by decide +kernel
theorem dX2_isEven_1 : decode cX2_isEven 1 = .ok (.istore_n 2, 1) := by decide +kernel
theorem dX2_isEven_2 : decode cX2_isEven 2 = .ok (.iconst 1, 1) := by decide +kernel
theorem dX2_isEven_3 : decode cX2_isEven 3 = .ok (.istore_n 3, 1) := by decide +kernel
theorem dX2_isEven_4 : decode cX2_isEven 4 = .ok (.iload_n 3, 1) := by decide +kernel
theorem dX2_isEven_5 : decode cX2_isEven 5 = .ok (.aload_n 0, 1) := by decide +kernel
theorem dX2_isEven_6 : decode cX2_isEven 6 = .ok (.getfield 28, 3) := by decide +kernel
theorem dX2_isEven_9 : decode cX2_isEven 9 = .ok (.if_icmp .ge 44, 3) := by decide +kernel
theorem dX2_isEven_12 : decode cX2_isEven 12 = .ok (.iconst 0, 1) := by decide +kernel
theorem dX2_isEven_13 : decode cX2_isEven 13 = .ok (.istore 4, 2) := by decide +kernel
theorem dX2_isEven_15 : decode cX2_isEven 15 = .ok (.iload 4, 2) := by decide +kernel
theorem dX2_isEven_17 : decode cX2_isEven 17 = .ok (.iload_n 3, 1) := by decide +kernel
theorem dX2_isEven_18 : decode cX2_isEven 18 = .ok (.if_icmp .ge 29, 3) := by decide +kernel
theorem dX2_isEven_21 : decode cX2_isEven 21 = .ok (.aload_n 1, 1) := by decide +kernel
theorem dX2_isEven_22 : decode cX2_isEven 22 = .ok (.iload 4, 2) := by decide +kernel
theorem dX2_isEven_24 : decode cX2_isEven 24 = .ok (.iaload, 1) := by decide +kernel
theorem dX2_isEven_25 : decode cX2_isEven 25 = .ok (.aload_n 1, 1) := by decide +kernel
theorem dX2_isEven_26 : decode cX2_isEven 26 = .ok (.iload_n 3, 1) := by decide +kernel
theorem dX2_isEven_27 : decode cX2_isEven 27 = .ok (.iaload, 1) := by decide +kernel
theorem dX2_isEven_28 : decode cX2_isEven 28 = .ok (.if_icmp .le 13, 3) := by decide +kernel
theorem dX2_isEven_31 : decode cX2_isEven 31 = .ok (.iload_n 2, 1) := by decide +kernel
theorem dX2_isEven_32 : decode cX2_isEven 32 = .ok (.ifCond .ne 7, 3) := by decide +kernel
theorem dX2_isEven_35 : decode cX2_isEven 35 = .ok (.iconst 1, 1) := by decide +kernel
theorem dX2_isEven_36 : decode cX2_isEven 36 = .ok (.goto 4, 3) := by decide +kernel
theorem dX2_isEven_39 : decode cX2_isEven 39 = .ok (.iconst 0, 1) := by decide +kernel
theorem dX2_isEven_40 : decode cX2_isEven 40 = .ok (.istore_n 2, 1) := by decide +kernel
theorem dX2_isEven_41 : decode cX2_isEven 41 = .ok (.iinc 4 1, 3) := by decide +kernel
theorem dX2_isEven_44 : decode cX2_isEven 44 = .ok (.goto (-29), 3) := by decide +kernel
theorem dX2_isEven_47 : decode cX2_isEven 47 = .ok (.iinc 3 1, 3) := by decide +kernel
theorem dX2_isEven_50 : decode cX2_isEven 50 = .ok (.goto (-46), 3) := by decide +kernel
theorem dX2_isEven_53 : decode cX2_isEven 53 = .ok (.iload_n 2, 1) := by decide +kernel
theorem dX2_isEven_54 : decode cX2_isEven 54 = .ok (.ireturn, 1) := by decide +kernel
theorem dX2_moveOfLetter_0 : decode cX2_moveOfLetter 0 = .ok (.iload_n 1, 1) := by decide +kernel
theorem dX2_moveOfLetter_1 : decode cX2_moveOfLetter 1 = .ok (.bipush 97, 2) := by decide +kernel
theorem dX2_moveOfLetter_3 : decode cX2_moveOfLetter 3 = .ok (.isub, 1) := by decide +kernel
theorem dX2_moveOfLetter_4 : decode cX2_moveOfLetter 4 = .ok (.istore_n 2, 1) := by decide +kernel
theorem dX2_moveOfLetter_5 : decode cX2_moveOfLetter 5 = .ok (.iload_n 2, 1) := by decide +kernel
theorem dX2_moveOfLetter_6 : decode cX2_moveOfLetter 6 = .ok (.ifCond .lt 15, 3) := by decide +kernel
theorem dX2_moveOfLetter_9 : decode cX2_moveOfLetter 9 = .ok (.iload_n 2, 1) := by decide +kernel
theorem dX2_moveOfLetter_10 : decode cX2_moveOfLetter 10 = .ok (.aload_n 0, 1) := by decide +kernel
theorem dX2_moveOfLetter_11 : decode cX2_moveOfLetter 11 = .ok (.getfield 52, 3) := by decide +kernel
theorem dX2_moveOfLetter_14 : decode cX2_moveOfLetter 14 = .ok (.if_icmp .ge 7, 3) := by decide +kernel
theorem dX2_moveOfLetter_17 : decode cX2_moveOfLetter 17 = .ok (.iconst 2, 1) := by decide +kernel
theorem dX2_moveOfLetter_18 : decode cX2_moveOfLetter 18 = .ok (.iload_n 2, 1) := by decide +kernel
theorem dX2_moveOfLetter_19 : decode cX2_moveOfLetter 19 = .ok (.imul, 1) := by decide +kernel
theorem dX2_moveOfLetter_20 : decode cX2_moveOfLetter 20 = .ok (.ireturn, 1) := by decide +kernel
theorem dX2_moveOfLetter_21 : decode cX2_moveOfLetter 21 = .ok (.iload_n 1, 1) := by decide +kernel
theorem dX2_moveOfLetter_22 : decode cX2_moveOfLetter 22 = .ok (.bipush 65, 2) := by decide +kernel
theorem dX2_moveOfLetter_24 : decode cX2_moveOfLetter 24 = .ok (.isub, 1) := by decide +kernel
theorem dX2_moveOfLetter_25 : decode cX2_moveOfLetter 25 = .ok (.istore_n 3, 1) := by decide +kernel
theorem dX2_moveOfLetter_26 : decode cX2_moveOfLetter 26 = .ok (.iload_n 3, 1) := by decide +kernel
theorem dX2_moveOfLetter_27 : decode cX2_moveOfLetter 27 = .ok (.ifCond .lt 19, 3) := by decide +kernel
theorem dX2_moveOfLetter_30 : decode cX2_moveOfLetter 30 = .ok (.iload_n 3, 1) := by decide +kernel
theorem dX2_moveOfLetter_31 : decode cX2_moveOfLetter 31 = .ok (.aload_n 0, 1) := by decide +kernel
theorem dX2_moveOfLetter_32 : decode cX2_moveOfLetter 32 = .ok (.getfield 52, 3) := by decide +kernel
theorem dX2_moveOfLetter_35 : decode cX2_moveOfLetter 35 = .ok (.if_icmp .ge 11, 3) := by decide +kernel
theorem dX2_moveOfLetter_38 : decode cX2_moveOfLetter 38 = .ok (.iconst 2, 1) := by decide +kernel
theorem dX2_moveOfLetter_39 : decode cX2_moveOfLetter 39 = .ok (.iload_n 3, 1) := by decide +kernel
theorem dX2_moveOfLetter_40 : decode cX2_moveOfLetter 40 = .ok (.imul, 1) := by decide +kernel
theorem dX2_moveOfLetter_41 : decode cX2_moveOfLetter 41 = .ok (.iconst 1, 1) := by decide +kernel
theorem dX2_moveOfLetter_42 : decode cX2_moveOfLetter 42 = .ok (.iadd, 1) := by decide +kernel
theorem dX2_moveOfLetter_43 : decode cX2_moveOfLetter 43 = .ok (.goto 4, 3) := by decide +kernel
theorem dX2_moveOfLetter_46 : decode cX2_moveOfLetter 46 = .ok (.iconst (-1), 1) := by decide +kernel
theorem dX2_moveOfLetter_47 : decode cX2_moveOfLetter 47 = .ok (.ireturn, 1) := by decide +kernel
set_option maxRecDepth 20000 in
theorem ggX2_firstWordError_X2_moveOfLetter : GoodIn wsX2_firstWordError wsX2_moveOfLetter := goodIn_r _ [7, 8, 9, 10, 11, 12, 13, 14, 15, 16, 17, 18] (by decide +kernel) (by decide +kernel)
set_option maxRecDepth 20000 in
theorem gX2_firstWordError_X2_moveOfLetter : GoodIn wsX2_firstWordError (wsV RX2 140 RX2 yX2_moveOfLetter wsX2_moveOfLetter) := goodIn_app (goodIn_of _ (by decide +kernel)) ggX2_firstWordError_X2_moveOfLetter
theorem dX2_firstWordError_0 : decode cX2_firstWordError 0 = .ok (.iconst 0, 1) := by decide +kernel
theorem dX2_firstWordError_1 : decode cX2_firstWordError 1 = .ok (.istore_n 1, 1) := by decide +kernel
theorem dX2_firstWordError_2 : decode cX2_firstWordError 2 = .ok (.iload_n 1, 1) := by decide +kernel
theorem dX2_firstWordError_3 : decode cX2_firstWordError 3 = .ok (.aload_n 0, 1) := by decide +kernel
theorem dX2_firstWordError_4 : decode cX2_firstWordError 4 = .ok (.getfield 118, 3) := by decide +kernel
theorem dX2_firstWordError_7 : decode cX2_firstWordError 7 = .ok (.if_icmp .ge 25, 3) := by decide +kernel
theorem dX2_firstWordError_10 : decode cX2_firstWordError 10 = .ok (.aload_n 0, 1) := by decide +kernel
theorem dX2_firstWordError_11 : decode cX2_firstWordError 11 = .ok (.aload_n 0, 1) := by decide +kernel
theorem dX2_firstWordError_12 : decode cX2_firstWordError 12 = .ok (.getfield 24, 3) := by decide +kernel
theorem dX2_firstWordError_15 : decode cX2_firstWordError 15 = .ok (.iload_n 1, 1) := by decide +kernel
theorem dX2_firstWordError_16 : decode cX2_firstWordError 16 = .ok (.caload, 1) := by decide +kernel
theorem dX2_firstWordError_17 : decode cX2_firstWordError 17 = .ok (.invokevirtual 140, 3) := by decide +kernel
theorem dX2_firstWordError_20 : decode cX2_firstWordError 20 = .ok (.iconst (-1), 1) := by decide +kernel
theorem dX2_firstWordError_21 : decode cX2_firstWordError 21 = .ok (.if_icmp .ne 5, 3) := by decide +kernel
theorem dX2_firstWordError_24 : decode cX2_firstWordError 24 = .ok (.iload_n 1, 1) := by decide +kernel
theorem dX2_firstWordError_25 : decode cX2_firstWordError 25 = .ok (.ireturn, 1) := by decide +kernel
theorem dX2_firstWordError_26 : decode cX2_firstWordError 26 = .ok (.iinc 1 1, 3) := by decide +kernel
theorem dX2_firstWordError_29 : decode cX2_firstWordError 29 = .ok (.goto (-27), 3) := by decide +kernel
theorem dX2_firstWordError_32 : decode cX2_firstWordError 32 = .ok (.aload_n 0, 1) := by decide +kernel
theorem dX2_firstWordError_33 : decode cX2_firstWordError 33 = .ok (.getfield 118, 3) := by decide +kernel
theorem dX2_firstWordError_36 : decode cX2_firstWordError 36 = .ok (.ireturn, 1) := by decide +kernel
set_option maxRecDepth 20000 in
theorem ggX2_isWord_X2_firstWordError : GoodIn wsX2_isWord wsX2_firstWordError := goodIn_r _ [6, 1, 7, 8, 9, 10, 5, 11, 12, 13, 14, 15, 16, 17, 18, 19, 20, 21, 22] (by decide +kernel) (by decide +kernel)
set_option maxRecDepth 20000 in
theorem gX2_isWord_X2_firstWordError : GoodIn wsX2_isWord (wsV RX2 123 RX2 yX2_firstWordError wsX2_firstWordError) := goodIn_app (goodIn_of _ (by decide +kernel)) ggX2_isWord_X2_firstWordError
theorem dX2_isWord_0 : decode cX2_isWord 0 = .ok (.aload_n 0, 1) := by decide +kernel
theorem dX2_isWord_1 : decode cX2_isWord 1 = .ok (.getfield 118, 3) := by decide +kernel
theorem dX2_isWord_4 : decode cX2_isWord 4 = .ok (.ifCond .le 18, 3) := by decide +kernel
theorem dX2_isWord_7 : decode cX2_isWord 7 = .ok (.aload_n 0, 1) := by decide +kernel
theorem dX2_isWord_8 : decode cX2_isWord 8 = .ok (.invokevirtual 123, 3) := by decide +kernel
theorem dX2_isWord_11 : decode cX2_isWord 11 = .ok (.aload_n 0, 1) := by decide +kernel
theorem dX2_isWord_12 : decode cX2_isWord 12 = .ok (.getfield 118, 3) := by decide +kernel
theorem dX2_isWord_15 : decode cX2_isWord 15 = .ok (.if_icmp .ne 7, 3) := by decide +kernel
theorem dX2_isWord_18 : decode cX2_isWord 18 = .ok (.iconst 1, 1) := by decide +kernel
theorem dX2_isWord_19 : decode cX2_isWord 19 = .ok (.goto 4, 3) := by decide +kernel
theorem dX2_isWord_22 : decode cX2_isWord 22 = .ok (.iconst 0, 1) := by decide +kernel
theorem dX2_isWord_23 : decode cX2_isWord 23 = .ok (.ireturn, 1) := by decide +kernel
set_option maxRecDepth 20000 in
theorem ggX2_firstTurnError_X2_isPlace : GoodIn wsX2_firstTurnError wsX2_isPlace := goodIn_r _ [9, 3, 10, 11, 12, 13, 14, 15, 16, 17, 18, 19] (by decide +kernel) (by decide +kernel)
set_option maxRecDepth 20000 in
theorem gX2_firstTurnError_X2_isPlace : GoodIn wsX2_firstTurnError (wsV RX2 67 RX2 yX2_isPlace wsX2_isPlace) := goodIn_app (goodIn_of _ (by decide +kernel)) ggX2_firstTurnError_X2_isPlace
theorem dX2_firstTurnError_0 : decode cX2_firstTurnError 0 = .ok (.aload_n 0, 1) := by decide +kernel
theorem dX2_firstTurnError_1 : decode cX2_firstTurnError 1 = .ok (.getfield 52, 3) := by decide +kernel
theorem dX2_firstTurnError_4 : decode cX2_firstTurnError 4 = .ok (.istore_n 1, 1) := by decide +kernel
theorem dX2_firstTurnError_5 : decode cX2_firstTurnError 5 = .ok (.iconst 0, 1) := by decide +kernel
theorem dX2_firstTurnError_6 : decode cX2_firstTurnError 6 = .ok (.istore_n 2, 1) := by decide +kernel
theorem dX2_firstTurnError_7 : decode cX2_firstTurnError 7 = .ok (.iconst 0, 1) := by decide +kernel
theorem dX2_firstTurnError_8 : decode cX2_firstTurnError 8 = .ok (.istore_n 3, 1) := by decide +kernel
theorem dX2_firstTurnError_9 : decode cX2_firstTurnError 9 = .ok (.iconst 0, 1) := by decide +kernel
theorem dX2_firstTurnError_10 : decode cX2_firstTurnError 10 = .ok (.istore 4, 2) := by decide +kernel
theorem dX2_firstTurnError_12 : decode cX2_firstTurnError 12 = .ok (.iload 4, 2) := by decide +kernel
theorem dX2_firstTurnError_14 : decode cX2_firstTurnError 14 = .ok (.aload_n 0, 1) := by decide +kernel
theorem dX2_firstTurnError_15 : decode cX2_firstTurnError 15 = .ok (.getfield 118, 3) := by decide +kernel
theorem dX2_firstTurnError_18 : decode cX2_firstTurnError 18 = .ok (.if_icmp .ge 105, 3) := by decide +kernel
theorem dX2_firstTurnError_21 : decode cX2_firstTurnError 21 = .ok (.iload_n 2, 1) := by decide +kernel
theorem dX2_firstTurnError_22 : decode cX2_firstTurnError 22 = .ok (.aload_n 0, 1) := by decide +kernel
theorem dX2_firstTurnError_23 : decode cX2_firstTurnError 23 = .ok (.getfield 28, 3) := by decide +kernel
theorem dX2_firstTurnError_26 : decode cX2_firstTurnError 26 = .ok (.if_icmp .ne 31, 3) := by decide +kernel
theorem dX2_firstTurnError_29 : decode cX2_firstTurnError 29 = .ok (.aload_n 0, 1) := by decide +kernel
theorem dX2_firstTurnError_30 : decode cX2_firstTurnError 30 = .ok (.getfield 24, 3) := by decide +kernel
theorem dX2_firstTurnError_33 : decode cX2_firstTurnError 33 = .ok (.iload 4, 2) := by decide +kernel
theorem dX2_firstTurnError_35 : decode cX2_firstTurnError 35 = .ok (.caload, 1) := by decide +kernel
theorem dX2_firstTurnError_36 : decode cX2_firstTurnError 36 = .ok (.bipush 59, 2) := by decide +kernel
theorem dX2_firstTurnError_38 : decode cX2_firstTurnError 38 = .ok (.if_icmp .ne 9, 3) := by decide +kernel
theorem dX2_firstTurnError_41 : decode cX2_firstTurnError 41 = .ok (.iload_n 1, 1) := by decide +kernel
theorem dX2_firstTurnError_42 : decode cX2_firstTurnError 42 = .ok (.bipush 6, 2) := by decide +kernel
theorem dX2_firstTurnError_44 : decode cX2_firstTurnError 44 = .ok (.if_icmp .ne 6, 3) := by decide +kernel
theorem dX2_firstTurnError_47 : decode cX2_firstTurnError 47 = .ok (.iload 4, 2) := by decide +kernel
theorem dX2_firstTurnError_49 : decode cX2_firstTurnError 49 = .ok (.ireturn, 1) := by decide +kernel
theorem dX2_firstTurnError_50 : decode cX2_firstTurnError 50 = .ok (.iconst 0, 1) := by decide +kernel
theorem dX2_firstTurnError_51 : decode cX2_firstTurnError 51 = .ok (.istore_n 2, 1) := by decide +kernel
theorem dX2_firstTurnError_52 : decode cX2_firstTurnError 52 = .ok (.iconst 0, 1) := by decide +kernel
theorem dX2_firstTurnError_53 : decode cX2_firstTurnError 53 = .ok (.istore_n 3, 1) := by decide +kernel
theorem dX2_firstTurnError_54 : decode cX2_firstTurnError 54 = .ok (.goto 63, 3) := by decide +kernel
theorem dX2_firstTurnError_57 : decode cX2_firstTurnError 57 = .ok (.aload_n 0, 1) := by decide +kernel
theorem dX2_firstTurnError_58 : decode cX2_firstTurnError 58 = .ok (.getfield 24, 3) := by decide +kernel
theorem dX2_firstTurnError_61 : decode cX2_firstTurnError 61 = .ok (.iload 4, 2) := by decide +kernel
theorem dX2_firstTurnError_63 : decode cX2_firstTurnError 63 = .ok (.caload, 1) := by decide +kernel
theorem dX2_firstTurnError_64 : decode cX2_firstTurnError 64 = .ok (.bipush 48, 2) := by decide +kernel
theorem dX2_firstTurnError_66 : decode cX2_firstTurnError 66 = .ok (.isub, 1) := by decide +kernel
theorem dX2_firstTurnError_67 : decode cX2_firstTurnError 67 = .ok (.istore 5, 2) := by decide +kernel
theorem dX2_firstTurnError_69 : decode cX2_firstTurnError 69 = .ok (.aload_n 0, 1) := by decide +kernel
theorem dX2_firstTurnError_70 : decode cX2_firstTurnError 70 = .ok (.iload 5, 2) := by decide +kernel
theorem dX2_firstTurnError_72 : decode cX2_firstTurnError 72 = .ok (.invokevirtual 67, 3) := by decide +kernel
theorem dX2_firstTurnError_75 : decode cX2_firstTurnError 75 = .ok (.ifCond .eq 18, 3) := by decide +kernel
theorem dX2_firstTurnError_78 : decode cX2_firstTurnError 78 = .ok (.iload_n 1, 1) := by decide +kernel
theorem dX2_firstTurnError_79 : decode cX2_firstTurnError 79 = .ok (.bipush 6, 2) := by decide +kernel
theorem dX2_firstTurnError_81 : decode cX2_firstTurnError 81 = .ok (.if_icmp .eq 12, 3) := by decide +kernel
theorem dX2_firstTurnError_84 : decode cX2_firstTurnError 84 = .ok (.iload_n 3, 1) := by decide +kernel
theorem dX2_firstTurnError_85 : decode cX2_firstTurnError 85 = .ok (.iconst 1, 1) := by decide +kernel
theorem dX2_firstTurnError_86 : decode cX2_firstTurnError 86 = .ok (.iload 5, 2) := by decide +kernel
theorem dX2_firstTurnError_88 : decode cX2_firstTurnError 88 = .ok (.ishl, 1) := by decide +kernel
theorem dX2_firstTurnError_89 : decode cX2_firstTurnError 89 = .ok (.iand, 1) := by decide +kernel
theorem dX2_firstTurnError_90 : decode cX2_firstTurnError 90 = .ok (.ifCond .eq 6, 3) := by decide +kernel
theorem dX2_firstTurnError_93 : decode cX2_firstTurnError 93 = .ok (.iload 4, 2) := by decide +kernel
theorem dX2_firstTurnError_95 : decode cX2_firstTurnError 95 = .ok (.ireturn, 1) := by decide +kernel
theorem dX2_firstTurnError_96 : decode cX2_firstTurnError 96 = .ok (.iload_n 3, 1) := by decide +kernel
theorem dX2_firstTurnError_97 : decode cX2_firstTurnError 97 = .ok (.iconst 1, 1) := by decide +kernel
theorem dX2_firstTurnError_98 : decode cX2_firstTurnError 98 = .ok (.iload 5, 2) := by decide +kernel
theorem dX2_firstTurnError_100 : decode cX2_firstTurnError 100 = .ok (.ishl, 1) := by decide +kernel
theorem dX2_firstTurnError_101 : decode cX2_firstTurnError 101 = .ok (.ior, 1) := by decide +kernel
theorem dX2_firstTurnError_102 : decode cX2_firstTurnError 102 = .ok (.istore_n 3, 1) := by decide +kernel
theorem dX2_firstTurnError_103 : decode cX2_firstTurnError 103 = .ok (.iinc 2 1, 3) := by decide +kernel
theorem dX2_firstTurnError_106 : decode cX2_firstTurnError 106 = .ok (.iload_n 2, 1) := by decide +kernel
theorem dX2_firstTurnError_107 : decode cX2_firstTurnError 107 = .ok (.aload_n 0, 1) := by decide +kernel
theorem dX2_firstTurnError_108 : decode cX2_firstTurnError 108 = .ok (.getfield 28, 3) := by decide +kernel
theorem dX2_firstTurnError_111 : decode cX2_firstTurnError 111 = .ok (.if_icmp .ne 6, 3) := by decide +kernel
theorem dX2_firstTurnError_114 : decode cX2_firstTurnError 114 = .ok (.iinc 1 1, 3) := by decide +kernel
theorem dX2_firstTurnError_117 : decode cX2_firstTurnError 117 = .ok (.iinc 4 1, 3) := by decide +kernel
theorem dX2_firstTurnError_120 : decode cX2_firstTurnError 120 = .ok (.goto (-108), 3) := by decide +kernel
theorem dX2_firstTurnError_123 : decode cX2_firstTurnError 123 = .ok (.aload_n 0, 1) := by decide +kernel
theorem dX2_firstTurnError_124 : decode cX2_firstTurnError 124 = .ok (.getfield 118, 3) := by decide +kernel
theorem dX2_firstTurnError_127 : decode cX2_firstTurnError 127 = .ok (.ireturn, 1) := by decide +kernel
set_option maxRecDepth 20000 in
theorem ggX2_isTextOfTurns_X2_firstTurnError : GoodIn wsX2_isTextOfTurns wsX2_firstTurnError := goodIn_r _ [8, 9, 1, 3, 2, 10, 11, 12, 7, 13, 14, 15, 16, 17, 18, 19, 20, 21, 22, 23] (by decide +kernel) (by decide +kernel)
set_option maxRecDepth 20000 in
theorem gX2_isTextOfTurns_X2_firstTurnError : GoodIn wsX2_isTextOfTurns (wsV RX2 126 RX2 yX2_firstTurnError wsX2_firstTurnError) := goodIn_app (goodIn_of _ (by decide +kernel)) ggX2_isTextOfTurns_X2_firstTurnError
theorem dX2_isTextOfTurns_0 : decode cX2_isTextOfTurns 0 = .ok (.iconst 0, 1) := by decide +kernel
theorem dX2_isTextOfTurns_1 : decode cX2_isTextOfTurns 1 = .ok (.istore_n 1, 1) := by decide +kernel
theorem dX2_isTextOfTurns_2 : decode cX2_isTextOfTurns 2 = .ok (.iconst 0, 1) := by decide +kernel
theorem dX2_isTextOfTurns_3 : decode cX2_isTextOfTurns 3 = .ok (.istore_n 2, 1) := by decide +kernel
theorem dX2_isTextOfTurns_4 : decode cX2_isTextOfTurns 4 = .ok (.iload_n 2, 1) := by decide +kernel
theorem dX2_isTextOfTurns_5 : decode cX2_isTextOfTurns 5 = .ok (.aload_n 0, 1) := by decide +kernel
theorem dX2_isTextOfTurns_6 : decode cX2_isTextOfTurns 6 = .ok (.getfield 118, 3) := by decide +kernel
theorem dX2_isTextOfTurns_9 : decode cX2_isTextOfTurns 9 = .ok (.if_icmp .ge 28, 3) := by decide +kernel
theorem dX2_isTextOfTurns_12 : decode cX2_isTextOfTurns 12 = .ok (.aload_n 0, 1) := by decide +kernel
theorem dX2_isTextOfTurns_13 : decode cX2_isTextOfTurns 13 = .ok (.getfield 24, 3) := by decide +kernel
theorem dX2_isTextOfTurns_16 : decode cX2_isTextOfTurns 16 = .ok (.iload_n 2, 1) := by decide +kernel
theorem dX2_isTextOfTurns_17 : decode cX2_isTextOfTurns 17 = .ok (.caload, 1) := by decide +kernel
theorem dX2_isTextOfTurns_18 : decode cX2_isTextOfTurns 18 = .ok (.bipush 59, 2) := by decide +kernel
theorem dX2_isTextOfTurns_20 : decode cX2_isTextOfTurns 20 = .ok (.if_icmp .ne 7, 3) := by decide +kernel
theorem dX2_isTextOfTurns_23 : decode cX2_isTextOfTurns 23 = .ok (.iconst 0, 1) := by decide +kernel
theorem dX2_isTextOfTurns_24 : decode cX2_isTextOfTurns 24 = .ok (.goto 6, 3) := by decide +kernel
theorem dX2_isTextOfTurns_27 : decode cX2_isTextOfTurns 27 = .ok (.iload_n 1, 1) := by decide +kernel
theorem dX2_isTextOfTurns_28 : decode cX2_isTextOfTurns 28 = .ok (.iconst 1, 1) := by decide +kernel
theorem dX2_isTextOfTurns_29 : decode cX2_isTextOfTurns 29 = .ok (.iadd, 1) := by decide +kernel
theorem dX2_isTextOfTurns_30 : decode cX2_isTextOfTurns 30 = .ok (.istore_n 1, 1) := by decide +kernel
theorem dX2_isTextOfTurns_31 : decode cX2_isTextOfTurns 31 = .ok (.iinc 2 1, 3) := by decide +kernel
theorem dX2_isTextOfTurns_34 : decode cX2_isTextOfTurns 34 = .ok (.goto (-30), 3) := by decide +kernel
theorem dX2_isTextOfTurns_37 : decode cX2_isTextOfTurns 37 = .ok (.iload_n 1, 1) := by decide +kernel
theorem dX2_isTextOfTurns_38 : decode cX2_isTextOfTurns 38 = .ok (.aload_n 0, 1) := by decide +kernel
theorem dX2_isTextOfTurns_39 : decode cX2_isTextOfTurns 39 = .ok (.getfield 28, 3) := by decide +kernel
theorem dX2_isTextOfTurns_42 : decode cX2_isTextOfTurns 42 = .ok (.if_icmp .ne 18, 3) := by decide +kernel
theorem dX2_isTextOfTurns_45 : decode cX2_isTextOfTurns 45 = .ok (.aload_n 0, 1) := by decide +kernel
theorem dX2_isTextOfTurns_46 : decode cX2_isTextOfTurns 46 = .ok (.invokevirtual 126, 3) := by decide +kernel
theorem dX2_isTextOfTurns_49 : decode cX2_isTextOfTurns 49 = .ok (.aload_n 0, 1) := by decide +kernel
theorem dX2_isTextOfTurns_50 : decode cX2_isTextOfTurns 50 = .ok (.getfield 118, 3) := by decide +kernel
theorem dX2_isTextOfTurns_53 : decode cX2_isTextOfTurns 53 = .ok (.if_icmp .ne 7, 3) := by decide +kernel
theorem dX2_isTextOfTurns_56 : decode cX2_isTextOfTurns 56 = .ok (.iconst 1, 1) := by decide +kernel
theorem dX2_isTextOfTurns_57 : decode cX2_isTextOfTurns 57 = .ok (.goto 4, 3) := by decide +kernel
theorem dX2_isTextOfTurns_60 : decode cX2_isTextOfTurns 60 = .ok (.iconst 0, 1) := by decide +kernel
theorem dX2_isTextOfTurns_61 : decode cX2_isTextOfTurns 61 = .ok (.ireturn, 1) := by decide +kernel
set_option maxRecDepth 20000 in
theorem ggX2_countOrbits_X2_orbitOf : GoodIn wsX2_countOrbits wsX2_orbitOf := goodIn_r _ [6, 1, 7, 8, 9, 10, 5, 11, 12, 13, 14, 15, 16, 17, 18, 19, 20, 21, 22, 23, 24, 25, 26, 27, 28, 29, 30, 31] (by decide +kernel) (by decide +kernel)
set_option maxRecDepth 20000 in
theorem gX2_countOrbits_X2_orbitOf : GoodIn wsX2_countOrbits (wsV RX2 285 RX2 yX2_orbitOf wsX2_orbitOf) := goodIn_app (goodIn_of _ (by decide +kernel)) ggX2_countOrbits_X2_orbitOf
theorem dX2_countOrbits_0 : decode cX2_countOrbits 0 = .ok (.iconst 0, 1) := by decide +kernel
theorem dX2_countOrbits_1 : decode cX2_countOrbits 1 = .ok (.istore_n 1, 1) := by decide +kernel
theorem dX2_countOrbits_2 : decode cX2_countOrbits 2 = .ok (.iconst 0, 1) := by decide +kernel
theorem dX2_countOrbits_3 : decode cX2_countOrbits 3 = .ok (.istore_n 2, 1) := by decide +kernel
theorem dX2_countOrbits_4 : decode cX2_countOrbits 4 = .ok (.iconst 0, 1) := by decide +kernel
theorem dX2_countOrbits_5 : decode cX2_countOrbits 5 = .ok (.istore_n 3, 1) := by decide +kernel
theorem dX2_countOrbits_6 : decode cX2_countOrbits 6 = .ok (.iload_n 3, 1) := by decide +kernel
theorem dX2_countOrbits_7 : decode cX2_countOrbits 7 = .ok (.aload_n 0, 1) := by decide +kernel
theorem dX2_countOrbits_8 : decode cX2_countOrbits 8 = .ok (.getfield 28, 3) := by decide +kernel
theorem dX2_countOrbits_11 : decode cX2_countOrbits 11 = .ok (.if_icmp .ge 28, 3) := by decide +kernel
theorem dX2_countOrbits_14 : decode cX2_countOrbits 14 = .ok (.iload_n 1, 1) := by decide +kernel
theorem dX2_countOrbits_15 : decode cX2_countOrbits 15 = .ok (.iconst 1, 1) := by decide +kernel
theorem dX2_countOrbits_16 : decode cX2_countOrbits 16 = .ok (.iload_n 3, 1) := by decide +kernel
theorem dX2_countOrbits_17 : decode cX2_countOrbits 17 = .ok (.ishl, 1) := by decide +kernel
theorem dX2_countOrbits_18 : decode cX2_countOrbits 18 = .ok (.iand, 1) := by decide +kernel
theorem dX2_countOrbits_19 : decode cX2_countOrbits 19 = .ok (.ifCond .ne 14, 3) := by decide +kernel
theorem dX2_countOrbits_22 : decode cX2_countOrbits 22 = .ok (.iload_n 1, 1) := by decide +kernel
theorem dX2_countOrbits_23 : decode cX2_countOrbits 23 = .ok (.aload_n 0, 1) := by decide +kernel
theorem dX2_countOrbits_24 : decode cX2_countOrbits 24 = .ok (.iload_n 3, 1) := by decide +kernel
theorem dX2_countOrbits_25 : decode cX2_countOrbits 25 = .ok (.invokevirtual 285, 3) := by decide +kernel
theorem dX2_countOrbits_28 : decode cX2_countOrbits 28 = .ok (.ior, 1) := by decide +kernel
theorem dX2_countOrbits_29 : decode cX2_countOrbits 29 = .ok (.istore_n 1, 1) := by decide +kernel
theorem dX2_countOrbits_30 : decode cX2_countOrbits 30 = .ok (.iinc 2 1, 3) := by decide +kernel
theorem dX2_countOrbits_33 : decode cX2_countOrbits 33 = .ok (.iinc 3 1, 3) := by decide +kernel
theorem dX2_countOrbits_36 : decode cX2_countOrbits 36 = .ok (.goto (-30), 3) := by decide +kernel
theorem dX2_countOrbits_39 : decode cX2_countOrbits 39 = .ok (.iload_n 2, 1) := by decide +kernel
theorem dX2_countOrbits_40 : decode cX2_countOrbits 40 = .ok (.ireturn, 1) := by decide +kernel
set_option maxRecDepth 20000 in
theorem ggX2_orbitOf_X2_isAllowed : GoodIn wsX2_orbitOf wsX2_isAllowed := goodIn_r _ [7, 8, 9, 10, 11, 6, 12, 2, 18, 19, 20, 21, 22, 23, 24, 25, 26, 27] (by decide +kernel) (by decide +kernel)
set_option maxRecDepth 20000 in
theorem gX2_orbitOf_X2_isAllowed : GoodIn wsX2_orbitOf (wsV RX2 103 RX2 yX2_isAllowed wsX2_isAllowed) := goodIn_app (goodIn_of _ (by decide +kernel)) ggX2_orbitOf_X2_isAllowed
set_option maxRecDepth 20000 in
theorem ggX2_orbitOf_X2_movedPlaces : GoodIn wsX2_orbitOf wsX2_movedPlaces := goodIn_r _ [16, 1, 17, 18, 19, 20, 21, 22, 23, 24, 25, 26, 27] (by decide +kernel) (by decide +kernel)
set_option maxRecDepth 20000 in
theorem gX2_orbitOf_X2_movedPlaces : GoodIn wsX2_orbitOf (wsV RX2 288 RX2 yX2_movedPlaces wsX2_movedPlaces) := goodIn_app (goodIn_of _ (by decide +kernel)) ggX2_orbitOf_X2_movedPlaces
theorem dX2_orbitOf_0 : decode cX2_orbitOf 0 = .ok (.iconst 1, 1) := by decide +kernel
theorem dX2_orbitOf_1 : decode cX2_orbitOf 1 = .ok (.iload_n 1, 1) := by decide +kernel
theorem dX2_orbitOf_2 : decode cX2_orbitOf 2 = .ok (.ishl, 1) := by decide +kernel
theorem dX2_orbitOf_3 : decode cX2_orbitOf 3 = .ok (.istore_n 2, 1) := by decide +kernel
theorem dX2_orbitOf_4 : decode cX2_orbitOf 4 = .ok (.iconst 1, 1) := by decide +kernel
theorem dX2_orbitOf_5 : decode cX2_orbitOf 5 = .ok (.istore_n 3, 1) := by decide +kernel
theorem dX2_orbitOf_6 : decode cX2_orbitOf 6 = .ok (.iload_n 3, 1) := by decide +kernel
theorem dX2_orbitOf_7 : decode cX2_orbitOf 7 = .ok (.aload_n 0, 1) := by decide +kernel
theorem dX2_orbitOf_8 : decode cX2_orbitOf 8 = .ok (.getfield 28, 3) := by decide +kernel
theorem dX2_orbitOf_11 : decode cX2_orbitOf 11 = .ok (.if_icmp .ge 48, 3) := by decide +kernel
theorem dX2_orbitOf_14 : decode cX2_orbitOf 14 = .ok (.iconst 0, 1) := by decide +kernel
theorem dX2_orbitOf_15 : decode cX2_orbitOf 15 = .ok (.istore 4, 2) := by decide +kernel
theorem dX2_orbitOf_17 : decode cX2_orbitOf 17 = .ok (.iload 4, 2) := by decide +kernel
theorem dX2_orbitOf_19 : decode cX2_orbitOf 19 = .ok (.iconst 2, 1) := by decide +kernel
theorem dX2_orbitOf_20 : decode cX2_orbitOf 20 = .ok (.aload_n 0, 1) := by decide +kernel
theorem dX2_orbitOf_21 : decode cX2_orbitOf 21 = .ok (.getfield 52, 3) := by decide +kernel
theorem dX2_orbitOf_24 : decode cX2_orbitOf 24 = .ok (.imul, 1) := by decide +kernel
theorem dX2_orbitOf_25 : decode cX2_orbitOf 25 = .ok (.if_icmp .ge 28, 3) := by decide +kernel
theorem dX2_orbitOf_28 : decode cX2_orbitOf 28 = .ok (.aload_n 0, 1) := by decide +kernel
theorem dX2_orbitOf_29 : decode cX2_orbitOf 29 = .ok (.iload 4, 2) := by decide +kernel
theorem dX2_orbitOf_31 : decode cX2_orbitOf 31 = .ok (.invokevirtual 103, 3) := by decide +kernel
theorem dX2_orbitOf_34 : decode cX2_orbitOf 34 = .ok (.ifCond .eq 13, 3) := by decide +kernel
theorem dX2_orbitOf_37 : decode cX2_orbitOf 37 = .ok (.iload_n 2, 1) := by decide +kernel
theorem dX2_orbitOf_38 : decode cX2_orbitOf 38 = .ok (.aload_n 0, 1) := by decide +kernel
theorem dX2_orbitOf_39 : decode cX2_orbitOf 39 = .ok (.iload 4, 2) := by decide +kernel
theorem dX2_orbitOf_41 : decode cX2_orbitOf 41 = .ok (.iload_n 2, 1) := by decide +kernel
theorem dX2_orbitOf_42 : decode cX2_orbitOf 42 = .ok (.invokevirtual 288, 3) := by decide +kernel
theorem dX2_orbitOf_45 : decode cX2_orbitOf 45 = .ok (.ior, 1) := by decide +kernel
theorem dX2_orbitOf_46 : decode cX2_orbitOf 46 = .ok (.istore_n 2, 1) := by decide +kernel
theorem dX2_orbitOf_47 : decode cX2_orbitOf 47 = .ok (.iinc 4 1, 3) := by decide +kernel
theorem dX2_orbitOf_50 : decode cX2_orbitOf 50 = .ok (.goto (-33), 3) := by decide +kernel
theorem dX2_orbitOf_53 : decode cX2_orbitOf 53 = .ok (.iinc 3 1, 3) := by decide +kernel
theorem dX2_orbitOf_56 : decode cX2_orbitOf 56 = .ok (.goto (-50), 3) := by decide +kernel
theorem dX2_orbitOf_59 : decode cX2_orbitOf 59 = .ok (.iload_n 2, 1) := by decide +kernel
theorem dX2_orbitOf_60 : decode cX2_orbitOf 60 = .ok (.ireturn, 1) := by decide +kernel
theorem dX2_movedPlaces_0 : decode cX2_movedPlaces 0 = .ok (.iconst 0, 1) := by decide +kernel
theorem dX2_movedPlaces_1 : decode cX2_movedPlaces 1 = .ok (.istore_n 3, 1) := by decide +kernel
theorem dX2_movedPlaces_2 : decode cX2_movedPlaces 2 = .ok (.iconst 0, 1) := by decide +kernel
theorem dX2_movedPlaces_3 : decode cX2_movedPlaces 3 = .ok (.istore 4, 2) := by decide +kernel
theorem dX2_movedPlaces_5 : decode cX2_movedPlaces 5 = .ok (.iload 4, 2) := by decide +kernel
theorem dX2_movedPlaces_7 : decode cX2_movedPlaces 7 = .ok (.aload_n 0, 1) := by decide +kernel
theorem dX2_movedPlaces_8 : decode cX2_movedPlaces 8 = .ok (.getfield 28, 3) := by decide +kernel
theorem dX2_movedPlaces_11 : decode cX2_movedPlaces 11 = .ok (.if_icmp .ge 32, 3) := by decide +kernel
theorem dX2_movedPlaces_14 : decode cX2_movedPlaces 14 = .ok (.iload_n 2, 1) := by decide +kernel
theorem dX2_movedPlaces_15 : decode cX2_movedPlaces 15 = .ok (.iconst 1, 1) := by decide +kernel
theorem dX2_movedPlaces_16 : decode cX2_movedPlaces 16 = .ok (.aload_n 0, 1) := by decide +kernel
theorem dX2_movedPlaces_17 : decode cX2_movedPlaces 17 = .ok (.getfield 21, 3) := by decide +kernel
theorem dX2_movedPlaces_20 : decode cX2_movedPlaces 20 = .ok (.iload_n 1, 1) := by decide +kernel
theorem dX2_movedPlaces_21 : decode cX2_movedPlaces 21 = .ok (.aaload, 1) := by decide +kernel
theorem dX2_movedPlaces_22 : decode cX2_movedPlaces 22 = .ok (.iload 4, 2) := by decide +kernel
theorem dX2_movedPlaces_24 : decode cX2_movedPlaces 24 = .ok (.iaload, 1) := by decide +kernel
theorem dX2_movedPlaces_25 : decode cX2_movedPlaces 25 = .ok (.ishl, 1) := by decide +kernel
theorem dX2_movedPlaces_26 : decode cX2_movedPlaces 26 = .ok (.iand, 1) := by decide +kernel
theorem dX2_movedPlaces_27 : decode cX2_movedPlaces 27 = .ok (.ifCond .eq 10, 3) := by decide +kernel
theorem dX2_movedPlaces_30 : decode cX2_movedPlaces 30 = .ok (.iload_n 3, 1) := by decide +kernel
theorem dX2_movedPlaces_31 : decode cX2_movedPlaces 31 = .ok (.iconst 1, 1) := by decide +kernel
theorem dX2_movedPlaces_32 : decode cX2_movedPlaces 32 = .ok (.iload 4, 2) := by decide +kernel
theorem dX2_movedPlaces_34 : decode cX2_movedPlaces 34 = .ok (.ishl, 1) := by decide +kernel
theorem dX2_movedPlaces_35 : decode cX2_movedPlaces 35 = .ok (.ior, 1) := by decide +kernel
theorem dX2_movedPlaces_36 : decode cX2_movedPlaces 36 = .ok (.istore_n 3, 1) := by decide +kernel
theorem dX2_movedPlaces_37 : decode cX2_movedPlaces 37 = .ok (.iinc 4 1, 3) := by decide +kernel
theorem dX2_movedPlaces_40 : decode cX2_movedPlaces 40 = .ok (.goto (-35), 3) := by decide +kernel
theorem dX2_movedPlaces_43 : decode cX2_movedPlaces 43 = .ok (.iload_n 3, 1) := by decide +kernel
theorem dX2_movedPlaces_44 : decode cX2_movedPlaces 44 = .ok (.ireturn, 1) := by decide +kernel
set_option maxRecDepth 20000 in
theorem ggX2_countEvenArrangements_X2_solutions : GoodIn wsX2_countEvenArrangements wsX2_solutions := goodIn_r _ [8, 9, 10, 11, 12, 13, 14, 15, 16, 17, 18, 19, 20, 21, 22, 23, 24, 25, 26, 27, 28, 29, 30, 48, 49, 50, 51, 52, 53, 54, 55, 56, 57, 58, 59, 60, 61, 62, 63, 64, 65, 66, 67, 44, 45, 46, 47] (by decide +kernel) (by decide +kernel)
set_option maxRecDepth 20000 in
theorem gX2_countEvenArrangements_X2_solutions : GoodIn wsX2_countEvenArrangements (wsV RX2 159 RX2 yX2_solutions wsX2_solutions) := goodIn_app (goodIn_of _ (by decide +kernel)) ggX2_countEvenArrangements_X2_solutions
set_option maxRecDepth 20000 in
theorem ggX2_countEvenArrangements_X2_isAllowed : GoodIn wsX2_countEvenArrangements wsX2_isAllowed := goodIn_r _ [34, 11, 35, 36, 37, 7, 38, 2, 48, 49, 50, 51, 52, 53, 54, 55, 56, 57] (by decide +kernel) (by decide +kernel)
set_option maxRecDepth 20000 in
theorem gX2_countEvenArrangements_X2_isAllowed : GoodIn wsX2_countEvenArrangements (wsV RX2 103 RX2 yX2_isAllowed wsX2_isAllowed) := goodIn_app (goodIn_of _ (by decide +kernel)) ggX2_countEvenArrangements_X2_isAllowed
set_option maxRecDepth 20000 in
theorem ggX2_countEvenArrangements_X2_isEven : GoodIn wsX2_countEvenArrangements wsX2_isEven := goodIn_r _ [42, 43, 48, 49, 50, 51, 52, 53, 54, 55, 56, 57] (by decide +kernel) (by decide +kernel)
set_option maxRecDepth 20000 in
theorem gX2_countEvenArrangements_X2_isEven : GoodIn wsX2_countEvenArrangements (wsV RX2 228 RX2 yX2_isEven wsX2_isEven) := goodIn_app (goodIn_of _ (by decide +kernel)) ggX2_countEvenArrangements_X2_isEven
theorem dX2_countEvenArrangements_0 : decode cX2_countEvenArrangements 0 = .ok (.aload_n 0, 1) := by decide +kernel
theorem dX2_countEvenArrangements_1 : decode cX2_countEvenArrangements 1 = .ok (.invokevirtual 159, 3) := by decide +kernel
theorem dX2_countEvenArrangements_4 : decode cX2_countEvenArrangements 4 = .ok (.getfield 163, 3) := by decide +kernel
theorem dX2_countEvenArrangements_7 : decode cX2_countEvenArrangements 7 = .ok (.istore_n 1, 1) := by decide +kernel
theorem dX2_countEvenArrangements_8 : decode cX2_countEvenArrangements 8 = .ok (.iconst 0, 1) := by decide +kernel
theorem dX2_countEvenArrangements_9 : decode cX2_countEvenArrangements 9 = .ok (.istore_n 2, 1) := by decide +kernel
theorem dX2_countEvenArrangements_10 : decode cX2_countEvenArrangements 10 = .ok (.iload_n 2, 1) := by decide +kernel
theorem dX2_countEvenArrangements_11 : decode cX2_countEvenArrangements 11 = .ok (.iconst 2, 1) := by decide +kernel
theorem dX2_countEvenArrangements_12 : decode cX2_countEvenArrangements 12 = .ok (.aload_n 0, 1) := by decide +kernel
theorem dX2_countEvenArrangements_13 : decode cX2_countEvenArrangements 13 = .ok (.getfield 52, 3) := by decide +kernel
theorem dX2_countEvenArrangements_16 : decode cX2_countEvenArrangements 16 = .ok (.imul, 1) := by decide +kernel
theorem dX2_countEvenArrangements_17 : decode cX2_countEvenArrangements 17 = .ok (.if_icmp .ge 34, 3) := by decide +kernel
theorem dX2_countEvenArrangements_20 : decode cX2_countEvenArrangements 20 = .ok (.aload_n 0, 1) := by decide +kernel
theorem dX2_countEvenArrangements_21 : decode cX2_countEvenArrangements 21 = .ok (.iload_n 2, 1) := by decide +kernel
theorem dX2_countEvenArrangements_22 : decode cX2_countEvenArrangements 22 = .ok (.invokevirtual 103, 3) := by decide +kernel
theorem dX2_countEvenArrangements_25 : decode cX2_countEvenArrangements 25 = .ok (.ifCond .eq 20, 3) := by decide +kernel
theorem dX2_countEvenArrangements_28 : decode cX2_countEvenArrangements 28 = .ok (.aload_n 0, 1) := by decide +kernel
theorem dX2_countEvenArrangements_29 : decode cX2_countEvenArrangements 29 = .ok (.aload_n 0, 1) := by decide +kernel
theorem dX2_countEvenArrangements_30 : decode cX2_countEvenArrangements 30 = .ok (.getfield 21, 3) := by decide +kernel
theorem dX2_countEvenArrangements_33 : decode cX2_countEvenArrangements 33 = .ok (.iload_n 2, 1) := by decide +kernel
theorem dX2_countEvenArrangements_34 : decode cX2_countEvenArrangements 34 = .ok (.aaload, 1) := by decide +kernel
theorem dX2_countEvenArrangements_35 : decode cX2_countEvenArrangements 35 = .ok (.invokevirtual 228, 3) := by decide +kernel
theorem dX2_countEvenArrangements_38 : decode cX2_countEvenArrangements 38 = .ok (.ifCond .ne 7, 3) := by decide +kernel
theorem dX2_countEvenArrangements_41 : decode cX2_countEvenArrangements 41 = .ok (.iload_n 1, 1) := by decide +kernel
theorem dX2_countEvenArrangements_42 : decode cX2_countEvenArrangements 42 = .ok (.iconst 2, 1) := by decide +kernel
theorem dX2_countEvenArrangements_43 : decode cX2_countEvenArrangements 43 = .ok (.idiv, 1) := by decide +kernel
theorem dX2_countEvenArrangements_44 : decode cX2_countEvenArrangements 44 = .ok (.ireturn, 1) := by decide +kernel
theorem dX2_countEvenArrangements_45 : decode cX2_countEvenArrangements 45 = .ok (.iinc 2 1, 3) := by decide +kernel
theorem dX2_countEvenArrangements_48 : decode cX2_countEvenArrangements 48 = .ok (.goto (-38), 3) := by decide +kernel
theorem dX2_countEvenArrangements_51 : decode cX2_countEvenArrangements 51 = .ok (.iload_n 1, 1) := by decide +kernel
theorem dX2_countEvenArrangements_52 : decode cX2_countEvenArrangements 52 = .ok (.ireturn, 1) := by decide +kernel
set_option maxRecDepth 20000 in
theorem ggX2_solutions_X1_measure : GoodIn wsX2_solutions wsX1_measure := goodIn_r _ [8, 9, 10, 11, 12, 13, 14, 15, 16, 7, 17, 18, 19, 20, 21, 22, 43, 44, 45, 46, 33, 34, 35, 36, 37, 38, 39, 40, 41, 42] (by decide +kernel) (by decide +kernel)
set_option maxRecDepth 20000 in
theorem gX2_solutions_X1_measure : GoodIn wsX2_solutions (wsV RX2 295 RX1 yX1_measure wsX1_measure) := goodIn_app (goodIn_of _ (by decide +kernel)) ggX2_solutions_X1_measure
theorem dX2_solutions_0 : decode cX2_solutions 0 = .ok (.aload_n 0, 1) := by decide +kernel
theorem dX2_solutions_1 : decode cX2_solutions 1 = .ok (.getfield 37, 3) := by decide +kernel
theorem dX2_solutions_4 : decode cX2_solutions 4 = .ok (.getfield 292, 3) := by decide +kernel
theorem dX2_solutions_7 : decode cX2_solutions 7 = .ok (.aload_n 0, 1) := by decide +kernel
theorem dX2_solutions_8 : decode cX2_solutions 8 = .ok (.getfield 37, 3) := by decide +kernel
theorem dX2_solutions_11 : decode cX2_solutions 11 = .ok (.aload_n 0, 1) := by decide +kernel
theorem dX2_solutions_12 : decode cX2_solutions 12 = .ok (.getfield 55, 3) := by decide +kernel
theorem dX2_solutions_15 : decode cX2_solutions 15 = .ok (.invokevirtual 295, 3) := by decide +kernel
theorem dX2_solutions_18 : decode cX2_solutions 18 = .ok (.aload_n 0, 1) := by decide +kernel
theorem dX2_solutions_19 : decode cX2_solutions 19 = .ok (.getfield 37, 3) := by decide +kernel
theorem dX2_solutions_22 : decode cX2_solutions 22 = .ok (.getfield 292, 3) := by decide +kernel
theorem dX2_solutions_25 : decode cX2_solutions 25 = .ok (.areturn, 1) := by decide +kernel
set_option maxRecDepth 20000 in
theorem ggX2_solutionsOfOthers_X1_measure : GoodIn wsX2_solutionsOfOthers wsX1_measure := goodIn_r _ [7, 8, 9, 10, 11, 12, 13, 14, 15, 6, 16, 17, 18, 19, 20, 21, 42, 43, 44, 45, 32, 33, 34, 35, 36, 37, 38, 39, 40, 41] (by decide +kernel) (by decide +kernel)
set_option maxRecDepth 20000 in
theorem gX2_solutionsOfOthers_X1_measure : GoodIn wsX2_solutionsOfOthers (wsV RX2 295 RX1 yX1_measure wsX1_measure) := goodIn_app (goodIn_of _ (by decide +kernel)) ggX2_solutionsOfOthers_X1_measure
theorem dX2_solutionsOfOthers_0 : decode cX2_solutionsOfOthers 0 = .ok (.aload_n 0, 1) := by decide +kernel
theorem dX2_solutionsOfOthers_1 : decode cX2_solutionsOfOthers 1 = .ok (.getfield 37, 3) := by decide +kernel
theorem dX2_solutionsOfOthers_4 : decode cX2_solutionsOfOthers 4 = .ok (.getfield 299, 3) := by decide +kernel
theorem dX2_solutionsOfOthers_7 : decode cX2_solutionsOfOthers 7 = .ok (.aload_n 0, 1) := by decide +kernel
theorem dX2_solutionsOfOthers_8 : decode cX2_solutionsOfOthers 8 = .ok (.getfield 37, 3) := by decide +kernel
theorem dX2_solutionsOfOthers_11 : decode cX2_solutionsOfOthers 11 = .ok (.iload_n 1, 1) := by decide +kernel
theorem dX2_solutionsOfOthers_12 : decode cX2_solutionsOfOthers 12 = .ok (.invokevirtual 295, 3) := by decide +kernel
theorem dX2_solutionsOfOthers_15 : decode cX2_solutionsOfOthers 15 = .ok (.aload_n 0, 1) := by decide +kernel
theorem dX2_solutionsOfOthers_16 : decode cX2_solutionsOfOthers 16 = .ok (.getfield 37, 3) := by decide +kernel
theorem dX2_solutionsOfOthers_19 : decode cX2_solutionsOfOthers 19 = .ok (.getfield 299, 3) := by decide +kernel
theorem dX2_solutionsOfOthers_22 : decode cX2_solutionsOfOthers 22 = .ok (.areturn, 1) := by decide +kernel
set_option maxRecDepth 20000 in
theorem ggX2_presentCode_X2_codeOf : GoodIn wsX2_presentCode wsX2_codeOf := goodIn_r _ [7, 8, 9, 10, 11, 12, 13, 14] (by decide +kernel) (by decide +kernel)
set_option maxRecDepth 20000 in
theorem gX2_presentCode_X2_codeOf : GoodIn wsX2_presentCode (va_wsS RX2 302 yX2_codeOf wsX2_codeOf) := goodIn_app (goodIn_of _ (by decide +kernel)) ggX2_presentCode_X2_codeOf
theorem dX2_presentCode_0 : decode cX2_presentCode 0 = .ok (.iconst 0, 1) := by decide +kernel
theorem dX2_presentCode_1 : decode cX2_presentCode 1 = .ok (.istore_n 1, 1) := by decide +kernel
theorem dX2_presentCode_2 : decode cX2_presentCode 2 = .ok (.iload_n 1, 1) := by decide +kernel
theorem dX2_presentCode_3 : decode cX2_presentCode 3 = .ok (.aload_n 0, 1) := by decide +kernel
theorem dX2_presentCode_4 : decode cX2_presentCode 4 = .ok (.getfield 28, 3) := by decide +kernel
theorem dX2_presentCode_7 : decode cX2_presentCode 7 = .ok (.if_icmp .ge 21, 3) := by decide +kernel
theorem dX2_presentCode_10 : decode cX2_presentCode 10 = .ok (.aload_n 0, 1) := by decide +kernel
theorem dX2_presentCode_11 : decode cX2_presentCode 11 = .ok (.getfield 13, 3) := by decide +kernel
theorem dX2_presentCode_14 : decode cX2_presentCode 14 = .ok (.aload_n 0, 1) := by decide +kernel
theorem dX2_presentCode_15 : decode cX2_presentCode 15 = .ok (.getfield 9, 3) := by decide +kernel
theorem dX2_presentCode_18 : decode cX2_presentCode 18 = .ok (.iload_n 1, 1) := by decide +kernel
theorem dX2_presentCode_19 : decode cX2_presentCode 19 = .ok (.iaload, 1) := by decide +kernel
theorem dX2_presentCode_20 : decode cX2_presentCode 20 = .ok (.iload_n 1, 1) := by decide +kernel
theorem dX2_presentCode_21 : decode cX2_presentCode 21 = .ok (.iastore, 1) := by decide +kernel
theorem dX2_presentCode_22 : decode cX2_presentCode 22 = .ok (.iinc 1 1, 3) := by decide +kernel
theorem dX2_presentCode_25 : decode cX2_presentCode 25 = .ok (.goto (-23), 3) := by decide +kernel
theorem dX2_presentCode_28 : decode cX2_presentCode 28 = .ok (.aload_n 0, 1) := by decide +kernel
theorem dX2_presentCode_29 : decode cX2_presentCode 29 = .ok (.getfield 13, 3) := by decide +kernel
theorem dX2_presentCode_32 : decode cX2_presentCode 32 = .ok (.aload_n 0, 1) := by decide +kernel
theorem dX2_presentCode_33 : decode cX2_presentCode 33 = .ok (.getfield 28, 3) := by decide +kernel
theorem dX2_presentCode_36 : decode cX2_presentCode 36 = .ok (.invokestatic 302, 3) := by decide +kernel
theorem dX2_presentCode_39 : decode cX2_presentCode 39 = .ok (.ireturn, 1) := by decide +kernel
set_option maxRecDepth 20000 in
theorem ggX2_codeOf_J6_bitCount_0f7a4 : GoodIn wsX2_codeOf wsJ6_bitCount_0f7a4 := goodIn_r _ [4, 5, 6, 7] (by decide +kernel) (by decide +kernel)
set_option maxRecDepth 20000 in
theorem gX2_codeOf_J6_bitCount_0f7a4 : GoodIn wsX2_codeOf (va_wsS RX2 306 yJ6_bitCount_0f7a4 wsJ6_bitCount_0f7a4) := goodIn_app (goodIn_of _ (by decide +kernel)) ggX2_codeOf_J6_bitCount_0f7a4
theorem dX2_codeOf_0 : decode cX2_codeOf 0 = .ok (.iconst 1, 1) := by decide +kernel
theorem dX2_codeOf_1 : decode cX2_codeOf 1 = .ok (.iload_n 1, 1) := by decide +kernel
theorem dX2_codeOf_2 : decode cX2_codeOf 2 = .ok (.ishl, 1) := by decide +kernel
theorem dX2_codeOf_3 : decode cX2_codeOf 3 = .ok (.iconst 1, 1) := by decide +kernel
theorem dX2_codeOf_4 : decode cX2_codeOf 4 = .ok (.isub, 1) := by decide +kernel
theorem dX2_codeOf_5 : decode cX2_codeOf 5 = .ok (.istore_n 2, 1) := by decide +kernel
theorem dX2_codeOf_6 : decode cX2_codeOf 6 = .ok (.iconst 0, 1) := by decide +kernel
theorem dX2_codeOf_7 : decode cX2_codeOf 7 = .ok (.istore_n 3, 1) := by decide +kernel
theorem dX2_codeOf_8 : decode cX2_codeOf 8 = .ok (.iconst 0, 1) := by decide +kernel
theorem dX2_codeOf_9 : decode cX2_codeOf 9 = .ok (.istore 4, 2) := by decide +kernel
theorem dX2_codeOf_11 : decode cX2_codeOf 11 = .ok (.iload 4, 2) := by decide +kernel
theorem dX2_codeOf_13 : decode cX2_codeOf 13 = .ok (.iload_n 1, 1) := by decide +kernel
theorem dX2_codeOf_14 : decode cX2_codeOf 14 = .ok (.if_icmp .ge 41, 3) := by decide +kernel
theorem dX2_codeOf_17 : decode cX2_codeOf 17 = .ok (.iconst 1, 1) := by decide +kernel
theorem dX2_codeOf_18 : decode cX2_codeOf 18 = .ok (.aload_n 0, 1) := by decide +kernel
theorem dX2_codeOf_19 : decode cX2_codeOf 19 = .ok (.iload 4, 2) := by decide +kernel
theorem dX2_codeOf_21 : decode cX2_codeOf 21 = .ok (.iaload, 1) := by decide +kernel
theorem dX2_codeOf_22 : decode cX2_codeOf 22 = .ok (.ishl, 1) := by decide +kernel
theorem dX2_codeOf_23 : decode cX2_codeOf 23 = .ok (.istore 5, 2) := by decide +kernel
theorem dX2_codeOf_25 : decode cX2_codeOf 25 = .ok (.iload_n 3, 1) := by decide +kernel
theorem dX2_codeOf_26 : decode cX2_codeOf 26 = .ok (.iload_n 1, 1) := by decide +kernel
theorem dX2_codeOf_27 : decode cX2_codeOf 27 = .ok (.iload 4, 2) := by decide +kernel
theorem dX2_codeOf_29 : decode cX2_codeOf 29 = .ok (.isub, 1) := by decide +kernel
theorem dX2_codeOf_30 : decode cX2_codeOf 30 = .ok (.imul, 1) := by decide +kernel
theorem dX2_codeOf_31 : decode cX2_codeOf 31 = .ok (.iload_n 2, 1) := by decide +kernel
theorem dX2_codeOf_32 : decode cX2_codeOf 32 = .ok (.iload 5, 2) := by decide +kernel
theorem dX2_codeOf_34 : decode cX2_codeOf 34 = .ok (.iconst 1, 1) := by decide +kernel
theorem dX2_codeOf_35 : decode cX2_codeOf 35 = .ok (.isub, 1) := by decide +kernel
theorem dX2_codeOf_36 : decode cX2_codeOf 36 = .ok (.iand, 1) := by decide +kernel
theorem dX2_codeOf_37 : decode cX2_codeOf 37 = .ok (.invokestatic 306, 3) := by decide +kernel
theorem dX2_codeOf_40 : decode cX2_codeOf 40 = .ok (.iadd, 1) := by decide +kernel
theorem dX2_codeOf_41 : decode cX2_codeOf 41 = .ok (.istore_n 3, 1) := by decide +kernel
theorem dX2_codeOf_42 : decode cX2_codeOf 42 = .ok (.iload_n 2, 1) := by decide +kernel
theorem dX2_codeOf_43 : decode cX2_codeOf 43 = .ok (.iload 5, 2) := by decide +kernel
theorem dX2_codeOf_45 : decode cX2_codeOf 45 = .ok (.iconst (-1), 1) := by decide +kernel
theorem dX2_codeOf_46 : decode cX2_codeOf 46 = .ok (.ixor, 1) := by decide +kernel
theorem dX2_codeOf_47 : decode cX2_codeOf 47 = .ok (.iand, 1) := by decide +kernel
theorem dX2_codeOf_48 : decode cX2_codeOf 48 = .ok (.istore_n 2, 1) := by decide +kernel
theorem dX2_codeOf_49 : decode cX2_codeOf 49 = .ok (.iinc 4 1, 3) := by decide +kernel
theorem dX2_codeOf_52 : decode cX2_codeOf 52 = .ok (.goto (-41), 3) := by decide +kernel
theorem dX2_codeOf_55 : decode cX2_codeOf 55 = .ok (.iload_n 3, 1) := by decide +kernel
theorem dX2_codeOf_56 : decode cX2_codeOf 56 = .ok (.ireturn, 1) := by decide +kernel
set_option maxRecDepth 20000 in
theorem ggX3_init_X3_straighten : GoodIn wsX3_init wsX3_straighten := goodIn_r _ [21, 6, 22, 23, 24, 25, 26, 27, 28, 29, 30, 31, 32, 33, 34, 35, 36, 37, 38, 39, 40] (by decide +kernel) (by decide +kernel)
set_option maxRecDepth 20000 in
theorem gX3_init_X3_straighten : GoodIn wsX3_init (wsV RX3 43 RX3 yX3_straighten wsX3_straighten) := goodIn_app (goodIn_of _ (by decide +kernel)) ggX3_init_X3_straighten
