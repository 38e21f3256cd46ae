set_option maxRecDepth 20000 in
theorem ggX0_init_X1_init : GoodIn wsX0_init wsX1_init := goodIn_r _ [20, 21, 2, 3, 6, 22, 23, 24, 47, 48, 49, 50] (by decide +kernel) (by decide +kernel)
set_option maxRecDepth 20000 in
theorem gX0_init_X1_init : GoodIn wsX0_init (wsX1_init) := ggX0_init_X1_init
set_option maxRecDepth 20000 in
theorem ggX0_init_X0_setPlaces : GoodIn wsX0_init wsX0_setPlaces := goodIn_r _ [29, 30, 31, 32, 33, 34, 28, 35, 15, 36, 16, 37, 38, 39, 40, 41, 42, 43, 44, 45, 46, 47, 48, 49, 50] (by decide +kernel) (by decide +kernel)
set_option maxRecDepth 20000 in
theorem gX0_init_X0_setPlaces : GoodIn wsX0_init (wsV RX0 49 RX0 yX0_setPlaces wsX0_setPlaces) := goodIn_app (goodIn_of _ (by decide +kernel)) ggX0_init_X0_setPlaces
theorem dX0_init_0 : decode cX0_init 0 = .ok (.aload_n 0, 1) := by decide +kernel
theorem dX0_init_1 : decode cX0_init 1 = .ok (.invokespecial 3, 3) := by decide +kernel
theorem dX0_init_4 : decode cX0_init 4 = .ok (.aload_n 0, 1) := by decide +kernel
theorem dX0_init_5 : decode cX0_init 5 = .ok (.getstatic 9, 3) := by decide +kernel
theorem dX0_init_8 : decode cX0_init 8 = .ok (.iload_n 1, 1) := by decide +kernel
theorem dX0_init_9 : decode cX0_init 9 = .ok (.iaload, 1) := by decide +kernel
theorem dX0_init_10 : decode cX0_init 10 = .ok (.putfield 13, 3) := by decide +kernel
theorem dX0_init_13 : decode cX0_init 13 = .ok (.aload_n 0, 1) := by decide +kernel
theorem dX0_init_14 : decode cX0_init 14 = .ok (.bipush 12, 2) := by decide +kernel
theorem dX0_init_16 : decode cX0_init 16 = .ok (.aload_n 0, 1) := by decide +kernel
theorem dX0_init_17 : decode cX0_init 17 = .ok (.getfield 13, 3) := by decide +kernel
theorem dX0_init_20 : decode cX0_init 20 = .ok (.multianewarray 19 2, 4) := by decide +kernel
theorem dX0_init_24 : decode cX0_init 24 = .ok (.putfield 21, 3) := by decide +kernel
theorem dX0_init_27 : decode cX0_init 27 = .ok (.aload_n 0, 1) := by decide +kernel
theorem dX0_init_28 : decode cX0_init 28 = .ok (.aload_n 0, 1) := by decide +kernel
theorem dX0_init_29 : decode cX0_init 29 = .ok (.getfield 13, 3) := by decide +kernel
theorem dX0_init_32 : decode cX0_init 32 = .ok (.newarray .long, 2) := by decide +kernel
theorem dX0_init_34 : decode cX0_init 34 = .ok (.putfield 24, 3) := by decide +kernel
theorem dX0_init_37 : decode cX0_init 37 = .ok (.aload_n 0, 1) := by decide +kernel
theorem dX0_init_38 : decode cX0_init 38 = .ok (.bipush 8, 2) := by decide +kernel
theorem dX0_init_40 : decode cX0_init 40 = .ok (.newarray .int, 2) := by decide +kernel
theorem dX0_init_42 : decode cX0_init 42 = .ok (.putfield 28, 3) := by decide +kernel
theorem dX0_init_45 : decode cX0_init 45 = .ok (.aload_n 0, 1) := by decide +kernel
theorem dX0_init_46 : decode cX0_init 46 = .ok (.bipush 8, 2) := by decide +kernel
theorem dX0_init_48 : decode cX0_init 48 = .ok (.newarray .int, 2) := by decide +kernel
theorem dX0_init_50 : decode cX0_init 50 = .ok (.putfield 31, 3) := by decide +kernel
theorem dX0_init_53 : decode cX0_init 53 = .ok (.aload_n 0, 1) := by decide +kernel
theorem dX0_init_54 : decode cX0_init 54 = .ok (.new 34, 3) := by decide +kernel
theorem dX0_init_57 : decode cX0_init 57 = .ok (.dup, 1) := by decide +kernel
theorem dX0_init_58 : decode cX0_init 58 = .ok (.aload_n 0, 1) := by decide +kernel
theorem dX0_init_59 : decode cX0_init 59 = .ok (.getfield 13, 3) := by decide +kernel
theorem dX0_init_62 : decode cX0_init 62 = .ok (.invokespecial 36, 3) := by decide +kernel
theorem dX0_init_65 : decode cX0_init 65 = .ok (.putfield 39, 3) := by decide +kernel
theorem dX0_init_68 : decode cX0_init 68 = .ok (.aload_n 0, 1) := by decide +kernel
theorem dX0_init_69 : decode cX0_init 69 = .ok (.new 34, 3) := by decide +kernel
theorem dX0_init_72 : decode cX0_init 72 = .ok (.dup, 1) := by decide +kernel
theorem dX0_init_73 : decode cX0_init 73 = .ok (.aload_n 0, 1) := by decide +kernel
theorem dX0_init_74 : decode cX0_init 74 = .ok (.getfield 13, 3) := by decide +kernel
theorem dX0_init_77 : decode cX0_init 77 = .ok (.invokespecial 36, 3) := by decide +kernel
theorem dX0_init_80 : decode cX0_init 80 = .ok (.putfield 43, 3) := by decide +kernel
theorem dX0_init_83 : decode cX0_init 83 = .ok (.aload_n 0, 1) := by decide +kernel
theorem dX0_init_84 : decode cX0_init 84 = .ok (.new 34, 3) := by decide +kernel
theorem dX0_init_87 : decode cX0_init 87 = .ok (.dup, 1) := by decide +kernel
theorem dX0_init_88 : decode cX0_init 88 = .ok (.aload_n 0, 1) := by decide +kernel
theorem dX0_init_89 : decode cX0_init 89 = .ok (.getfield 13, 3) := by decide +kernel
theorem dX0_init_92 : decode cX0_init 92 = .ok (.invokespecial 36, 3) := by decide +kernel
theorem dX0_init_95 : decode cX0_init 95 = .ok (.putfield 46, 3) := by decide +kernel
theorem dX0_init_98 : decode cX0_init 98 = .ok (.aload_n 0, 1) := by decide +kernel
theorem dX0_init_99 : decode cX0_init 99 = .ok (.iload_n 1, 1) := by decide +kernel
theorem dX0_init_100 : decode cX0_init 100 = .ok (.invokevirtual 49, 3) := by decide +kernel
theorem dX0_init_103 : decode cX0_init 103 = .ok (.return_, 1) := by decide +kernel
set_option maxRecDepth 20000 in
theorem ggX0_setPlaces_X0_forgetSearches : GoodIn wsX0_setPlaces wsX0_forgetSearches := goodIn_r _ [7, 8, 9, 10, 11, 12, 13, 14, 15, 16, 17, 18, 19, 20, 21, 22, 23, 24] (by decide +kernel) (by decide +kernel)
set_option maxRecDepth 20000 in
theorem gX0_setPlaces_X0_forgetSearches : GoodIn wsX0_setPlaces (wsV RX0 58 RX0 yX0_forgetSearches wsX0_forgetSearches) := goodIn_app (goodIn_of _ (by decide +kernel)) ggX0_setPlaces_X0_forgetSearches
theorem dX0_setPlaces_0 : decode cX0_setPlaces 0 = .ok (.aload_n 0, 1) := by decide +kernel
theorem dX0_setPlaces_1 : decode cX0_setPlaces 1 = .ok (.iload_n 1, 1) := by decide +kernel
theorem dX0_setPlaces_2 : decode cX0_setPlaces 2 = .ok (.putfield 52, 3) := by decide +kernel
theorem dX0_setPlaces_5 : decode cX0_setPlaces 5 = .ok (.aload_n 0, 1) := by decide +kernel
theorem dX0_setPlaces_6 : decode cX0_setPlaces 6 = .ok (.getstatic 9, 3) := by decide +kernel
theorem dX0_setPlaces_9 : decode cX0_setPlaces 9 = .ok (.iload_n 1, 1) := by decide +kernel
theorem dX0_setPlaces_10 : decode cX0_setPlaces 10 = .ok (.iaload, 1) := by decide +kernel
theorem dX0_setPlaces_11 : decode cX0_setPlaces 11 = .ok (.putfield 55, 3) := by decide +kernel
theorem dX0_setPlaces_14 : decode cX0_setPlaces 14 = .ok (.aload_n 0, 1) := by decide +kernel
theorem dX0_setPlaces_15 : decode cX0_setPlaces 15 = .ok (.invokevirtual 58, 3) := by decide +kernel
theorem dX0_setPlaces_18 : decode cX0_setPlaces 18 = .ok (.return_, 1) := by decide +kernel
set_option maxRecDepth 20000 in
theorem ggX0_linkTurn_X2_setSolved : GoodIn wsX0_linkTurn wsX2_setSolved := goodIn_r _ [8] (by decide +kernel) (by decide +kernel)
set_option maxRecDepth 20000 in
theorem gX0_linkTurn_X2_setSolved_n61 : GoodIn wsX0_linkTurn (wsX2_setSolved) := ggX0_linkTurn_X2_setSolved
set_option maxRecDepth 20000 in
theorem ggX0_linkTurn_X2_codeOf : GoodIn wsX0_linkTurn wsX2_codeOf := goodIn_r _ [10, 11, 12, 13, 14, 15, 16, 17] (by decide +kernel) (by decide +kernel)
set_option maxRecDepth 20000 in
theorem gX0_linkTurn_X2_codeOf_n65 : GoodIn wsX0_linkTurn (wsX2_codeOf) := ggX0_linkTurn_X2_codeOf
set_option maxRecDepth 20000 in
theorem ggX0_linkTurn_X0_advanceSpots : GoodIn wsX0_linkTurn wsX0_advanceSpots := goodIn_r _ [22, 3, 2, 23, 24, 25, 21, 26, 34, 35, 36, 37, 38, 39, 40, 41, 42, 43] (by decide +kernel) (by decide +kernel)
set_option maxRecDepth 20000 in
theorem gX0_linkTurn_X0_advanceSpots : GoodIn wsX0_linkTurn (wsV RX0 69 RX0 yX0_advanceSpots wsX0_advanceSpots) := goodIn_app (goodIn_of _ (by decide +kernel)) ggX0_linkTurn_X0_advanceSpots
set_option maxRecDepth 20000 in
theorem ggX0_linkTurn_X0_forgetSearches : GoodIn wsX0_linkTurn wsX0_forgetSearches := goodIn_r _ [30, 31, 32, 33, 34, 35, 36, 37, 38, 39, 40, 41, 42, 43, 44, 45, 46, 47] (by decide +kernel) (by decide +kernel)
set_option maxRecDepth 20000 in
theorem gX0_linkTurn_X0_forgetSearches : GoodIn wsX0_linkTurn (wsV RX0 58 RX0 yX0_forgetSearches wsX0_forgetSearches) := goodIn_app (goodIn_of _ (by decide +kernel)) ggX0_linkTurn_X0_forgetSearches
theorem dX0_linkTurn_0 : decode cX0_linkTurn 0 = .ok (.aload_n 0, 1) := by decide +kernel
theorem dX0_linkTurn_1 : decode cX0_linkTurn 1 = .ok (.getfield 21, 3) := by decide +kernel
theorem dX0_linkTurn_4 : decode cX0_linkTurn 4 = .ok (.iconst 2, 1) := by decide +kernel
theorem dX0_linkTurn_5 : decode cX0_linkTurn 5 = .ok (.iload_n 1, 1) := by decide +kernel
theorem dX0_linkTurn_6 : decode cX0_linkTurn 6 = .ok (.imul, 1) := by decide +kernel
theorem dX0_linkTurn_7 : decode cX0_linkTurn 7 = .ok (.aaload, 1) := by decide +kernel
theorem dX0_linkTurn_8 : decode cX0_linkTurn 8 = .ok (.astore_n 3, 1) := by decide +kernel
theorem dX0_linkTurn_9 : decode cX0_linkTurn 9 = .ok (.aload_n 0, 1) := by decide +kernel
theorem dX0_linkTurn_10 : decode cX0_linkTurn 10 = .ok (.getfield 21, 3) := by decide +kernel
theorem dX0_linkTurn_13 : decode cX0_linkTurn 13 = .ok (.iconst 2, 1) := by decide +kernel
theorem dX0_linkTurn_14 : decode cX0_linkTurn 14 = .ok (.iload_n 1, 1) := by decide +kernel
theorem dX0_linkTurn_15 : decode cX0_linkTurn 15 = .ok (.imul, 1) := by decide +kernel
theorem dX0_linkTurn_16 : decode cX0_linkTurn 16 = .ok (.iconst 1, 1) := by decide +kernel
theorem dX0_linkTurn_17 : decode cX0_linkTurn 17 = .ok (.iadd, 1) := by decide +kernel
theorem dX0_linkTurn_18 : decode cX0_linkTurn 18 = .ok (.aaload, 1) := by decide +kernel
theorem dX0_linkTurn_19 : decode cX0_linkTurn 19 = .ok (.astore 4, 2) := by decide +kernel
theorem dX0_linkTurn_21 : decode cX0_linkTurn 21 = .ok (.aload_n 0, 1) := by decide +kernel
theorem dX0_linkTurn_22 : decode cX0_linkTurn 22 = .ok (.getfield 28, 3) := by decide +kernel
theorem dX0_linkTurn_25 : decode cX0_linkTurn 25 = .ok (.aload_n 0, 1) := by decide +kernel
theorem dX0_linkTurn_26 : decode cX0_linkTurn 26 = .ok (.getfield 52, 3) := by decide +kernel
theorem dX0_linkTurn_29 : decode cX0_linkTurn 29 = .ok (.invokestatic 61, 3) := by decide +kernel
theorem dX0_linkTurn_32 : decode cX0_linkTurn 32 = .ok (.iconst 0, 1) := by decide +kernel
theorem dX0_linkTurn_33 : decode cX0_linkTurn 33 = .ok (.istore 5, 2) := by decide +kernel
theorem dX0_linkTurn_35 : decode cX0_linkTurn 35 = .ok (.iload 5, 2) := by decide +kernel
theorem dX0_linkTurn_37 : decode cX0_linkTurn 37 = .ok (.aload_n 0, 1) := by decide +kernel
theorem dX0_linkTurn_38 : decode cX0_linkTurn 38 = .ok (.getfield 55, 3) := by decide +kernel
theorem dX0_linkTurn_41 : decode cX0_linkTurn 41 = .ok (.if_icmp .ge 73, 3) := by decide +kernel
theorem dX0_linkTurn_44 : decode cX0_linkTurn 44 = .ok (.iconst 0, 1) := by decide +kernel
theorem dX0_linkTurn_45 : decode cX0_linkTurn 45 = .ok (.istore 6, 2) := by decide +kernel
theorem dX0_linkTurn_47 : decode cX0_linkTurn 47 = .ok (.iload 6, 2) := by decide +kernel
theorem dX0_linkTurn_49 : decode cX0_linkTurn 49 = .ok (.aload_n 0, 1) := by decide +kernel
theorem dX0_linkTurn_50 : decode cX0_linkTurn 50 = .ok (.getfield 52, 3) := by decide +kernel
theorem dX0_linkTurn_53 : decode cX0_linkTurn 53 = .ok (.if_icmp .ge 25, 3) := by decide +kernel
theorem dX0_linkTurn_56 : decode cX0_linkTurn 56 = .ok (.aload_n 0, 1) := by decide +kernel
theorem dX0_linkTurn_57 : decode cX0_linkTurn 57 = .ok (.getfield 31, 3) := by decide +kernel
theorem dX0_linkTurn_60 : decode cX0_linkTurn 60 = .ok (.iload 6, 2) := by decide +kernel
theorem dX0_linkTurn_62 : decode cX0_linkTurn 62 = .ok (.aload_n 2, 1) := by decide +kernel
theorem dX0_linkTurn_63 : decode cX0_linkTurn 63 = .ok (.aload_n 0, 1) := by decide +kernel
theorem dX0_linkTurn_64 : decode cX0_linkTurn 64 = .ok (.getfield 28, 3) := by decide +kernel
theorem dX0_linkTurn_67 : decode cX0_linkTurn 67 = .ok (.iload 6, 2) := by decide +kernel
theorem dX0_linkTurn_69 : decode cX0_linkTurn 69 = .ok (.iaload, 1) := by decide +kernel
theorem dX0_linkTurn_70 : decode cX0_linkTurn 70 = .ok (.iaload, 1) := by decide +kernel
theorem dX0_linkTurn_71 : decode cX0_linkTurn 71 = .ok (.iastore, 1) := by decide +kernel
theorem dX0_linkTurn_72 : decode cX0_linkTurn 72 = .ok (.iinc 6 1, 3) := by decide +kernel
theorem dX0_linkTurn_75 : decode cX0_linkTurn 75 = .ok (.goto (-28), 3) := by decide +kernel
theorem dX0_linkTurn_78 : decode cX0_linkTurn 78 = .ok (.aload_n 0, 1) := by decide +kernel
theorem dX0_linkTurn_79 : decode cX0_linkTurn 79 = .ok (.getfield 31, 3) := by decide +kernel
theorem dX0_linkTurn_82 : decode cX0_linkTurn 82 = .ok (.aload_n 0, 1) := by decide +kernel
theorem dX0_linkTurn_83 : decode cX0_linkTurn 83 = .ok (.getfield 52, 3) := by decide +kernel
theorem dX0_linkTurn_86 : decode cX0_linkTurn 86 = .ok (.invokestatic 65, 3) := by decide +kernel
theorem dX0_linkTurn_89 : decode cX0_linkTurn 89 = .ok (.istore 6, 2) := by decide +kernel
theorem dX0_linkTurn_91 : decode cX0_linkTurn 91 = .ok (.aload_n 3, 1) := by decide +kernel
theorem dX0_linkTurn_92 : decode cX0_linkTurn 92 = .ok (.iload 5, 2) := by decide +kernel
theorem dX0_linkTurn_94 : decode cX0_linkTurn 94 = .ok (.iload 6, 2) := by decide +kernel
theorem dX0_linkTurn_96 : decode cX0_linkTurn 96 = .ok (.iastore, 1) := by decide +kernel
theorem dX0_linkTurn_97 : decode cX0_linkTurn 97 = .ok (.aload 4, 2) := by decide +kernel
theorem dX0_linkTurn_99 : decode cX0_linkTurn 99 = .ok (.iload 6, 2) := by decide +kernel
theorem dX0_linkTurn_101 : decode cX0_linkTurn 101 = .ok (.iload 5, 2) := by decide +kernel
theorem dX0_linkTurn_103 : decode cX0_linkTurn 103 = .ok (.iastore, 1) := by decide +kernel
theorem dX0_linkTurn_104 : decode cX0_linkTurn 104 = .ok (.aload_n 0, 1) := by decide +kernel
theorem dX0_linkTurn_105 : decode cX0_linkTurn 105 = .ok (.invokevirtual 69, 3) := by decide +kernel
theorem dX0_linkTurn_108 : decode cX0_linkTurn 108 = .ok (.iinc 5 1, 3) := by decide +kernel
theorem dX0_linkTurn_111 : decode cX0_linkTurn 111 = .ok (.goto (-76), 3) := by decide +kernel
theorem dX0_linkTurn_114 : decode cX0_linkTurn 114 = .ok (.aload_n 0, 1) := by decide +kernel
theorem dX0_linkTurn_115 : decode cX0_linkTurn 115 = .ok (.invokevirtual 58, 3) := by decide +kernel
theorem dX0_linkTurn_118 : decode cX0_linkTurn 118 = .ok (.return_, 1) := by decide +kernel
theorem dX0_forgetSearches_0 : decode cX0_forgetSearches 0 = .ok (.aload_n 0, 1) := by decide +kernel
theorem dX0_forgetSearches_1 : decode cX0_forgetSearches 1 = .ok (.getfield 39, 3) := by decide +kernel
theorem dX0_forgetSearches_4 : decode cX0_forgetSearches 4 = .ok (.iconst (-1), 1) := by decide +kernel
theorem dX0_forgetSearches_5 : decode cX0_forgetSearches 5 = .ok (.putfield 72, 3) := by decide +kernel
theorem dX0_forgetSearches_8 : decode cX0_forgetSearches 8 = .ok (.aload_n 0, 1) := by decide +kernel
theorem dX0_forgetSearches_9 : decode cX0_forgetSearches 9 = .ok (.getfield 43, 3) := by decide +kernel
theorem dX0_forgetSearches_12 : decode cX0_forgetSearches 12 = .ok (.iconst (-1), 1) := by decide +kernel
theorem dX0_forgetSearches_13 : decode cX0_forgetSearches 13 = .ok (.putfield 72, 3) := by decide +kernel
theorem dX0_forgetSearches_16 : decode cX0_forgetSearches 16 = .ok (.return_, 1) := by decide +kernel
set_option maxRecDepth 20000 in
theorem ggX0_advanceSpots_X0_swapSpots : GoodIn wsX0_advanceSpots wsX0_swapSpots := goodIn_r _ [7, 2, 8, 9, 10, 11, 12, 13, 14, 15, 16, 17] (by decide +kernel) (by decide +kernel)
set_option maxRecDepth 20000 in
theorem gX0_advanceSpots_X0_swapSpots : GoodIn wsX0_advanceSpots (wsV RX0 75 RX0 yX0_swapSpots wsX0_swapSpots) := goodIn_app (goodIn_of _ (by decide +kernel)) ggX0_advanceSpots_X0_swapSpots
theorem dX0_advanceSpots_0 : decode cX0_advanceSpots 0 = .ok (.aload_n 0, 1) := by decide +kernel
theorem dX0_advanceSpots_1 : decode cX0_advanceSpots 1 = .ok (.getfield 52, 3) := by decide +kernel
theorem dX0_advanceSpots_4 : decode cX0_advanceSpots 4 = .ok (.iconst 2, 1) := by decide +kernel
theorem dX0_advanceSpots_5 : decode cX0_advanceSpots 5 = .ok (.isub, 1) := by decide +kernel
theorem dX0_advanceSpots_6 : decode cX0_advanceSpots 6 = .ok (.istore_n 1, 1) := by decide +kernel
theorem dX0_advanceSpots_7 : decode cX0_advanceSpots 7 = .ok (.iload_n 1, 1) := by decide +kernel
theorem dX0_advanceSpots_8 : decode cX0_advanceSpots 8 = .ok (.ifCond .lt 26, 3) := by decide +kernel
theorem dX0_advanceSpots_11 : decode cX0_advanceSpots 11 = .ok (.aload_n 0, 1) := by decide +kernel
theorem dX0_advanceSpots_12 : decode cX0_advanceSpots 12 = .ok (.getfield 28, 3) := by decide +kernel
theorem dX0_advanceSpots_15 : decode cX0_advanceSpots 15 = .ok (.iload_n 1, 1) := by decide +kernel
theorem dX0_advanceSpots_16 : decode cX0_advanceSpots 16 = .ok (.iaload, 1) := by decide +kernel
theorem dX0_advanceSpots_17 : decode cX0_advanceSpots 17 = .ok (.aload_n 0, 1) := by decide +kernel
theorem dX0_advanceSpots_18 : decode cX0_advanceSpots 18 = .ok (.getfield 28, 3) := by decide +kernel
theorem dX0_advanceSpots_21 : decode cX0_advanceSpots 21 = .ok (.iload_n 1, 1) := by decide +kernel
theorem dX0_advanceSpots_22 : decode cX0_advanceSpots 22 = .ok (.iconst 1, 1) := by decide +kernel
theorem dX0_advanceSpots_23 : decode cX0_advanceSpots 23 = .ok (.iadd, 1) := by decide +kernel
theorem dX0_advanceSpots_24 : decode cX0_advanceSpots 24 = .ok (.iaload, 1) := by decide +kernel
theorem dX0_advanceSpots_25 : decode cX0_advanceSpots 25 = .ok (.if_icmp .le 9, 3) := by decide +kernel
theorem dX0_advanceSpots_28 : decode cX0_advanceSpots 28 = .ok (.iinc 1 (-1), 3) := by decide +kernel
theorem dX0_advanceSpots_31 : decode cX0_advanceSpots 31 = .ok (.goto (-24), 3) := by decide +kernel
theorem dX0_advanceSpots_34 : decode cX0_advanceSpots 34 = .ok (.iload_n 1, 1) := by decide +kernel
theorem dX0_advanceSpots_35 : decode cX0_advanceSpots 35 = .ok (.ifCond .ge 4, 3) := by decide +kernel
theorem dX0_advanceSpots_38 : decode cX0_advanceSpots 38 = .ok (.return_, 1) := by decide +kernel
theorem dX0_advanceSpots_39 : decode cX0_advanceSpots 39 = .ok (.aload_n 0, 1) := by decide +kernel
theorem dX0_advanceSpots_40 : decode cX0_advanceSpots 40 = .ok (.getfield 52, 3) := by decide +kernel
theorem dX0_advanceSpots_43 : decode cX0_advanceSpots 43 = .ok (.iconst 1, 1) := by decide +kernel
theorem dX0_advanceSpots_44 : decode cX0_advanceSpots 44 = .ok (.isub, 1) := by decide +kernel
theorem dX0_advanceSpots_45 : decode cX0_advanceSpots 45 = .ok (.istore_n 2, 1) := by decide +kernel
theorem dX0_advanceSpots_46 : decode cX0_advanceSpots 46 = .ok (.iload_n 2, 1) := by decide +kernel
theorem dX0_advanceSpots_47 : decode cX0_advanceSpots 47 = .ok (.iload_n 1, 1) := by decide +kernel
theorem dX0_advanceSpots_48 : decode cX0_advanceSpots 48 = .ok (.if_icmp .le 24, 3) := by decide +kernel
theorem dX0_advanceSpots_51 : decode cX0_advanceSpots 51 = .ok (.aload_n 0, 1) := by decide +kernel
theorem dX0_advanceSpots_52 : decode cX0_advanceSpots 52 = .ok (.getfield 28, 3) := by decide +kernel
theorem dX0_advanceSpots_55 : decode cX0_advanceSpots 55 = .ok (.iload_n 2, 1) := by decide +kernel
theorem dX0_advanceSpots_56 : decode cX0_advanceSpots 56 = .ok (.iaload, 1) := by decide +kernel
theorem dX0_advanceSpots_57 : decode cX0_advanceSpots 57 = .ok (.aload_n 0, 1) := by decide +kernel
theorem dX0_advanceSpots_58 : decode cX0_advanceSpots 58 = .ok (.getfield 28, 3) := by decide +kernel
theorem dX0_advanceSpots_61 : decode cX0_advanceSpots 61 = .ok (.iload_n 1, 1) := by decide +kernel
theorem dX0_advanceSpots_62 : decode cX0_advanceSpots 62 = .ok (.iaload, 1) := by decide +kernel
theorem dX0_advanceSpots_63 : decode cX0_advanceSpots 63 = .ok (.if_icmp .ge 9, 3) := by decide +kernel
theorem dX0_advanceSpots_66 : decode cX0_advanceSpots 66 = .ok (.iinc 2 (-1), 3) := by decide +kernel
theorem dX0_advanceSpots_69 : decode cX0_advanceSpots 69 = .ok (.goto (-23), 3) := by decide +kernel
theorem dX0_advanceSpots_72 : decode cX0_advanceSpots 72 = .ok (.aload_n 0, 1) := by decide +kernel
theorem dX0_advanceSpots_73 : decode cX0_advanceSpots 73 = .ok (.iload_n 1, 1) := by decide +kernel
theorem dX0_advanceSpots_74 : decode cX0_advanceSpots 74 = .ok (.iload_n 2, 1) := by decide +kernel
theorem dX0_advanceSpots_75 : decode cX0_advanceSpots 75 = .ok (.invokevirtual 75, 3) := by decide +kernel
theorem dX0_advanceSpots_78 : decode cX0_advanceSpots 78 = .ok (.iload_n 1, 1) := by decide +kernel
theorem dX0_advanceSpots_79 : decode cX0_advanceSpots 79 = .ok (.iconst 1, 1) := by decide +kernel
theorem dX0_advanceSpots_80 : decode cX0_advanceSpots 80 = .ok (.iadd, 1) := by decide +kernel
theorem dX0_advanceSpots_81 : decode cX0_advanceSpots 81 = .ok (.istore_n 3, 1) := by decide +kernel
theorem dX0_advanceSpots_82 : decode cX0_advanceSpots 82 = .ok (.aload_n 0, 1) := by decide +kernel
theorem dX0_advanceSpots_83 : decode cX0_advanceSpots 83 = .ok (.getfield 52, 3) := by decide +kernel
theorem dX0_advanceSpots_86 : decode cX0_advanceSpots 86 = .ok (.iconst 1, 1) := by decide +kernel
theorem dX0_advanceSpots_87 : decode cX0_advanceSpots 87 = .ok (.isub, 1) := by decide +kernel
theorem dX0_advanceSpots_88 : decode cX0_advanceSpots 88 = .ok (.istore 4, 2) := by decide +kernel
theorem dX0_advanceSpots_90 : decode cX0_advanceSpots 90 = .ok (.iload_n 3, 1) := by decide +kernel
theorem dX0_advanceSpots_91 : decode cX0_advanceSpots 91 = .ok (.iload 4, 2) := by decide +kernel
theorem dX0_advanceSpots_93 : decode cX0_advanceSpots 93 = .ok (.if_icmp .ge 19, 3) := by decide +kernel
theorem dX0_advanceSpots_96 : decode cX0_advanceSpots 96 = .ok (.aload_n 0, 1) := by decide +kernel
theorem dX0_advanceSpots_97 : decode cX0_advanceSpots 97 = .ok (.iload_n 3, 1) := by decide +kernel
theorem dX0_advanceSpots_98 : decode cX0_advanceSpots 98 = .ok (.iload 4, 2) := by decide +kernel
theorem dX0_advanceSpots_100 : decode cX0_advanceSpots 100 = .ok (.invokevirtual 75, 3) := by decide +kernel
theorem dX0_advanceSpots_103 : decode cX0_advanceSpots 103 = .ok (.iinc 3 1, 3) := by decide +kernel
theorem dX0_advanceSpots_106 : decode cX0_advanceSpots 106 = .ok (.iinc 4 (-1), 3) := by decide +kernel
theorem dX0_advanceSpots_109 : decode cX0_advanceSpots 109 = .ok (.goto (-19), 3) := by decide +kernel
theorem dX0_advanceSpots_112 : decode cX0_advanceSpots 112 = .ok (.return_, 1) := by decide +kernel
theorem dX0_swapSpots_0 : decode cX0_swapSpots 0 = .ok (.aload_n 0, 1) := by decide +kernel
theorem dX0_swapSpots_1 : decode cX0_swapSpots 1 = .ok (.getfield 28, 3) := by decide +kernel
theorem dX0_swapSpots_4 : decode cX0_swapSpots 4 = .ok (.iload_n 1, 1) := by decide +kernel
theorem dX0_swapSpots_5 : decode cX0_swapSpots 5 = .ok (.iaload, 1) := by decide +kernel
theorem dX0_swapSpots_6 : decode cX0_swapSpots 6 = .ok (.istore_n 3, 1) := by decide +kernel
theorem dX0_swapSpots_7 : decode cX0_swapSpots 7 = .ok (.aload_n 0, 1) := by decide +kernel
theorem dX0_swapSpots_8 : decode cX0_swapSpots 8 = .ok (.getfield 28, 3) := by decide +kernel
theorem dX0_swapSpots_11 : decode cX0_swapSpots 11 = .ok (.iload_n 1, 1) := by decide +kernel
theorem dX0_swapSpots_12 : decode cX0_swapSpots 12 = .ok (.aload_n 0, 1) := by decide +kernel
theorem dX0_swapSpots_13 : decode cX0_swapSpots 13 = .ok (.getfield 28, 3) := by decide +kernel
theorem dX0_swapSpots_16 : decode cX0_swapSpots 16 = .ok (.iload_n 2, 1) := by decide +kernel
theorem dX0_swapSpots_17 : decode cX0_swapSpots 17 = .ok (.iaload, 1) := by decide +kernel
theorem dX0_swapSpots_18 : decode cX0_swapSpots 18 = .ok (.iastore, 1) := by decide +kernel
theorem dX0_swapSpots_19 : decode cX0_swapSpots 19 = .ok (.aload_n 0, 1) := by decide +kernel
theorem dX0_swapSpots_20 : decode cX0_swapSpots 20 = .ok (.getfield 28, 3) := by decide +kernel
theorem dX0_swapSpots_23 : decode cX0_swapSpots 23 = .ok (.iload_n 2, 1) := by decide +kernel
theorem dX0_swapSpots_24 : decode cX0_swapSpots 24 = .ok (.iload_n 3, 1) := by decide +kernel
theorem dX0_swapSpots_25 : decode cX0_swapSpots 25 = .ok (.iastore, 1) := by decide +kernel
theorem dX0_swapSpots_26 : decode cX0_swapSpots 26 = .ok (.return_, 1) := by decide +kernel
theorem dX1_init_0 : decode cX1_init 0 = .ok (.aload_n 0, 1) := by decide +kernel
theorem dX1_init_1 : decode cX1_init 1 = .ok (.invokespecial 3, 3) := by decide +kernel
theorem dX1_init_4 : decode cX1_init 4 = .ok (.aload_n 0, 1) := by decide +kernel
theorem dX1_init_5 : decode cX1_init 5 = .ok (.iload_n 1, 1) := by decide +kernel
theorem dX1_init_6 : decode cX1_init 6 = .ok (.newarray .int, 2) := by decide +kernel
theorem dX1_init_8 : decode cX1_init 8 = .ok (.putfield 9, 3) := by decide +kernel
theorem dX1_init_11 : decode cX1_init 11 = .ok (.aload_n 0, 1) := by decide +kernel
theorem dX1_init_12 : decode cX1_init 12 = .ok (.iload_n 1, 1) := by decide +kernel
theorem dX1_init_13 : decode cX1_init 13 = .ok (.newarray .int, 2) := by decide +kernel
theorem dX1_init_15 : decode cX1_init 15 = .ok (.putfield 15, 3) := by decide +kernel
theorem dX1_init_18 : decode cX1_init 18 = .ok (.aload_n 0, 1) := by decide +kernel
theorem dX1_init_19 : decode cX1_init 19 = .ok (.iconst (-1), 1) := by decide +kernel
theorem dX1_init_20 : decode cX1_init 20 = .ok (.putfield 18, 3) := by decide +kernel
theorem dX1_init_23 : decode cX1_init 23 = .ok (.return_, 1) := by decide +kernel
set_option maxRecDepth 20000 in
theorem ggX1_measure_X1_startAt : GoodIn wsX1_measure wsX1_startAt := goodIn_r _ [10, 11, 4, 3, 16, 17, 18, 19] (by decide +kernel) (by decide +kernel)
set_option maxRecDepth 20000 in
theorem gX1_measure_X1_startAt : GoodIn wsX1_measure (wsV RX1 27 RX1 yX1_startAt wsX1_startAt) := goodIn_app (goodIn_of _ (by decide +kernel)) ggX1_measure_X1_startAt
set_option maxRecDepth 20000 in
theorem ggX1_measure_X1_reach : GoodIn wsX1_measure wsX1_reach := goodIn_r _ [15, 11, 4, 3, 16, 17, 18, 19] (by decide +kernel) (by decide +kernel)
set_option maxRecDepth 20000 in
theorem gX1_measure_X1_reach : GoodIn wsX1_measure (wsV RX1 38 RX1 yX1_reach wsX1_reach) := goodIn_app (goodIn_of _ (by decide +kernel)) ggX1_measure_X1_reach
theorem dX1_measure_0 : decode cX1_measure 0 = .ok (.aload_n 0, 1) := by decide +kernel
theorem dX1_measure_1 : decode cX1_measure 1 = .ok (.getfield 18, 3) := by decide +kernel
theorem dX1_measure_4 : decode cX1_measure 4 = .ok (.iload_n 2, 1) := by decide +kernel
theorem dX1_measure_5 : decode cX1_measure 5 = .ok (.if_icmp .ne 4, 3) := by decide +kernel
theorem dX1_measure_8 : decode cX1_measure 8 = .ok (.return_, 1) := by decide +kernel
theorem dX1_measure_9 : decode cX1_measure 9 = .ok (.aload_n 0, 1) := by decide +kernel
theorem dX1_measure_10 : decode cX1_measure 10 = .ok (.iload_n 2, 1) := by decide +kernel
theorem dX1_measure_11 : decode cX1_measure 11 = .ok (.putfield 18, 3) := by decide +kernel
theorem dX1_measure_14 : decode cX1_measure 14 = .ok (.aload_n 0, 1) := by decide +kernel
theorem dX1_measure_15 : decode cX1_measure 15 = .ok (.iconst 0, 1) := by decide +kernel
theorem dX1_measure_16 : decode cX1_measure 16 = .ok (.aload_n 1, 1) := by decide +kernel
theorem dX1_measure_17 : decode cX1_measure 17 = .ok (.getfield 22, 3) := by decide +kernel
theorem dX1_measure_20 : decode cX1_measure 20 = .ok (.invokevirtual 27, 3) := by decide +kernel
theorem dX1_measure_23 : decode cX1_measure 23 = .ok (.iconst 0, 1) := by decide +kernel
theorem dX1_measure_24 : decode cX1_measure 24 = .ok (.istore_n 3, 1) := by decide +kernel
theorem dX1_measure_25 : decode cX1_measure 25 = .ok (.iload_n 3, 1) := by decide +kernel
theorem dX1_measure_26 : decode cX1_measure 26 = .ok (.aload_n 0, 1) := by decide +kernel
theorem dX1_measure_27 : decode cX1_measure 27 = .ok (.getfield 31, 3) := by decide +kernel
theorem dX1_measure_30 : decode cX1_measure 30 = .ok (.if_icmp .ge 69, 3) := by decide +kernel
theorem dX1_measure_33 : decode cX1_measure 33 = .ok (.iload_n 3, 1) := by decide +kernel
theorem dX1_measure_34 : decode cX1_measure 34 = .ok (.aload_n 0, 1) := by decide +kernel
theorem dX1_measure_35 : decode cX1_measure 35 = .ok (.getfield 15, 3) := by decide +kernel
theorem dX1_measure_38 : decode cX1_measure 38 = .ok (.arraylength, 1) := by decide +kernel
theorem dX1_measure_39 : decode cX1_measure 39 = .ok (.if_icmp .ge 60, 3) := by decide +kernel
theorem dX1_measure_42 : decode cX1_measure 42 = .ok (.iconst 0, 1) := by decide +kernel
theorem dX1_measure_43 : decode cX1_measure 43 = .ok (.istore 4, 2) := by decide +kernel
theorem dX1_measure_45 : decode cX1_measure 45 = .ok (.iload 4, 2) := by decide +kernel
theorem dX1_measure_47 : decode cX1_measure 47 = .ok (.bipush 12, 2) := by decide +kernel
theorem dX1_measure_49 : decode cX1_measure 49 = .ok (.if_icmp .ge 44, 3) := by decide +kernel
theorem dX1_measure_52 : decode cX1_measure 52 = .ok (.iload_n 2, 1) := by decide +kernel
theorem dX1_measure_53 : decode cX1_measure 53 = .ok (.iconst 1, 1) := by decide +kernel
theorem dX1_measure_54 : decode cX1_measure 54 = .ok (.iload 4, 2) := by decide +kernel
theorem dX1_measure_56 : decode cX1_measure 56 = .ok (.ishl, 1) := by decide +kernel
theorem dX1_measure_57 : decode cX1_measure 57 = .ok (.iand, 1) := by decide +kernel
theorem dX1_measure_58 : decode cX1_measure 58 = .ok (.ifCond .eq 29, 3) := by decide +kernel
theorem dX1_measure_61 : decode cX1_measure 61 = .ok (.aload_n 0, 1) := by decide +kernel
theorem dX1_measure_62 : decode cX1_measure 62 = .ok (.aload_n 1, 1) := by decide +kernel
theorem dX1_measure_63 : decode cX1_measure 63 = .ok (.getfield 34, 3) := by decide +kernel
theorem dX1_measure_66 : decode cX1_measure 66 = .ok (.iload 4, 2) := by decide +kernel
theorem dX1_measure_68 : decode cX1_measure 68 = .ok (.iconst 1, 1) := by decide +kernel
theorem dX1_measure_69 : decode cX1_measure 69 = .ok (.ixor, 1) := by decide +kernel
theorem dX1_measure_70 : decode cX1_measure 70 = .ok (.aaload, 1) := by decide +kernel
theorem dX1_measure_71 : decode cX1_measure 71 = .ok (.aload_n 0, 1) := by decide +kernel
theorem dX1_measure_72 : decode cX1_measure 72 = .ok (.getfield 15, 3) := by decide +kernel
theorem dX1_measure_75 : decode cX1_measure 75 = .ok (.iload_n 3, 1) := by decide +kernel
theorem dX1_measure_76 : decode cX1_measure 76 = .ok (.iaload, 1) := by decide +kernel
theorem dX1_measure_77 : decode cX1_measure 77 = .ok (.iaload, 1) := by decide +kernel
theorem dX1_measure_78 : decode cX1_measure 78 = .ok (.aload_n 0, 1) := by decide +kernel
theorem dX1_measure_79 : decode cX1_measure 79 = .ok (.getfield 15, 3) := by decide +kernel
theorem dX1_measure_82 : decode cX1_measure 82 = .ok (.iload_n 3, 1) := by decide +kernel
theorem dX1_measure_83 : decode cX1_measure 83 = .ok (.iaload, 1) := by decide +kernel
theorem dX1_measure_84 : decode cX1_measure 84 = .ok (.invokevirtual 38, 3) := by decide +kernel
theorem dX1_measure_87 : decode cX1_measure 87 = .ok (.iinc 4 1, 3) := by decide +kernel
theorem dX1_measure_90 : decode cX1_measure 90 = .ok (.goto (-45), 3) := by decide +kernel
theorem dX1_measure_93 : decode cX1_measure 93 = .ok (.iinc 3 1, 3) := by decide +kernel
theorem dX1_measure_96 : decode cX1_measure 96 = .ok (.goto (-71), 3) := by decide +kernel
theorem dX1_measure_99 : decode cX1_measure 99 = .ok (.return_, 1) := by decide +kernel
set_option maxRecDepth 20000 in
theorem ggX1_findNearest_X1_startAt : GoodIn wsX1_findNearest wsX1_startAt := goodIn_r _ [10, 4, 3, 2, 25, 26, 27, 28] (by decide +kernel) (by decide +kernel)
set_option maxRecDepth 20000 in
theorem gX1_findNearest_X1_startAt : GoodIn wsX1_findNearest (wsV RX1 27 RX1 yX1_startAt wsX1_startAt) := goodIn_app (goodIn_of _ (by decide +kernel)) ggX1_findNearest_X1_startAt
set_option maxRecDepth 20000 in
theorem ggX1_findNearest_X1_reach : GoodIn wsX1_findNearest wsX1_reach := goodIn_r _ [14, 4, 3, 2, 25, 26, 27, 28] (by decide +kernel) (by decide +kernel)
set_option maxRecDepth 20000 in
theorem gX1_findNearest_X1_reach : GoodIn wsX1_findNearest (wsV RX1 38 RX1 yX1_reach wsX1_reach) := goodIn_app (goodIn_of _ (by decide +kernel)) ggX1_findNearest_X1_reach
theorem dX1_findNearest_0 : decode cX1_findNearest 0 = .ok (.aload_n 0, 1) := by decide +kernel
theorem dX1_findNearest_1 : decode cX1_findNearest 1 = .ok (.iload_n 3, 1) := by decide +kernel
theorem dX1_findNearest_2 : decode cX1_findNearest 2 = .ok (.aload_n 1, 1) := by decide +kernel
theorem dX1_findNearest_3 : decode cX1_findNearest 3 = .ok (.getfield 22, 3) := by decide +kernel
theorem dX1_findNearest_6 : decode cX1_findNearest 6 = .ok (.invokevirtual 27, 3) := by decide +kernel
theorem dX1_findNearest_9 : decode cX1_findNearest 9 = .ok (.iconst 0, 1) := by decide +kernel
theorem dX1_findNearest_10 : decode cX1_findNearest 10 = .ok (.istore 5, 2) := by decide +kernel
theorem dX1_findNearest_12 : decode cX1_findNearest 12 = .ok (.iload 5, 2) := by decide +kernel
theorem dX1_findNearest_14 : decode cX1_findNearest 14 = .ok (.aload_n 0, 1) := by decide +kernel
theorem dX1_findNearest_15 : decode cX1_findNearest 15 = .ok (.getfield 31, 3) := by decide +kernel
theorem dX1_findNearest_18 : decode cX1_findNearest 18 = .ok (.if_icmp .ge 95, 3) := by decide +kernel
theorem dX1_findNearest_21 : decode cX1_findNearest 21 = .ok (.iload 5, 2) := by decide +kernel
theorem dX1_findNearest_23 : decode cX1_findNearest 23 = .ok (.aload_n 0, 1) := by decide +kernel
theorem dX1_findNearest_24 : decode cX1_findNearest 24 = .ok (.getfield 15, 3) := by decide +kernel
theorem dX1_findNearest_27 : decode cX1_findNearest 27 = .ok (.arraylength, 1) := by decide +kernel
theorem dX1_findNearest_28 : decode cX1_findNearest 28 = .ok (.if_icmp .ge 85, 3) := by decide +kernel
theorem dX1_findNearest_31 : decode cX1_findNearest 31 = .ok (.aload 4, 2) := by decide +kernel
theorem dX1_findNearest_33 : decode cX1_findNearest 33 = .ok (.getfield 9, 3) := by decide +kernel
theorem dX1_findNearest_36 : decode cX1_findNearest 36 = .ok (.aload_n 0, 1) := by decide +kernel
theorem dX1_findNearest_37 : decode cX1_findNearest 37 = .ok (.getfield 15, 3) := by decide +kernel
theorem dX1_findNearest_40 : decode cX1_findNearest 40 = .ok (.iload 5, 2) := by decide +kernel
theorem dX1_findNearest_42 : decode cX1_findNearest 42 = .ok (.iaload, 1) := by decide +kernel
theorem dX1_findNearest_43 : decode cX1_findNearest 43 = .ok (.iaload, 1) := by decide +kernel
theorem dX1_findNearest_44 : decode cX1_findNearest 44 = .ok (.iconst (-1), 1) := by decide +kernel
theorem dX1_findNearest_45 : decode cX1_findNearest 45 = .ok (.if_icmp .eq 11, 3) := by decide +kernel
theorem dX1_findNearest_48 : decode cX1_findNearest 48 = .ok (.aload_n 0, 1) := by decide +kernel
theorem dX1_findNearest_49 : decode cX1_findNearest 49 = .ok (.getfield 15, 3) := by decide +kernel
theorem dX1_findNearest_52 : decode cX1_findNearest 52 = .ok (.iload 5, 2) := by decide +kernel
theorem dX1_findNearest_54 : decode cX1_findNearest 54 = .ok (.iaload, 1) := by decide +kernel
theorem dX1_findNearest_55 : decode cX1_findNearest 55 = .ok (.ireturn, 1) := by decide +kernel
theorem dX1_findNearest_56 : decode cX1_findNearest 56 = .ok (.iconst 0, 1) := by decide +kernel
theorem dX1_findNearest_57 : decode cX1_findNearest 57 = .ok (.istore 6, 2) := by decide +kernel
theorem dX1_findNearest_59 : decode cX1_findNearest 59 = .ok (.iload 6, 2) := by decide +kernel
theorem dX1_findNearest_61 : decode cX1_findNearest 61 = .ok (.bipush 12, 2) := by decide +kernel
theorem dX1_findNearest_63 : decode cX1_findNearest 63 = .ok (.if_icmp .ge 44, 3) := by decide +kernel
theorem dX1_findNearest_66 : decode cX1_findNearest 66 = .ok (.iload_n 2, 1) := by decide +kernel
theorem dX1_findNearest_67 : decode cX1_findNearest 67 = .ok (.iconst 1, 1) := by decide +kernel
theorem dX1_findNearest_68 : decode cX1_findNearest 68 = .ok (.iload 6, 2) := by decide +kernel
theorem dX1_findNearest_70 : decode cX1_findNearest 70 = .ok (.ishl, 1) := by decide +kernel
theorem dX1_findNearest_71 : decode cX1_findNearest 71 = .ok (.iand, 1) := by decide +kernel
theorem dX1_findNearest_72 : decode cX1_findNearest 72 = .ok (.ifCond .eq 29, 3) := by decide +kernel
theorem dX1_findNearest_75 : decode cX1_findNearest 75 = .ok (.aload_n 0, 1) := by decide +kernel
theorem dX1_findNearest_76 : decode cX1_findNearest 76 = .ok (.aload_n 1, 1) := by decide +kernel
theorem dX1_findNearest_77 : decode cX1_findNearest 77 = .ok (.getfield 34, 3) := by decide +kernel
theorem dX1_findNearest_80 : decode cX1_findNearest 80 = .ok (.iload 6, 2) := by decide +kernel
theorem dX1_findNearest_82 : decode cX1_findNearest 82 = .ok (.aaload, 1) := by decide +kernel
theorem dX1_findNearest_83 : decode cX1_findNearest 83 = .ok (.aload_n 0, 1) := by decide +kernel
theorem dX1_findNearest_84 : decode cX1_findNearest 84 = .ok (.getfield 15, 3) := by decide +kernel
theorem dX1_findNearest_87 : decode cX1_findNearest 87 = .ok (.iload 5, 2) := by decide +kernel
theorem dX1_findNearest_89 : decode cX1_findNearest 89 = .ok (.iaload, 1) := by decide +kernel
theorem dX1_findNearest_90 : decode cX1_findNearest 90 = .ok (.iaload, 1) := by decide +kernel
theorem dX1_findNearest_91 : decode cX1_findNearest 91 = .ok (.aload_n 0, 1) := by decide +kernel
theorem dX1_findNearest_92 : decode cX1_findNearest 92 = .ok (.getfield 15, 3) := by decide +kernel
theorem dX1_findNearest_95 : decode cX1_findNearest 95 = .ok (.iload 5, 2) := by decide +kernel
theorem dX1_findNearest_97 : decode cX1_findNearest 97 = .ok (.iaload, 1) := by decide +kernel
theorem dX1_findNearest_98 : decode cX1_findNearest 98 = .ok (.invokevirtual 38, 3) := by decide +kernel
theorem dX1_findNearest_101 : decode cX1_findNearest 101 = .ok (.iinc 6 1, 3) := by decide +kernel
theorem dX1_findNearest_104 : decode cX1_findNearest 104 = .ok (.goto (-45), 3) := by decide +kernel
theorem dX1_findNearest_107 : decode cX1_findNearest 107 = .ok (.iinc 5 1, 3) := by decide +kernel
theorem dX1_findNearest_110 : decode cX1_findNearest 110 = .ok (.goto (-98), 3) := by decide +kernel
theorem dX1_findNearest_113 : decode cX1_findNearest 113 = .ok (.iconst (-1), 1) := by decide +kernel
theorem dX1_findNearest_114 : decode cX1_findNearest 114 = .ok (.ireturn, 1) := by decide +kernel
theorem dX1_startAt_0 : decode cX1_startAt 0 = .ok (.iconst 0, 1) := by decide +kernel
theorem dX1_startAt_1 : decode cX1_startAt 1 = .ok (.istore_n 3, 1) := by decide +kernel
theorem dX1_startAt_2 : decode cX1_startAt 2 = .ok (.iload_n 3, 1) := by decide +kernel
theorem dX1_startAt_3 : decode cX1_startAt 3 = .ok (.iload_n 2, 1) := by decide +kernel
theorem dX1_startAt_4 : decode cX1_startAt 4 = .ok (.if_icmp .ge 16, 3) := by decide +kernel
theorem dX1_startAt_7 : decode cX1_startAt 7 = .ok (.aload_n 0, 1) := by decide +kernel
theorem dX1_startAt_8 : decode cX1_startAt 8 = .ok (.getfield 9, 3) := by decide +kernel
theorem dX1_startAt_11 : decode cX1_startAt 11 = .ok (.iload_n 3, 1) := by decide +kernel
theorem dX1_startAt_12 : decode cX1_startAt 12 = .ok (.iconst (-1), 1) := by decide +kernel
theorem dX1_startAt_13 : decode cX1_startAt 13 = .ok (.iastore, 1) := by decide +kernel
theorem dX1_startAt_14 : decode cX1_startAt 14 = .ok (.iinc 3 1, 3) := by decide +kernel
theorem dX1_startAt_17 : decode cX1_startAt 17 = .ok (.goto (-15), 3) := by decide +kernel
theorem dX1_startAt_20 : decode cX1_startAt 20 = .ok (.aload_n 0, 1) := by decide +kernel
theorem dX1_startAt_21 : decode cX1_startAt 21 = .ok (.getfield 9, 3) := by decide +kernel
theorem dX1_startAt_24 : decode cX1_startAt 24 = .ok (.iload_n 1, 1) := by decide +kernel
theorem dX1_startAt_25 : decode cX1_startAt 25 = .ok (.iconst 0, 1) := by decide +kernel
theorem dX1_startAt_26 : decode cX1_startAt 26 = .ok (.iastore, 1) := by decide +kernel
theorem dX1_startAt_27 : decode cX1_startAt 27 = .ok (.aload_n 0, 1) := by decide +kernel
theorem dX1_startAt_28 : decode cX1_startAt 28 = .ok (.getfield 15, 3) := by decide +kernel
theorem dX1_startAt_31 : decode cX1_startAt 31 = .ok (.iconst 0, 1) := by decide +kernel
theorem dX1_startAt_32 : decode cX1_startAt 32 = .ok (.iload_n 1, 1) := by decide +kernel
theorem dX1_startAt_33 : decode cX1_startAt 33 = .ok (.iastore, 1) := by decide +kernel
theorem dX1_startAt_34 : decode cX1_startAt 34 = .ok (.aload_n 0, 1) := by decide +kernel
theorem dX1_startAt_35 : decode cX1_startAt 35 = .ok (.iconst 1, 1) := by decide +kernel
theorem dX1_startAt_36 : decode cX1_startAt 36 = .ok (.putfield 31, 3) := by decide +kernel
theorem dX1_startAt_39 : decode cX1_startAt 39 = .ok (.return_, 1) := by decide +kernel
theorem dX1_reach_0 : decode cX1_reach 0 = .ok (.aload_n 0, 1) := by decide +kernel
theorem dX1_reach_1 : decode cX1_reach 1 = .ok (.getfield 9, 3) := by decide +kernel
theorem dX1_reach_4 : decode cX1_reach 4 = .ok (.iload_n 1, 1) := by decide +kernel
theorem dX1_reach_5 : decode cX1_reach 5 = .ok (.iaload, 1) := by decide +kernel
theorem dX1_reach_6 : decode cX1_reach 6 = .ok (.iconst (-1), 1) := by decide +kernel
theorem dX1_reach_7 : decode cX1_reach 7 = .ok (.if_icmp .ne 37, 3) := by decide +kernel
theorem dX1_reach_10 : decode cX1_reach 10 = .ok (.aload_n 0, 1) := by decide +kernel
theorem dX1_reach_11 : decode cX1_reach 11 = .ok (.getfield 9, 3) := by decide +kernel
theorem dX1_reach_14 : decode cX1_reach 14 = .ok (.iload_n 1, 1) := by decide +kernel
theorem dX1_reach_15 : decode cX1_reach 15 = .ok (.aload_n 0, 1) := by decide +kernel
theorem dX1_reach_16 : decode cX1_reach 16 = .ok (.getfield 9, 3) := by decide +kernel
theorem dX1_reach_19 : decode cX1_reach 19 = .ok (.iload_n 2, 1) := by decide +kernel
theorem dX1_reach_20 : decode cX1_reach 20 = .ok (.iaload, 1) := by decide +kernel
theorem dX1_reach_21 : decode cX1_reach 21 = .ok (.iconst 1, 1) := by decide +kernel
theorem dX1_reach_22 : decode cX1_reach 22 = .ok (.iadd, 1) := by decide +kernel
theorem dX1_reach_23 : decode cX1_reach 23 = .ok (.iastore, 1) := by decide +kernel
theorem dX1_reach_24 : decode cX1_reach 24 = .ok (.aload_n 0, 1) := by decide +kernel
theorem dX1_reach_25 : decode cX1_reach 25 = .ok (.getfield 15, 3) := by decide +kernel
theorem dX1_reach_28 : decode cX1_reach 28 = .ok (.aload_n 0, 1) := by decide +kernel
theorem dX1_reach_29 : decode cX1_reach 29 = .ok (.getfield 31, 3) := by decide +kernel
theorem dX1_reach_32 : decode cX1_reach 32 = .ok (.iload_n 1, 1) := by decide +kernel
theorem dX1_reach_33 : decode cX1_reach 33 = .ok (.iastore, 1) := by decide +kernel
theorem dX1_reach_34 : decode cX1_reach 34 = .ok (.aload_n 0, 1) := by decide +kernel
theorem dX1_reach_35 : decode cX1_reach 35 = .ok (.dup, 1) := by decide +kernel
theorem dX1_reach_36 : decode cX1_reach 36 = .ok (.getfield 31, 3) := by decide +kernel
theorem dX1_reach_39 : decode cX1_reach 39 = .ok (.iconst 1, 1) := by decide +kernel
theorem dX1_reach_40 : decode cX1_reach 40 = .ok (.iadd, 1) := by decide +kernel
theorem dX1_reach_41 : decode cX1_reach 41 = .ok (.putfield 31, 3) := by decide +kernel
theorem dX1_reach_44 : decode cX1_reach 44 = .ok (.return_, 1) := by decide +kernel
set_option maxRecDepth 20000 in
theorem ggX1_firstMove_X1_leadsNearer : GoodIn wsX1_firstMove wsX1_leadsNearer := goodIn_r _ [5, 6, 7, 8, 9, 10, 11, 12, 13, 14, 15, 16, 17, 18, 19, 20, 21, 22] (by decide +kernel) (by decide +kernel)
set_option maxRecDepth 20000 in
theorem gX1_firstMove_X1_leadsNearer : GoodIn wsX1_firstMove (wsV RX1 41 RX1 yX1_leadsNearer wsX1_leadsNearer) := goodIn_app (goodIn_of _ (by decide +kernel)) ggX1_firstMove_X1_leadsNearer
theorem dX1_firstMove_0 : decode cX1_firstMove 0 = .ok (.iconst 0, 1) := by decide +kernel
theorem dX1_firstMove_1 : decode cX1_firstMove 1 = .ok (.istore_n 3, 1) := by decide +kernel
theorem dX1_firstMove_2 : decode cX1_firstMove 2 = .ok (.iload_n 3, 1) := by decide +kernel
theorem dX1_firstMove_3 : decode cX1_firstMove 3 = .ok (.bipush 12, 2) := by decide +kernel
theorem dX1_firstMove_5 : decode cX1_firstMove 5 = .ok (.if_icmp .ge 21, 3) := by decide +kernel
theorem dX1_firstMove_8 : decode cX1_firstMove 8 = .ok (.aload_n 0, 1) := by decide +kernel
theorem dX1_firstMove_9 : decode cX1_firstMove 9 = .ok (.aload_n 1, 1) := by decide +kernel
theorem dX1_firstMove_10 : decode cX1_firstMove 10 = .ok (.iload_n 3, 1) := by decide +kernel
theorem dX1_firstMove_11 : decode cX1_firstMove 11 = .ok (.iload_n 2, 1) := by decide +kernel
theorem dX1_firstMove_12 : decode cX1_firstMove 12 = .ok (.invokevirtual 41, 3) := by decide +kernel
theorem dX1_firstMove_15 : decode cX1_firstMove 15 = .ok (.ifCond .eq 5, 3) := by decide +kernel
theorem dX1_firstMove_18 : decode cX1_firstMove 18 = .ok (.iload_n 3, 1) := by decide +kernel
theorem dX1_firstMove_19 : decode cX1_firstMove 19 = .ok (.ireturn, 1) := by decide +kernel
theorem dX1_firstMove_20 : decode cX1_firstMove 20 = .ok (.iinc 3 1, 3) := by decide +kernel
theorem dX1_firstMove_23 : decode cX1_firstMove 23 = .ok (.goto (-21), 3) := by decide +kernel
theorem dX1_firstMove_26 : decode cX1_firstMove 26 = .ok (.iconst (-1), 1) := by decide +kernel
theorem dX1_firstMove_27 : decode cX1_firstMove 27 = .ok (.ireturn, 1) := by decide +kernel
theorem dX1_leadsNearer_0 : decode cX1_leadsNearer 0 = .ok (.aload_n 0, 1) := by decide +kernel
theorem dX1_leadsNearer_1 : decode cX1_leadsNearer 1 = .ok (.getfield 18, 3) := by decide +kernel
theorem dX1_leadsNearer_4 : decode cX1_leadsNearer 4 = .ok (.iconst 1, 1) := by decide +kernel
theorem dX1_leadsNearer_5 : decode cX1_leadsNearer 5 = .ok (.iload_n 2, 1) := by decide +kernel
theorem dX1_leadsNearer_6 : decode cX1_leadsNearer 6 = .ok (.ishl, 1) := by decide +kernel
theorem dX1_leadsNearer_7 : decode cX1_leadsNearer 7 = .ok (.iand, 1) := by decide +kernel
theorem dX1_leadsNearer_8 : decode cX1_leadsNearer 8 = .ok (.ifCond .eq 31, 3) := by decide +kernel
theorem dX1_leadsNearer_11 : decode cX1_leadsNearer 11 = .ok (.aload_n 0, 1) := by decide +kernel
theorem dX1_leadsNearer_12 : decode cX1_leadsNearer 12 = .ok (.getfield 9, 3) := by decide +kernel
theorem dX1_leadsNearer_15 : decode cX1_leadsNearer 15 = .ok (.aload_n 1, 1) := by decide +kernel
theorem dX1_leadsNearer_16 : decode cX1_leadsNearer 16 = .ok (.getfield 34, 3) := by decide +kernel
theorem dX1_leadsNearer_19 : decode cX1_leadsNearer 19 = .ok (.iload_n 2, 1) := by decide +kernel
theorem dX1_leadsNearer_20 : decode cX1_leadsNearer 20 = .ok (.aaload, 1) := by decide +kernel
theorem dX1_leadsNearer_21 : decode cX1_leadsNearer 21 = .ok (.iload_n 3, 1) := by decide +kernel
theorem dX1_leadsNearer_22 : decode cX1_leadsNearer 22 = .ok (.iaload, 1) := by decide +kernel
theorem dX1_leadsNearer_23 : decode cX1_leadsNearer 23 = .ok (.iaload, 1) := by decide +kernel
theorem dX1_leadsNearer_24 : decode cX1_leadsNearer 24 = .ok (.aload_n 0, 1) := by decide +kernel
theorem dX1_leadsNearer_25 : decode cX1_leadsNearer 25 = .ok (.getfield 9, 3) := by decide +kernel
theorem dX1_leadsNearer_28 : decode cX1_leadsNearer 28 = .ok (.iload_n 3, 1) := by decide +kernel
theorem dX1_leadsNearer_29 : decode cX1_leadsNearer 29 = .ok (.iaload, 1) := by decide +kernel
theorem dX1_leadsNearer_30 : decode cX1_leadsNearer 30 = .ok (.iconst 1, 1) := by decide +kernel
theorem dX1_leadsNearer_31 : decode cX1_leadsNearer 31 = .ok (.isub, 1) := by decide +kernel
theorem dX1_leadsNearer_32 : decode cX1_leadsNearer 32 = .ok (.if_icmp .ne 7, 3) := by decide +kernel
theorem dX1_leadsNearer_35 : decode cX1_leadsNearer 35 = .ok (.iconst 1, 1) := by decide +kernel
theorem dX1_leadsNearer_36 : decode cX1_leadsNearer 36 = .ok (.goto 4, 3) := by decide +kernel
theorem dX1_leadsNearer_39 : decode cX1_leadsNearer 39 = .ok (.iconst 0, 1) := by decide +kernel
theorem dX1_leadsNearer_40 : decode cX1_leadsNearer 40 = .ok (.ireturn, 1) := by decide +kernel
set_option maxRecDepth 20000 in
theorem ggX1_countWords_X1_leadsNearer : GoodIn wsX1_countWords wsX1_leadsNearer := goodIn_r _ [9, 10, 11, 4, 22, 23, 24, 25, 12, 13, 14, 15, 16, 17, 18, 19, 20, 21] (by decide +kernel) (by decide +kernel)
set_option maxRecDepth 20000 in
theorem gX1_countWords_X1_leadsNearer : GoodIn wsX1_countWords (wsV RX1 41 RX1 yX1_leadsNearer wsX1_leadsNearer) := goodIn_app (goodIn_of _ (by decide +kernel)) ggX1_countWords_X1_leadsNearer
theorem dX1_countWords_0 : decode cX1_countWords 0 = .ok (.aload_n 1, 1) := by decide +kernel
theorem dX1_countWords_1 : decode cX1_countWords 1 = .ok (.getfield 45, 3) := by decide +kernel
theorem dX1_countWords_4 : decode cX1_countWords 4 = .ok (.iconst 0, 1) := by decide +kernel
theorem dX1_countWords_5 : decode cX1_countWords 5 = .ok (.lconst 1, 1) := by decide +kernel
theorem dX1_countWords_6 : decode cX1_countWords 6 = .ok (.lastore, 1) := by decide +kernel
theorem dX1_countWords_7 : decode cX1_countWords 7 = .ok (.iconst 1, 1) := by decide +kernel
theorem dX1_countWords_8 : decode cX1_countWords 8 = .ok (.istore_n 3, 1) := by decide +kernel
theorem dX1_countWords_9 : decode cX1_countWords 9 = .ok (.iload_n 3, 1) := by decide +kernel
theorem dX1_countWords_10 : decode cX1_countWords 10 = .ok (.aload_n 0, 1) := by decide +kernel
theorem dX1_countWords_11 : decode cX1_countWords 11 = .ok (.getfield 31, 3) := by decide +kernel
theorem dX1_countWords_14 : decode cX1_countWords 14 = .ok (.if_icmp .ge 92, 3) := by decide +kernel
theorem dX1_countWords_17 : decode cX1_countWords 17 = .ok (.aload_n 0, 1) := by decide +kernel
theorem dX1_countWords_18 : decode cX1_countWords 18 = .ok (.getfield 15, 3) := by decide +kernel
theorem dX1_countWords_21 : decode cX1_countWords 21 = .ok (.iload_n 3, 1) := by decide +kernel
theorem dX1_countWords_22 : decode cX1_countWords 22 = .ok (.iaload, 1) := by decide +kernel
theorem dX1_countWords_23 : decode cX1_countWords 23 = .ok (.istore 4, 2) := by decide +kernel
theorem dX1_countWords_25 : decode cX1_countWords 25 = .ok (.aload_n 1, 1) := by decide +kernel
theorem dX1_countWords_26 : decode cX1_countWords 26 = .ok (.getfield 45, 3) := by decide +kernel
theorem dX1_countWords_29 : decode cX1_countWords 29 = .ok (.iload 4, 2) := by decide +kernel
theorem dX1_countWords_31 : decode cX1_countWords 31 = .ok (.lconst 0, 1) := by decide +kernel
theorem dX1_countWords_32 : decode cX1_countWords 32 = .ok (.lastore, 1) := by decide +kernel
theorem dX1_countWords_33 : decode cX1_countWords 33 = .ok (.iconst 0, 1) := by decide +kernel
theorem dX1_countWords_34 : decode cX1_countWords 34 = .ok (.istore 5, 2) := by decide +kernel
theorem dX1_countWords_36 : decode cX1_countWords 36 = .ok (.iload 5, 2) := by decide +kernel
theorem dX1_countWords_38 : decode cX1_countWords 38 = .ok (.bipush 12, 2) := by decide +kernel
theorem dX1_countWords_40 : decode cX1_countWords 40 = .ok (.if_icmp .ge 46, 3) := by decide +kernel
theorem dX1_countWords_43 : decode cX1_countWords 43 = .ok (.aload_n 0, 1) := by decide +kernel
theorem dX1_countWords_44 : decode cX1_countWords 44 = .ok (.aload_n 1, 1) := by decide +kernel
theorem dX1_countWords_45 : decode cX1_countWords 45 = .ok (.iload 5, 2) := by decide +kernel
theorem dX1_countWords_47 : decode cX1_countWords 47 = .ok (.iload 4, 2) := by decide +kernel
theorem dX1_countWords_49 : decode cX1_countWords 49 = .ok (.invokevirtual 41, 3) := by decide +kernel
theorem dX1_countWords_52 : decode cX1_countWords 52 = .ok (.ifCond .eq 28, 3) := by decide +kernel
theorem dX1_countWords_55 : decode cX1_countWords 55 = .ok (.aload_n 1, 1) := by decide +kernel
theorem dX1_countWords_56 : decode cX1_countWords 56 = .ok (.getfield 45, 3) := by decide +kernel
theorem dX1_countWords_59 : decode cX1_countWords 59 = .ok (.iload 4, 2) := by decide +kernel
theorem dX1_countWords_61 : decode cX1_countWords 61 = .ok (.dup2, 1) := by decide +kernel
theorem dX1_countWords_62 : decode cX1_countWords 62 = .ok (.laload, 1) := by decide +kernel
theorem dX1_countWords_63 : decode cX1_countWords 63 = .ok (.aload_n 1, 1) := by decide +kernel
theorem dX1_countWords_64 : decode cX1_countWords 64 = .ok (.getfield 45, 3) := by decide +kernel
theorem dX1_countWords_67 : decode cX1_countWords 67 = .ok (.aload_n 1, 1) := by decide +kernel
theorem dX1_countWords_68 : decode cX1_countWords 68 = .ok (.getfield 34, 3) := by decide +kernel
theorem dX1_countWords_71 : decode cX1_countWords 71 = .ok (.iload 5, 2) := by decide +kernel
theorem dX1_countWords_73 : decode cX1_countWords 73 = .ok (.aaload, 1) := by decide +kernel
theorem dX1_countWords_74 : decode cX1_countWords 74 = .ok (.iload 4, 2) := by decide +kernel
theorem dX1_countWords_76 : decode cX1_countWords 76 = .ok (.iaload, 1) := by decide +kernel
theorem dX1_countWords_77 : decode cX1_countWords 77 = .ok (.laload, 1) := by decide +kernel
theorem dX1_countWords_78 : decode cX1_countWords 78 = .ok (.ladd, 1) := by decide +kernel
theorem dX1_countWords_79 : decode cX1_countWords 79 = .ok (.lastore, 1) := by decide +kernel
theorem dX1_countWords_80 : decode cX1_countWords 80 = .ok (.iinc 5 1, 3) := by decide +kernel
theorem dX1_countWords_83 : decode cX1_countWords 83 = .ok (.goto (-47), 3) := by decide +kernel
theorem dX1_countWords_86 : decode cX1_countWords 86 = .ok (.iload 4, 2) := by decide +kernel
theorem dX1_countWords_88 : decode cX1_countWords 88 = .ok (.iload_n 2, 1) := by decide +kernel
theorem dX1_countWords_89 : decode cX1_countWords 89 = .ok (.if_icmp .ne 11, 3) := by decide +kernel
theorem dX1_countWords_92 : decode cX1_countWords 92 = .ok (.aload_n 1, 1) := by decide +kernel
theorem dX1_countWords_93 : decode cX1_countWords 93 = .ok (.getfield 45, 3) := by decide +kernel
theorem dX1_countWords_96 : decode cX1_countWords 96 = .ok (.iload 4, 2) := by decide +kernel
theorem dX1_countWords_98 : decode cX1_countWords 98 = .ok (.laload, 1) := by decide +kernel
theorem dX1_countWords_99 : decode cX1_countWords 99 = .ok (.lreturn, 1) := by decide +kernel
theorem dX1_countWords_100 : decode cX1_countWords 100 = .ok (.iinc 3 1, 3) := by decide +kernel
theorem dX1_countWords_103 : decode cX1_countWords 103 = .ok (.goto (-94), 3) := by decide +kernel
theorem dX1_countWords_106 : decode cX1_countWords 106 = .ok (.aload_n 1, 1) := by decide +kernel
theorem dX1_countWords_107 : decode cX1_countWords 107 = .ok (.getfield 45, 3) := by decide +kernel
theorem dX1_countWords_110 : decode cX1_countWords 110 = .ok (.iconst 0, 1) := by decide +kernel
theorem dX1_countWords_111 : decode cX1_countWords 111 = .ok (.laload, 1) := by decide +kernel
theorem dX1_countWords_112 : decode cX1_countWords 112 = .ok (.lreturn, 1) := by decide +kernel
theorem dX1_hasBetween_0 : decode cX1_hasBetween 0 = .ok (.iload_n 1, 1) := by decide +kernel
theorem dX1_hasBetween_1 : decode cX1_hasBetween 1 = .ok (.istore_n 3, 1) := by decide +kernel
theorem dX1_hasBetween_2 : decode cX1_hasBetween 2 = .ok (.iload_n 3, 1) := by decide +kernel
theorem dX1_hasBetween_3 : decode cX1_hasBetween 3 = .ok (.iload_n 2, 1) := by decide +kernel
theorem dX1_hasBetween_4 : decode cX1_hasBetween 4 = .ok (.if_icmp .ge 21, 3) := by decide +kernel
theorem dX1_hasBetween_7 : decode cX1_hasBetween 7 = .ok (.aload_n 0, 1) := by decide +kernel
theorem dX1_hasBetween_8 : decode cX1_hasBetween 8 = .ok (.getfield 9, 3) := by decide +kernel
theorem dX1_hasBetween_11 : decode cX1_hasBetween 11 = .ok (.iload_n 3, 1) := by decide +kernel
theorem dX1_hasBetween_12 : decode cX1_hasBetween 12 = .ok (.iaload, 1) := by decide +kernel
theorem dX1_hasBetween_13 : decode cX1_hasBetween 13 = .ok (.iconst (-1), 1) := by decide +kernel
theorem dX1_hasBetween_14 : decode cX1_hasBetween 14 = .ok (.if_icmp .eq 5, 3) := by decide +kernel
theorem dX1_hasBetween_17 : decode cX1_hasBetween 17 = .ok (.iconst 1, 1) := by decide +kernel
theorem dX1_hasBetween_18 : decode cX1_hasBetween 18 = .ok (.ireturn, 1) := by decide +kernel
theorem dX1_hasBetween_19 : decode cX1_hasBetween 19 = .ok (.iinc 3 1, 3) := by decide +kernel
theorem dX1_hasBetween_22 : decode cX1_hasBetween 22 = .ok (.goto (-20), 3) := by decide +kernel
theorem dX1_hasBetween_25 : decode cX1_hasBetween 25 = .ok (.iconst 0, 1) := by decide +kernel
theorem dX1_hasBetween_26 : decode cX1_hasBetween 26 = .ok (.ireturn, 1) := by decide +kernel
theorem dX1_countOfLength_0 : decode cX1_countOfLength 0 = .ok (.iconst 0, 1) := by decide +kernel
theorem dX1_countOfLength_1 : decode cX1_countOfLength 1 = .ok (.istore_n 2, 1) := by decide +kernel
theorem dX1_countOfLength_2 : decode cX1_countOfLength 2 = .ok (.iconst 0, 1) := by decide +kernel
theorem dX1_countOfLength_3 : decode cX1_countOfLength 3 = .ok (.istore_n 3, 1) := by decide +kernel
theorem dX1_countOfLength_4 : decode cX1_countOfLength 4 = .ok (.iload_n 3, 1) := by decide +kernel
theorem dX1_countOfLength_5 : decode cX1_countOfLength 5 = .ok (.aload_n 0, 1) := by decide +kernel
theorem dX1_countOfLength_6 : decode cX1_countOfLength 6 = .ok (.getfield 31, 3) := by decide +kernel
theorem dX1_countOfLength_9 : decode cX1_countOfLength 9 = .ok (.if_icmp .ge 27, 3) := by decide +kernel
theorem dX1_countOfLength_12 : decode cX1_countOfLength 12 = .ok (.aload_n 0, 1) := by decide +kernel
theorem dX1_countOfLength_13 : decode cX1_countOfLength 13 = .ok (.getfield 9, 3) := by decide +kernel
theorem dX1_countOfLength_16 : decode cX1_countOfLength 16 = .ok (.aload_n 0, 1) := by decide +kernel
theorem dX1_countOfLength_17 : decode cX1_countOfLength 17 = .ok (.getfield 15, 3) := by decide +kernel
theorem dX1_countOfLength_20 : decode cX1_countOfLength 20 = .ok (.iload_n 3, 1) := by decide +kernel
theorem dX1_countOfLength_21 : decode cX1_countOfLength 21 = .ok (.iaload, 1) := by decide +kernel
theorem dX1_countOfLength_22 : decode cX1_countOfLength 22 = .ok (.iaload, 1) := by decide +kernel
theorem dX1_countOfLength_23 : decode cX1_countOfLength 23 = .ok (.iload_n 1, 1) := by decide +kernel
theorem dX1_countOfLength_24 : decode cX1_countOfLength 24 = .ok (.if_icmp .ne 6, 3) := by decide +kernel
theorem dX1_countOfLength_27 : decode cX1_countOfLength 27 = .ok (.iinc 2 1, 3) := by decide +kernel
theorem dX1_countOfLength_30 : decode cX1_countOfLength 30 = .ok (.iinc 3 1, 3) := by decide +kernel
theorem dX1_countOfLength_33 : decode cX1_countOfLength 33 = .ok (.goto (-29), 3) := by decide +kernel
theorem dX1_countOfLength_36 : decode cX1_countOfLength 36 = .ok (.iload_n 2, 1) := by decide +kernel
theorem dX1_countOfLength_37 : decode cX1_countOfLength 37 = .ok (.ireturn, 1) := by decide +kernel
theorem dX1_greatestLength_0 : decode cX1_greatestLength 0 = .ok (.aload_n 0, 1) := by decide +kernel
theorem dX1_greatestLength_1 : decode cX1_greatestLength 1 = .ok (.getfield 31, 3) := by decide +kernel
theorem dX1_greatestLength_4 : decode cX1_greatestLength 4 = .ok (.ifCond .le 22, 3) := by decide +kernel
theorem dX1_greatestLength_7 : decode cX1_greatestLength 7 = .ok (.aload_n 0, 1) := by decide +kernel
theorem dX1_greatestLength_8 : decode cX1_greatestLength 8 = .ok (.getfield 9, 3) := by decide +kernel
theorem dX1_greatestLength_11 : decode cX1_greatestLength 11 = .ok (.aload_n 0, 1) := by decide +kernel
theorem dX1_greatestLength_12 : decode cX1_greatestLength 12 = .ok (.getfield 15, 3) := by decide +kernel
theorem dX1_greatestLength_15 : decode cX1_greatestLength 15 = .ok (.aload_n 0, 1) := by decide +kernel
theorem dX1_greatestLength_16 : decode cX1_greatestLength 16 = .ok (.getfield 31, 3) := by decide +kernel
theorem dX1_greatestLength_19 : decode cX1_greatestLength 19 = .ok (.iconst 1, 1) := by decide +kernel
theorem dX1_greatestLength_20 : decode cX1_greatestLength 20 = .ok (.isub, 1) := by decide +kernel
theorem dX1_greatestLength_21 : decode cX1_greatestLength 21 = .ok (.iaload, 1) := by decide +kernel
theorem dX1_greatestLength_22 : decode cX1_greatestLength 22 = .ok (.iaload, 1) := by decide +kernel
theorem dX1_greatestLength_23 : decode cX1_greatestLength 23 = .ok (.goto 4, 3) := by decide +kernel
theorem dX1_greatestLength_26 : decode cX1_greatestLength 26 = .ok (.iconst 0, 1) := by decide +kernel
theorem dX1_greatestLength_27 : decode cX1_greatestLength 27 = .ok (.ireturn, 1) := by decide +kernel
theorem dX1_sumOfLengths_0 : decode cX1_sumOfLengths 0 = .ok (.lconst 0, 1) := by decide +kernel
theorem dX1_sumOfLengths_1 : decode cX1_sumOfLengths 1 = .ok (.lstore_n 1, 1) := by decide +kernel
theorem dX1_sumOfLengths_2 : decode cX1_sumOfLengths 2 = .ok (.iconst 0, 1) := by decide +kernel
theorem dX1_sumOfLengths_3 : decode cX1_sumOfLengths 3 = .ok (.istore_n 3, 1) := by decide +kernel
theorem dX1_sumOfLengths_4 : decode cX1_sumOfLengths 4 = .ok (.iload_n 3, 1) := by decide +kernel
theorem dX1_sumOfLengths_5 : decode cX1_sumOfLengths 5 = .ok (.aload_n 0, 1) := by decide +kernel
theorem dX1_sumOfLengths_6 : decode cX1_sumOfLengths 6 = .ok (.getfield 31, 3) := by decide +kernel
theorem dX1_sumOfLengths_9 : decode cX1_sumOfLengths 9 = .ok (.if_icmp .ge 24, 3) := by decide +kernel
theorem dX1_sumOfLengths_12 : decode cX1_sumOfLengths 12 = .ok (.lload_n 1, 1) := by decide +kernel
theorem dX1_sumOfLengths_13 : decode cX1_sumOfLengths 13 = .ok (.aload_n 0, 1) := by decide +kernel
theorem dX1_sumOfLengths_14 : decode cX1_sumOfLengths 14 = .ok (.getfield 9, 3) := by decide +kernel
theorem dX1_sumOfLengths_17 : decode cX1_sumOfLengths 17 = .ok (.aload_n 0, 1) := by decide +kernel
theorem dX1_sumOfLengths_18 : decode cX1_sumOfLengths 18 = .ok (.getfield 15, 3) := by decide +kernel
theorem dX1_sumOfLengths_21 : decode cX1_sumOfLengths 21 = .ok (.iload_n 3, 1) := by decide +kernel
theorem dX1_sumOfLengths_22 : decode cX1_sumOfLengths 22 = .ok (.iaload, 1) := by decide +kernel
theorem dX1_sumOfLengths_23 : decode cX1_sumOfLengths 23 = .ok (.iaload, 1) := by decide +kernel
theorem dX1_sumOfLengths_24 : decode cX1_sumOfLengths 24 = .ok (.i2l, 1) := by decide +kernel
theorem dX1_sumOfLengths_25 : decode cX1_sumOfLengths 25 = .ok (.ladd, 1) := by decide +kernel
theorem dX1_sumOfLengths_26 : decode cX1_sumOfLengths 26 = .ok (.lstore_n 1, 1) := by decide +kernel
theorem dX1_sumOfLengths_27 : decode cX1_sumOfLengths 27 = .ok (.iinc 3 1, 3) := by decide +kernel
theorem dX1_sumOfLengths_30 : decode cX1_sumOfLengths 30 = .ok (.goto (-26), 3) := by decide +kernel
theorem dX1_sumOfLengths_33 : decode cX1_sumOfLengths 33 = .ok (.lload_n 1, 1) := by decide +kernel
theorem dX1_sumOfLengths_34 : decode cX1_sumOfLengths 34 = .ok (.lreturn, 1) := by decide +kernel
set_option maxRecDepth 20000 in
theorem ggX2_init_X0_init : GoodIn wsX2_init wsX0_init := goodIn_r _ [19, 20, 2, 3, 21, 22, 4, 23, 24, 25, 26, 27, 28, 29, 30, 31, 32, 33, 34, 35, 36, 37, 38, 39, 40, 41, 42, 43, 15, 44, 45, 46, 47, 48, 49, 50, 51, 66, 67, 68, 69, 70, 71, 72, 73, 74, 75, 76, 77, 78, 79] (by decide +kernel) (by decide +kernel)
set_option maxRecDepth 20000 in
theorem gX2_init_X0_init : GoodIn wsX2_init (wsX0_init) := ggX2_init_X0_init
set_option maxRecDepth 20000 in
theorem ggX2_init_X2_setSolved : GoodIn wsX2_init wsX2_setSolved := goodIn_r _ [55] (by decide +kernel) (by decide +kernel)
set_option maxRecDepth 20000 in
theorem gX2_init_X2_setSolved : GoodIn wsX2_init (va_wsS RX2 41 yX2_setSolved wsX2_setSolved) := goodIn_app (goodIn_of _ (by decide +kernel)) ggX2_init_X2_setSolved
theorem dX2_init_0 : decode cX2_init 0 = .ok (.aload_n 0, 1) := by decide +kernel
theorem dX2_init_1 : decode cX2_init 1 = .ok (.invokespecial 1, 3) := by decide +kernel
theorem dX2_init_4 : decode cX2_init 4 = .ok (.aload_n 0, 1) := by decide +kernel
theorem dX2_init_5 : decode cX2_init 5 = .ok (.bipush 8, 2) := by decide +kernel
theorem dX2_init_7 : decode cX2_init 7 = .ok (.newarray .int, 2) := by decide +kernel
theorem dX2_init_9 : decode cX2_init 9 = .ok (.putfield 9, 3) := by decide +kernel
theorem dX2_init_12 : decode cX2_init 12 = .ok (.aload_n 0, 1) := by decide +kernel
theorem dX2_init_13 : decode cX2_init 13 = .ok (.bipush 8, 2) := by decide +kernel
theorem dX2_init_15 : decode cX2_init 15 = .ok (.newarray .int, 2) := by decide +kernel
theorem dX2_init_17 : decode cX2_init 17 = .ok (.putfield 13, 3) := by decide +kernel
theorem dX2_init_20 : decode cX2_init 20 = .ok (.aload_n 0, 1) := by decide +kernel
theorem dX2_init_21 : decode cX2_init 21 = .ok (.bipush 8, 2) := by decide +kernel
theorem dX2_init_23 : decode cX2_init 23 = .ok (.newarray .int, 2) := by decide +kernel
theorem dX2_init_25 : decode cX2_init 25 = .ok (.putfield 16, 3) := by decide +kernel
theorem dX2_init_28 : decode cX2_init 28 = .ok (.aload_n 0, 1) := by decide +kernel
theorem dX2_init_29 : decode cX2_init 29 = .ok (.bipush 12, 2) := by decide +kernel
theorem dX2_init_31 : decode cX2_init 31 = .ok (.bipush 8, 2) := by decide +kernel
theorem dX2_init_33 : decode cX2_init 33 = .ok (.multianewarray 19 2, 4) := by decide +kernel
theorem dX2_init_37 : decode cX2_init 37 = .ok (.putfield 21, 3) := by decide +kernel
theorem dX2_init_40 : decode cX2_init 40 = .ok (.aload_n 0, 1) := by decide +kernel
theorem dX2_init_41 : decode cX2_init 41 = .ok (.bipush 60, 2) := by decide +kernel
theorem dX2_init_43 : decode cX2_init 43 = .ok (.newarray .char, 2) := by decide +kernel
theorem dX2_init_45 : decode cX2_init 45 = .ok (.putfield 24, 3) := by decide +kernel
theorem dX2_init_48 : decode cX2_init 48 = .ok (.aload_n 0, 1) := by decide +kernel
theorem dX2_init_49 : decode cX2_init 49 = .ok (.iconst 5, 1) := by decide +kernel
theorem dX2_init_50 : decode cX2_init 50 = .ok (.putfield 28, 3) := by decide +kernel
theorem dX2_init_53 : decode cX2_init 53 = .ok (.aload_n 0, 1) := by decide +kernel
theorem dX2_init_54 : decode cX2_init 54 = .ok (.new 32, 3) := by decide +kernel
theorem dX2_init_57 : decode cX2_init 57 = .ok (.dup, 1) := by decide +kernel
theorem dX2_init_58 : decode cX2_init 58 = .ok (.iconst 5, 1) := by decide +kernel
theorem dX2_init_59 : decode cX2_init 59 = .ok (.invokespecial 34, 3) := by decide +kernel
theorem dX2_init_62 : decode cX2_init 62 = .ok (.putfield 37, 3) := by decide +kernel
theorem dX2_init_65 : decode cX2_init 65 = .ok (.aload_n 0, 1) := by decide +kernel
theorem dX2_init_66 : decode cX2_init 66 = .ok (.getfield 9, 3) := by decide +kernel
theorem dX2_init_69 : decode cX2_init 69 = .ok (.iconst 5, 1) := by decide +kernel
theorem dX2_init_70 : decode cX2_init 70 = .ok (.invokestatic 41, 3) := by decide +kernel
theorem dX2_init_73 : decode cX2_init 73 = .ok (.return_, 1) := by decide +kernel
set_option maxRecDepth 20000 in
theorem ggX2_begin_X2_setSolved : GoodIn wsX2_begin wsX2_setSolved := goodIn_r _ [16] (by decide +kernel) (by decide +kernel)
set_option maxRecDepth 20000 in
theorem gX2_begin_X2_setSolved : GoodIn wsX2_begin (va_wsS RX2 41 yX2_setSolved wsX2_setSolved) := goodIn_app (goodIn_of _ (by decide +kernel)) ggX2_begin_X2_setSolved
set_option maxRecDepth 20000 in
theorem ggX2_begin_X0_init : GoodIn wsX2_begin wsX0_init := goodIn_r _ [19, 20, 21, 22, 23, 24, 25, 26, 27, 28, 29, 30, 31, 32, 33, 34, 35, 36, 37, 38, 39, 40, 41, 42, 43, 44, 45, 46, 12, 47, 48, 49, 50, 51, 52, 53, 54, 66, 67, 68, 69, 70, 71, 72, 73, 74, 75, 76, 77, 78, 79] (by decide +kernel) (by decide +kernel)
set_option maxRecDepth 20000 in
theorem gX2_begin_X0_init : GoodIn wsX2_begin (wsX0_init) := ggX2_begin_X0_init
set_option maxRecDepth 20000 in
theorem ggX2_begin_X0_setPlaces : GoodIn wsX2_begin wsX0_setPlaces := goodIn_r _ [47, 48, 49, 50, 51, 52, 12, 53, 34, 54, 35, 66, 67, 68, 69, 70, 71, 72, 73, 74, 75, 76, 77, 78, 79] (by decide +kernel) (by decide +kernel)
set_option maxRecDepth 20000 in
theorem gX2_begin_X0_setPlaces : GoodIn wsX2_begin (wsV RX2 64 RX0 yX0_setPlaces wsX0_setPlaces) := goodIn_app (goodIn_of _ (by decide +kernel)) ggX2_begin_X0_setPlaces
theorem dX2_begin_0 : decode cX2_begin 0 = .ok (.iload_n 1, 1) := by decide +kernel
theorem dX2_begin_1 : decode cX2_begin 1 = .ok (.iconst 3, 1) := by decide +kernel
theorem dX2_begin_2 : decode cX2_begin 2 = .ok (.if_icmp .lt 9, 3) := by decide +kernel
theorem dX2_begin_5 : decode cX2_begin 5 = .ok (.iload_n 1, 1) := by decide +kernel
theorem dX2_begin_6 : decode cX2_begin 6 = .ok (.bipush 8, 2) := by decide +kernel
theorem dX2_begin_8 : decode cX2_begin 8 = .ok (.if_icmp .le 13, 3) := by decide +kernel
theorem dX2_begin_11 : decode cX2_begin 11 = .ok (.new 45, 3) := by decide +kernel
theorem dX2_begin_14 : decode cX2_begin 14 = .ok (.dup, 1) := by decide +kernel
theorem dX2_begin_15 : decode cX2_begin 15 = .ok (.ldc 47, 2) := by decide +kernel
theorem dX2_begin_17 : decode cX2_begin 17 = .ok (.invokespecial 49, 3) := by decide +kernel
theorem dX2_begin_20 : decode cX2_begin 20 = .ok (.athrow, 1) := by decide +kernel
theorem dX2_begin_21 : decode cX2_begin 21 = .ok (.aload_n 0, 1) := by decide +kernel
theorem dX2_begin_22 : decode cX2_begin 22 = .ok (.getfield 28, 3) := by decide +kernel
theorem dX2_begin_25 : decode cX2_begin 25 = .ok (.istore_n 2, 1) := by decide +kernel
theorem dX2_begin_26 : decode cX2_begin 26 = .ok (.aload_n 0, 1) := by decide +kernel
theorem dX2_begin_27 : decode cX2_begin 27 = .ok (.iload_n 1, 1) := by decide +kernel
theorem dX2_begin_28 : decode cX2_begin 28 = .ok (.putfield 28, 3) := by decide +kernel
theorem dX2_begin_31 : decode cX2_begin 31 = .ok (.aload_n 0, 1) := by decide +kernel
theorem dX2_begin_32 : decode cX2_begin 32 = .ok (.iconst 0, 1) := by decide +kernel
theorem dX2_begin_33 : decode cX2_begin 33 = .ok (.putfield 52, 3) := by decide +kernel
theorem dX2_begin_36 : decode cX2_begin 36 = .ok (.aload_n 0, 1) := by decide +kernel
theorem dX2_begin_37 : decode cX2_begin 37 = .ok (.iconst 0, 1) := by decide +kernel
theorem dX2_begin_38 : decode cX2_begin 38 = .ok (.putfield 55, 3) := by decide +kernel
theorem dX2_begin_41 : decode cX2_begin 41 = .ok (.aload_n 0, 1) := by decide +kernel
theorem dX2_begin_42 : decode cX2_begin 42 = .ok (.getfield 9, 3) := by decide +kernel
theorem dX2_begin_45 : decode cX2_begin 45 = .ok (.iload_n 1, 1) := by decide +kernel
theorem dX2_begin_46 : decode cX2_begin 46 = .ok (.invokestatic 41, 3) := by decide +kernel
theorem dX2_begin_49 : decode cX2_begin 49 = .ok (.aload_n 0, 1) := by decide +kernel
theorem dX2_begin_50 : decode cX2_begin 50 = .ok (.getfield 37, 3) := by decide +kernel
theorem dX2_begin_53 : decode cX2_begin 53 = .ok (.getfield 58, 3) := by decide +kernel
theorem dX2_begin_56 : decode cX2_begin 56 = .ok (.getstatic 61, 3) := by decide +kernel
theorem dX2_begin_59 : decode cX2_begin 59 = .ok (.iload_n 1, 1) := by decide +kernel
theorem dX2_begin_60 : decode cX2_begin 60 = .ok (.iaload, 1) := by decide +kernel
theorem dX2_begin_61 : decode cX2_begin 61 = .ok (.if_icmp .ge 15, 3) := by decide +kernel
theorem dX2_begin_64 : decode cX2_begin 64 = .ok (.aload_n 0, 1) := by decide +kernel
theorem dX2_begin_65 : decode cX2_begin 65 = .ok (.new 32, 3) := by decide +kernel
theorem dX2_begin_68 : decode cX2_begin 68 = .ok (.dup, 1) := by decide +kernel
theorem dX2_begin_69 : decode cX2_begin 69 = .ok (.iload_n 1, 1) := by decide +kernel
theorem dX2_begin_70 : decode cX2_begin 70 = .ok (.invokespecial 34, 3) := by decide +kernel
theorem dX2_begin_73 : decode cX2_begin 73 = .ok (.putfield 37, 3) := by decide +kernel
theorem dX2_begin_76 : decode cX2_begin 76 = .ok (.aload_n 0, 1) := by decide +kernel
theorem dX2_begin_77 : decode cX2_begin 77 = .ok (.getfield 37, 3) := by decide +kernel
theorem dX2_begin_80 : decode cX2_begin 80 = .ok (.iload_n 1, 1) := by decide +kernel
theorem dX2_begin_81 : decode cX2_begin 81 = .ok (.invokevirtual 64, 3) := by decide +kernel
theorem dX2_begin_84 : decode cX2_begin 84 = .ok (.iload_n 2, 1) := by decide +kernel
theorem dX2_begin_85 : decode cX2_begin 85 = .ok (.ireturn, 1) := by decide +kernel
set_option maxRecDepth 20000 in
theorem ggX2_addTurn_X2_isPlace : GoodIn wsX2_addTurn wsX2_isPlace := goodIn_r _ [13, 8, 64, 65, 66, 67, 68, 69, 70, 71, 72, 73] (by decide +kernel) (by decide +kernel)
set_option maxRecDepth 20000 in
theorem gX2_addTurn_X2_isPlace : GoodIn wsX2_addTurn (wsV RX2 67 RX2 yX2_isPlace wsX2_isPlace) := goodIn_app (goodIn_of _ (by decide +kernel)) ggX2_addTurn_X2_isPlace
set_option maxRecDepth 20000 in
theorem ggX2_addTurn_X2_sourceByKind : GoodIn wsX2_addTurn wsX2_sourceByKind := goodIn_r _ [16] (by decide +kernel) (by decide +kernel)
set_option maxRecDepth 20000 in
theorem gX2_addTurn_X2_sourceByKind : GoodIn wsX2_addTurn (va_wsS RX2 83 yX2_sourceByKind wsX2_sourceByKind) := goodIn_app (goodIn_of _ (by decide +kernel)) ggX2_addTurn_X2_sourceByKind
set_option maxRecDepth 20000 in
theorem ggX2_addTurn_X2_setSource : GoodIn wsX2_addTurn wsX2_setSource := goodIn_r _ [20, 21, 7, 64, 65, 66, 67, 68, 69, 70, 71, 72, 73] (by decide +kernel) (by decide +kernel)
set_option maxRecDepth 20000 in
theorem gX2_addTurn_X2_setSource : GoodIn wsX2_addTurn (wsV RX2 87 RX2 yX2_setSource wsX2_setSource) := goodIn_app (goodIn_of _ (by decide +kernel)) ggX2_addTurn_X2_setSource
set_option maxRecDepth 20000 in
theorem ggX2_addTurn_X2_finishTurn : GoodIn wsX2_addTurn wsX2_finishTurn := goodIn_r _ [25, 26, 7, 21, 27, 28, 29, 30, 31, 32, 33, 34, 35, 36, 37, 38, 12, 39, 40, 41, 42, 43, 44, 45, 46, 47, 48, 49, 50, 51, 52, 53, 54, 55, 56, 57, 58, 59, 60, 61, 62, 63, 64, 65, 66, 67, 68, 69, 70, 71, 72, 73, 74, 75, 76, 77, 78, 79, 80, 81, 82, 83, 84, 85, 86, 87] (by decide +kernel) (by decide +kernel)
set_option maxRecDepth 20000 in
theorem gX2_addTurn_X2_finishTurn : GoodIn wsX2_addTurn (wsV RX2 91 RX2 yX2_finishTurn wsX2_finishTurn) := goodIn_app (goodIn_of _ (by decide +kernel)) ggX2_addTurn_X2_finishTurn
theorem dX2_addTurn_0 : decode cX2_addTurn 0 = .ok (.aload_n 0, 1) := by decide +kernel
theorem dX2_addTurn_1 : decode cX2_addTurn 1 = .ok (.iload_n 2, 1) := by decide +kernel
theorem dX2_addTurn_2 : decode cX2_addTurn 2 = .ok (.invokevirtual 67, 3) := by decide +kernel
theorem dX2_addTurn_5 : decode cX2_addTurn 5 = .ok (.ifCond .eq 11, 3) := by decide +kernel
theorem dX2_addTurn_8 : decode cX2_addTurn 8 = .ok (.aload_n 0, 1) := by decide +kernel
theorem dX2_addTurn_9 : decode cX2_addTurn 9 = .ok (.iload_n 3, 1) := by decide +kernel
theorem dX2_addTurn_10 : decode cX2_addTurn 10 = .ok (.invokevirtual 67, 3) := by decide +kernel
theorem dX2_addTurn_13 : decode cX2_addTurn 13 = .ok (.ifCond .ne 13, 3) := by decide +kernel
theorem dX2_addTurn_16 : decode cX2_addTurn 16 = .ok (.new 71, 3) := by decide +kernel
theorem dX2_addTurn_19 : decode cX2_addTurn 19 = .ok (.dup, 1) := by decide +kernel
theorem dX2_addTurn_20 : decode cX2_addTurn 20 = .ok (.ldc 73, 2) := by decide +kernel
theorem dX2_addTurn_22 : decode cX2_addTurn 22 = .ok (.invokespecial 75, 3) := by decide +kernel
theorem dX2_addTurn_25 : decode cX2_addTurn 25 = .ok (.athrow, 1) := by decide +kernel
theorem dX2_addTurn_26 : decode cX2_addTurn 26 = .ok (.iload_n 1, 1) := by decide +kernel
theorem dX2_addTurn_27 : decode cX2_addTurn 27 = .ok (.ifCond .lt 13, 3) := by decide +kernel
theorem dX2_addTurn_30 : decode cX2_addTurn 30 = .ok (.iload_n 1, 1) := by decide +kernel
theorem dX2_addTurn_31 : decode cX2_addTurn 31 = .ok (.iconst 2, 1) := by decide +kernel
theorem dX2_addTurn_32 : decode cX2_addTurn 32 = .ok (.if_icmp .gt 8, 3) := by decide +kernel
theorem dX2_addTurn_35 : decode cX2_addTurn 35 = .ok (.iload_n 3, 1) := by decide +kernel
theorem dX2_addTurn_36 : decode cX2_addTurn 36 = .ok (.iload_n 2, 1) := by decide +kernel
theorem dX2_addTurn_37 : decode cX2_addTurn 37 = .ok (.if_icmp .gt 13, 3) := by decide +kernel
theorem dX2_addTurn_40 : decode cX2_addTurn 40 = .ok (.new 45, 3) := by decide +kernel
theorem dX2_addTurn_43 : decode cX2_addTurn 43 = .ok (.dup, 1) := by decide +kernel
theorem dX2_addTurn_44 : decode cX2_addTurn 44 = .ok (.ldc 76, 2) := by decide +kernel
theorem dX2_addTurn_46 : decode cX2_addTurn 46 = .ok (.invokespecial 49, 3) := by decide +kernel
theorem dX2_addTurn_49 : decode cX2_addTurn 49 = .ok (.athrow, 1) := by decide +kernel
theorem dX2_addTurn_50 : decode cX2_addTurn 50 = .ok (.aload_n 0, 1) := by decide +kernel
theorem dX2_addTurn_51 : decode cX2_addTurn 51 = .ok (.getfield 52, 3) := by decide +kernel
theorem dX2_addTurn_54 : decode cX2_addTurn 54 = .ok (.bipush 6, 2) := by decide +kernel
theorem dX2_addTurn_56 : decode cX2_addTurn 56 = .ok (.if_icmp .lt 13, 3) := by decide +kernel
theorem dX2_addTurn_59 : decode cX2_addTurn 59 = .ok (.new 78, 3) := by decide +kernel
theorem dX2_addTurn_62 : decode cX2_addTurn 62 = .ok (.dup, 1) := by decide +kernel
theorem dX2_addTurn_63 : decode cX2_addTurn 63 = .ok (.ldc 80, 2) := by decide +kernel
theorem dX2_addTurn_65 : decode cX2_addTurn 65 = .ok (.invokespecial 82, 3) := by decide +kernel
theorem dX2_addTurn_68 : decode cX2_addTurn 68 = .ok (.athrow, 1) := by decide +kernel
theorem dX2_addTurn_69 : decode cX2_addTurn 69 = .ok (.iconst 0, 1) := by decide +kernel
theorem dX2_addTurn_70 : decode cX2_addTurn 70 = .ok (.istore 4, 2) := by decide +kernel
theorem dX2_addTurn_72 : decode cX2_addTurn 72 = .ok (.iload 4, 2) := by decide +kernel
theorem dX2_addTurn_74 : decode cX2_addTurn 74 = .ok (.aload_n 0, 1) := by decide +kernel
theorem dX2_addTurn_75 : decode cX2_addTurn 75 = .ok (.getfield 28, 3) := by decide +kernel
theorem dX2_addTurn_78 : decode cX2_addTurn 78 = .ok (.if_icmp .ge 52, 3) := by decide +kernel
theorem dX2_addTurn_81 : decode cX2_addTurn 81 = .ok (.iload 4, 2) := by decide +kernel
theorem dX2_addTurn_83 : decode cX2_addTurn 83 = .ok (.iload_n 2, 1) := by decide +kernel
theorem dX2_addTurn_84 : decode cX2_addTurn 84 = .ok (.if_icmp .lt 9, 3) := by decide +kernel
theorem dX2_addTurn_87 : decode cX2_addTurn 87 = .ok (.iload 4, 2) := by decide +kernel
theorem dX2_addTurn_89 : decode cX2_addTurn 89 = .ok (.iload_n 3, 1) := by decide +kernel
theorem dX2_addTurn_90 : decode cX2_addTurn 90 = .ok (.if_icmp .le 7, 3) := by decide +kernel
theorem dX2_addTurn_93 : decode cX2_addTurn 93 = .ok (.iconst 1, 1) := by decide +kernel
theorem dX2_addTurn_94 : decode cX2_addTurn 94 = .ok (.goto 4, 3) := by decide +kernel
theorem dX2_addTurn_97 : decode cX2_addTurn 97 = .ok (.iconst 0, 1) := by decide +kernel
theorem dX2_addTurn_98 : decode cX2_addTurn 98 = .ok (.istore 5, 2) := by decide +kernel
theorem dX2_addTurn_100 : decode cX2_addTurn 100 = .ok (.aload_n 0, 1) := by decide +kernel
theorem dX2_addTurn_101 : decode cX2_addTurn 101 = .ok (.iload 4, 2) := by decide +kernel
theorem dX2_addTurn_103 : decode cX2_addTurn 103 = .ok (.iload 5, 2) := by decide +kernel
theorem dX2_addTurn_105 : decode cX2_addTurn 105 = .ok (.ifCond .eq 8, 3) := by decide +kernel
theorem dX2_addTurn_108 : decode cX2_addTurn 108 = .ok (.iload 4, 2) := by decide +kernel
theorem dX2_addTurn_110 : decode cX2_addTurn 110 = .ok (.goto 11, 3) := by decide +kernel
theorem dX2_addTurn_113 : decode cX2_addTurn 113 = .ok (.iload_n 1, 1) := by decide +kernel
theorem dX2_addTurn_114 : decode cX2_addTurn 114 = .ok (.iload_n 2, 1) := by decide +kernel
theorem dX2_addTurn_115 : decode cX2_addTurn 115 = .ok (.iload_n 3, 1) := by decide +kernel
theorem dX2_addTurn_116 : decode cX2_addTurn 116 = .ok (.iload 4, 2) := by decide +kernel
theorem dX2_addTurn_118 : decode cX2_addTurn 118 = .ok (.invokestatic 83, 3) := by decide +kernel
theorem dX2_addTurn_121 : decode cX2_addTurn 121 = .ok (.invokevirtual 87, 3) := by decide +kernel
theorem dX2_addTurn_124 : decode cX2_addTurn 124 = .ok (.iinc 4 1, 3) := by decide +kernel
theorem dX2_addTurn_127 : decode cX2_addTurn 127 = .ok (.goto (-55), 3) := by decide +kernel
theorem dX2_addTurn_130 : decode cX2_addTurn 130 = .ok (.aload_n 0, 1) := by decide +kernel
theorem dX2_addTurn_131 : decode cX2_addTurn 131 = .ok (.invokevirtual 91, 3) := by decide +kernel
theorem dX2_addTurn_134 : decode cX2_addTurn 134 = .ok (.aload_n 0, 1) := by decide +kernel
theorem dX2_addTurn_135 : decode cX2_addTurn 135 = .ok (.getfield 52, 3) := by decide +kernel
theorem dX2_addTurn_138 : decode cX2_addTurn 138 = .ok (.iconst 1, 1) := by decide +kernel
theorem dX2_addTurn_139 : decode cX2_addTurn 139 = .ok (.isub, 1) := by decide +kernel
theorem dX2_addTurn_140 : decode cX2_addTurn 140 = .ok (.ireturn, 1) := by decide +kernel
theorem dX2_dropTurn_0 : decode cX2_dropTurn 0 = .ok (.aload_n 0, 1) := by decide +kernel
theorem dX2_dropTurn_1 : decode cX2_dropTurn 1 = .ok (.getfield 52, 3) := by decide +kernel
theorem dX2_dropTurn_4 : decode cX2_dropTurn 4 = .ok (.ifCond .gt 13, 3) := by decide +kernel
theorem dX2_dropTurn_7 : decode cX2_dropTurn 7 = .ok (.new 78, 3) := by decide +kernel
theorem dX2_dropTurn_10 : decode cX2_dropTurn 10 = .ok (.dup, 1) := by decide +kernel
theorem dX2_dropTurn_11 : decode cX2_dropTurn 11 = .ok (.ldc 94, 2) := by decide +kernel
theorem dX2_dropTurn_13 : decode cX2_dropTurn 13 = .ok (.invokespecial 82, 3) := by decide +kernel
theorem dX2_dropTurn_16 : decode cX2_dropTurn 16 = .ok (.athrow, 1) := by decide +kernel
theorem dX2_dropTurn_17 : decode cX2_dropTurn 17 = .ok (.aload_n 0, 1) := by decide +kernel
theorem dX2_dropTurn_18 : decode cX2_dropTurn 18 = .ok (.dup, 1) := by decide +kernel
theorem dX2_dropTurn_19 : decode cX2_dropTurn 19 = .ok (.getfield 52, 3) := by decide +kernel
theorem dX2_dropTurn_22 : decode cX2_dropTurn 22 = .ok (.iconst 1, 1) := by decide +kernel
theorem dX2_dropTurn_23 : decode cX2_dropTurn 23 = .ok (.isub, 1) := by decide +kernel
theorem dX2_dropTurn_24 : decode cX2_dropTurn 24 = .ok (.putfield 52, 3) := by decide +kernel
theorem dX2_dropTurn_27 : decode cX2_dropTurn 27 = .ok (.aload_n 0, 1) := by decide +kernel
theorem dX2_dropTurn_28 : decode cX2_dropTurn 28 = .ok (.dup, 1) := by decide +kernel
theorem dX2_dropTurn_29 : decode cX2_dropTurn 29 = .ok (.getfield 55, 3) := by decide +kernel
theorem dX2_dropTurn_32 : decode cX2_dropTurn 32 = .ok (.iconst 1, 1) := by decide +kernel
theorem dX2_dropTurn_33 : decode cX2_dropTurn 33 = .ok (.iconst 2, 1) := by decide +kernel
theorem dX2_dropTurn_34 : decode cX2_dropTurn 34 = .ok (.aload_n 0, 1) := by decide +kernel
theorem dX2_dropTurn_35 : decode cX2_dropTurn 35 = .ok (.getfield 52, 3) := by decide +kernel
theorem dX2_dropTurn_38 : decode cX2_dropTurn 38 = .ok (.imul, 1) := by decide +kernel
theorem dX2_dropTurn_39 : decode cX2_dropTurn 39 = .ok (.ishl, 1) := by decide +kernel
theorem dX2_dropTurn_40 : decode cX2_dropTurn 40 = .ok (.iconst 1, 1) := by decide +kernel
theorem dX2_dropTurn_41 : decode cX2_dropTurn 41 = .ok (.isub, 1) := by decide +kernel
theorem dX2_dropTurn_42 : decode cX2_dropTurn 42 = .ok (.iand, 1) := by decide +kernel
theorem dX2_dropTurn_43 : decode cX2_dropTurn 43 = .ok (.putfield 55, 3) := by decide +kernel
theorem dX2_dropTurn_46 : decode cX2_dropTurn 46 = .ok (.aload_n 0, 1) := by decide +kernel
theorem dX2_dropTurn_47 : decode cX2_dropTurn 47 = .ok (.getfield 52, 3) := by decide +kernel
theorem dX2_dropTurn_50 : decode cX2_dropTurn 50 = .ok (.ireturn, 1) := by decide +kernel
theorem dX2_allow_0 : decode cX2_allow 0 = .ok (.iload_n 1, 1) := by decide +kernel
theorem dX2_allow_1 : decode cX2_allow 1 = .ok (.ifCond .lt 14, 3) := by decide +kernel
theorem dX2_allow_4 : decode cX2_allow 4 = .ok (.iload_n 1, 1) := by decide +kernel
theorem dX2_allow_5 : decode cX2_allow 5 = .ok (.iconst 2, 1) := by decide +kernel
theorem dX2_allow_6 : decode cX2_allow 6 = .ok (.aload_n 0, 1) := by decide +kernel
theorem dX2_allow_7 : decode cX2_allow 7 = .ok (.getfield 52, 3) := by decide +kernel
theorem dX2_allow_10 : decode cX2_allow 10 = .ok (.imul, 1) := by decide +kernel
theorem dX2_allow_11 : decode cX2_allow 11 = .ok (.ishr, 1) := by decide +kernel
theorem dX2_allow_12 : decode cX2_allow 12 = .ok (.ifCond .eq 13, 3) := by decide +kernel
theorem dX2_allow_15 : decode cX2_allow 15 = .ok (.new 45, 3) := by decide +kernel
theorem dX2_allow_18 : decode cX2_allow 18 = .ok (.dup, 1) := by decide +kernel
theorem dX2_allow_19 : decode cX2_allow 19 = .ok (.ldc 96, 2) := by decide +kernel
theorem dX2_allow_21 : decode cX2_allow 21 = .ok (.invokespecial 49, 3) := by decide +kernel
theorem dX2_allow_24 : decode cX2_allow 24 = .ok (.athrow, 1) := by decide +kernel
theorem dX2_allow_25 : decode cX2_allow 25 = .ok (.aload_n 0, 1) := by decide +kernel
theorem dX2_allow_26 : decode cX2_allow 26 = .ok (.getfield 55, 3) := by decide +kernel
theorem dX2_allow_29 : decode cX2_allow 29 = .ok (.istore_n 2, 1) := by decide +kernel
theorem dX2_allow_30 : decode cX2_allow 30 = .ok (.aload_n 0, 1) := by decide +kernel
theorem dX2_allow_31 : decode cX2_allow 31 = .ok (.iload_n 1, 1) := by decide +kernel
theorem dX2_allow_32 : decode cX2_allow 32 = .ok (.putfield 55, 3) := by decide +kernel
theorem dX2_allow_35 : decode cX2_allow 35 = .ok (.iload_n 2, 1) := by decide +kernel
theorem dX2_allow_36 : decode cX2_allow 36 = .ok (.ireturn, 1) := by decide +kernel
set_option maxRecDepth 20000 in
theorem ggX2_exchange_X2_isPlace : GoodIn wsX2_exchange wsX2_isPlace := goodIn_r _ [8, 9, 10, 11, 12, 13, 14, 15, 16, 17, 18, 19] (by decide +kernel) (by decide +kernel)
set_option maxRecDepth 20000 in
theorem gX2_exchange_X2_isPlace : GoodIn wsX2_exchange (wsV RX2 67 RX2 yX2_isPlace wsX2_isPlace) := goodIn_app (goodIn_of _ (by decide +kernel)) ggX2_exchange_X2_isPlace
theorem dX2_exchange_0 : decode cX2_exchange 0 = .ok (.aload_n 0, 1) := by decide +kernel
theorem dX2_exchange_1 : decode cX2_exchange 1 = .ok (.iload_n 1, 1) := by decide +kernel
theorem dX2_exchange_2 : decode cX2_exchange 2 = .ok (.invokevirtual 67, 3) := by decide +kernel
theorem dX2_exchange_5 : decode cX2_exchange 5 = .ok (.ifCond .eq 11, 3) := by decide +kernel
theorem dX2_exchange_8 : decode cX2_exchange 8 = .ok (.aload_n 0, 1) := by decide +kernel
theorem dX2_exchange_9 : decode cX2_exchange 9 = .ok (.iload_n 2, 1) := by decide +kernel
theorem dX2_exchange_10 : decode cX2_exchange 10 = .ok (.invokevirtual 67, 3) := by decide +kernel
theorem dX2_exchange_13 : decode cX2_exchange 13 = .ok (.ifCond .ne 13, 3) := by decide +kernel
theorem dX2_exchange_16 : decode cX2_exchange 16 = .ok (.new 71, 3) := by decide +kernel
theorem dX2_exchange_19 : decode cX2_exchange 19 = .ok (.dup, 1) := by decide +kernel
theorem dX2_exchange_20 : decode cX2_exchange 20 = .ok (.ldc 73, 2) := by decide +kernel
theorem dX2_exchange_22 : decode cX2_exchange 22 = .ok (.invokespecial 75, 3) := by decide +kernel
theorem dX2_exchange_25 : decode cX2_exchange 25 = .ok (.athrow, 1) := by decide +kernel
theorem dX2_exchange_26 : decode cX2_exchange 26 = .ok (.aload_n 0, 1) := by decide +kernel
theorem dX2_exchange_27 : decode cX2_exchange 27 = .ok (.getfield 9, 3) := by decide +kernel
theorem dX2_exchange_30 : decode cX2_exchange 30 = .ok (.iload_n 1, 1) := by decide +kernel
theorem dX2_exchange_31 : decode cX2_exchange 31 = .ok (.iaload, 1) := by decide +kernel
theorem dX2_exchange_32 : decode cX2_exchange 32 = .ok (.istore_n 3, 1) := by decide +kernel
theorem dX2_exchange_33 : decode cX2_exchange 33 = .ok (.aload_n 0, 1) := by decide +kernel
theorem dX2_exchange_34 : decode cX2_exchange 34 = .ok (.getfield 9, 3) := by decide +kernel
theorem dX2_exchange_37 : decode cX2_exchange 37 = .ok (.iload_n 1, 1) := by decide +kernel
theorem dX2_exchange_38 : decode cX2_exchange 38 = .ok (.aload_n 0, 1) := by decide +kernel
theorem dX2_exchange_39 : decode cX2_exchange 39 = .ok (.getfield 9, 3) := by decide +kernel
theorem dX2_exchange_42 : decode cX2_exchange 42 = .ok (.iload_n 2, 1) := by decide +kernel
theorem dX2_exchange_43 : decode cX2_exchange 43 = .ok (.iaload, 1) := by decide +kernel
theorem dX2_exchange_44 : decode cX2_exchange 44 = .ok (.iastore, 1) := by decide +kernel
theorem dX2_exchange_45 : decode cX2_exchange 45 = .ok (.aload_n 0, 1) := by decide +kernel
theorem dX2_exchange_46 : decode cX2_exchange 46 = .ok (.getfield 9, 3) := by decide +kernel
theorem dX2_exchange_49 : decode cX2_exchange 49 = .ok (.iload_n 2, 1) := by decide +kernel
theorem dX2_exchange_50 : decode cX2_exchange 50 = .ok (.iload_n 3, 1) := by decide +kernel
theorem dX2_exchange_51 : decode cX2_exchange 51 = .ok (.iastore, 1) := by decide +kernel
theorem dX2_exchange_52 : decode cX2_exchange 52 = .ok (.aload_n 0, 1) := by decide +kernel
theorem dX2_exchange_53 : decode cX2_exchange 53 = .ok (.getfield 9, 3) := by decide +kernel
theorem dX2_exchange_56 : decode cX2_exchange 56 = .ok (.iload_n 1, 1) := by decide +kernel
theorem dX2_exchange_57 : decode cX2_exchange 57 = .ok (.iaload, 1) := by decide +kernel
theorem dX2_exchange_58 : decode cX2_exchange 58 = .ok (.ireturn, 1) := by decide +kernel
set_option maxRecDepth 20000 in
theorem ggX2_make_X2_isMove : GoodIn wsX2_make wsX2_isMove := goodIn_r _ [12, 13, 24, 25, 26, 27, 28, 29, 30, 31, 32, 33] (by decide +kernel) (by decide +kernel)
set_option maxRecDepth 20000 in
theorem gX2_make_X2_isMove : GoodIn wsX2_make (wsV RX2 98 RX2 yX2_isMove wsX2_isMove) := goodIn_app (goodIn_of _ (by decide +kernel)) ggX2_make_X2_isMove
set_option maxRecDepth 20000 in
theorem ggX2_make_X2_isAllowed : GoodIn wsX2_make wsX2_isAllowed := goodIn_r _ [17, 18, 8, 9, 10, 11, 12, 13, 24, 25, 26, 27, 28, 29, 30, 31, 32, 33] (by decide +kernel) (by decide +kernel)
set_option maxRecDepth 20000 in
theorem gX2_make_X2_isAllowed : GoodIn wsX2_make (wsV RX2 103 RX2 yX2_isAllowed wsX2_isAllowed) := goodIn_app (goodIn_of _ (by decide +kernel)) ggX2_make_X2_isAllowed
set_option maxRecDepth 20000 in
theorem ggX2_make_X2_carryOut : GoodIn wsX2_make wsX2_carryOut := goodIn_r _ [22, 6, 23, 7, 24, 25, 26, 27, 28, 29, 30, 31, 32, 33] (by decide +kernel) (by decide +kernel)
set_option maxRecDepth 20000 in
theorem gX2_make_X2_carryOut : GoodIn wsX2_make (wsV RX2 108 RX2 yX2_carryOut wsX2_carryOut) := goodIn_app (goodIn_of _ (by decide +kernel)) ggX2_make_X2_carryOut
theorem dX2_make_0 : decode cX2_make 0 = .ok (.aload_n 0, 1) := by decide +kernel
theorem dX2_make_1 : decode cX2_make 1 = .ok (.iload_n 1, 1) := by decide +kernel
theorem dX2_make_2 : decode cX2_make 2 = .ok (.invokevirtual 98, 3) := by decide +kernel
theorem dX2_make_5 : decode cX2_make 5 = .ok (.ifCond .ne 13, 3) := by decide +kernel
theorem dX2_make_8 : decode cX2_make 8 = .ok (.new 71, 3) := by decide +kernel
theorem dX2_make_11 : decode cX2_make 11 = .ok (.dup, 1) := by decide +kernel
theorem dX2_make_12 : decode cX2_make 12 = .ok (.ldc 101, 2) := by decide +kernel
theorem dX2_make_14 : decode cX2_make 14 = .ok (.invokespecial 75, 3) := by decide +kernel
theorem dX2_make_17 : decode cX2_make 17 = .ok (.athrow, 1) := by decide +kernel
theorem dX2_make_18 : decode cX2_make 18 = .ok (.aload_n 0, 1) := by decide +kernel
theorem dX2_make_19 : decode cX2_make 19 = .ok (.iload_n 1, 1) := by decide +kernel
theorem dX2_make_20 : decode cX2_make 20 = .ok (.invokevirtual 103, 3) := by decide +kernel
theorem dX2_make_23 : decode cX2_make 23 = .ok (.ifCond .ne 13, 3) := by decide +kernel
theorem dX2_make_26 : decode cX2_make 26 = .ok (.new 78, 3) := by decide +kernel
theorem dX2_make_29 : decode cX2_make 29 = .ok (.dup, 1) := by decide +kernel
theorem dX2_make_30 : decode cX2_make 30 = .ok (.ldc 106, 2) := by decide +kernel
theorem dX2_make_32 : decode cX2_make 32 = .ok (.invokespecial 82, 3) := by decide +kernel
theorem dX2_make_35 : decode cX2_make 35 = .ok (.athrow, 1) := by decide +kernel
theorem dX2_make_36 : decode cX2_make 36 = .ok (.aload_n 0, 1) := by decide +kernel
theorem dX2_make_37 : decode cX2_make 37 = .ok (.iload_n 1, 1) := by decide +kernel
theorem dX2_make_38 : decode cX2_make 38 = .ok (.aload_n 0, 1) := by decide +kernel
theorem dX2_make_39 : decode cX2_make 39 = .ok (.getfield 9, 3) := by decide +kernel
theorem dX2_make_42 : decode cX2_make 42 = .ok (.invokevirtual 108, 3) := by decide +kernel
theorem dX2_make_45 : decode cX2_make 45 = .ok (.iconst 0, 1) := by decide +kernel
theorem dX2_make_46 : decode cX2_make 46 = .ok (.istore_n 2, 1) := by decide +kernel
theorem dX2_make_47 : decode cX2_make 47 = .ok (.iconst 0, 1) := by decide +kernel
theorem dX2_make_48 : decode cX2_make 48 = .ok (.istore_n 3, 1) := by decide +kernel
theorem dX2_make_49 : decode cX2_make 49 = .ok (.iload_n 3, 1) := by decide +kernel
theorem dX2_make_50 : decode cX2_make 50 = .ok (.aload_n 0, 1) := by decide +kernel
theorem dX2_make_51 : decode cX2_make 51 = .ok (.getfield 28, 3) := by decide +kernel
theorem dX2_make_54 : decode cX2_make 54 = .ok (.if_icmp .ge 24, 3) := by decide +kernel
theorem dX2_make_57 : decode cX2_make 57 = .ok (.aload_n 0, 1) := by decide +kernel
theorem dX2_make_58 : decode cX2_make 58 = .ok (.getfield 21, 3) := by decide +kernel
theorem dX2_make_61 : decode cX2_make 61 = .ok (.iload_n 1, 1) := by decide +kernel
theorem dX2_make_62 : decode cX2_make 62 = .ok (.aaload, 1) := by decide +kernel
theorem dX2_make_63 : decode cX2_make 63 = .ok (.iload_n 3, 1) := by decide +kernel
theorem dX2_make_64 : decode cX2_make 64 = .ok (.iaload, 1) := by decide +kernel
theorem dX2_make_65 : decode cX2_make 65 = .ok (.iload_n 3, 1) := by decide +kernel
theorem dX2_make_66 : decode cX2_make 66 = .ok (.if_icmp .eq 6, 3) := by decide +kernel
theorem dX2_make_69 : decode cX2_make 69 = .ok (.iinc 2 1, 3) := by decide +kernel
theorem dX2_make_72 : decode cX2_make 72 = .ok (.iinc 3 1, 3) := by decide +kernel
theorem dX2_make_75 : decode cX2_make 75 = .ok (.goto (-26), 3) := by decide +kernel
theorem dX2_make_78 : decode cX2_make 78 = .ok (.iload_n 2, 1) := by decide +kernel
theorem dX2_make_79 : decode cX2_make 79 = .ok (.ireturn, 1) := by decide +kernel
set_option maxRecDepth 20000 in
theorem ggX2_solve_X2_length : GoodIn wsX2_solve wsX2_length := goodIn_r _ [7, 8, 9, 10, 11, 6, 12, 13, 14, 15, 16, 17, 18, 19, 20, 21, 22, 23, 24, 25, 26, 27, 28, 29, 30, 31, 32, 33, 34, 35, 36, 37, 38, 2, 39, 1, 40, 41, 42, 43, 44, 45, 46, 47, 48, 49, 63, 64, 65, 66, 53, 54, 55, 56, 57, 58, 59, 60, 61, 62, 67, 68, 69, 70, 71, 72, 73, 74, 75, 76] (by decide +kernel) (by decide +kernel)
set_option maxRecDepth 20000 in
theorem gX2_solve_X2_length : GoodIn wsX2_solve (wsV RX2 112 RX2 yX2_length wsX2_length) := goodIn_app (goodIn_of _ (by decide +kernel)) ggX2_solve_X2_length
set_option maxRecDepth 20000 in
theorem ggX2_solve_X2_setSolved : GoodIn wsX2_solve wsX2_setSolved := goodIn_r _ [52] (by decide +kernel) (by decide +kernel)
set_option maxRecDepth 20000 in
theorem gX2_solve_X2_setSolved : GoodIn wsX2_solve (va_wsS RX2 41 yX2_setSolved wsX2_setSolved) := goodIn_app (goodIn_of _ (by decide +kernel)) ggX2_solve_X2_setSolved
theorem dX2_solve_0 : decode cX2_solve 0 = .ok (.aload_n 0, 1) := by decide +kernel
theorem dX2_solve_1 : decode cX2_solve 1 = .ok (.invokevirtual 112, 3) := by decide +kernel
theorem dX2_solve_4 : decode cX2_solve 4 = .ok (.istore_n 1, 1) := by decide +kernel
theorem dX2_solve_5 : decode cX2_solve 5 = .ok (.iload_n 1, 1) := by decide +kernel
theorem dX2_solve_6 : decode cX2_solve 6 = .ok (.iconst (-1), 1) := by decide +kernel
theorem dX2_solve_7 : decode cX2_solve 7 = .ok (.if_icmp .eq 14, 3) := by decide +kernel
theorem dX2_solve_10 : decode cX2_solve 10 = .ok (.aload_n 0, 1) := by decide +kernel
theorem dX2_solve_11 : decode cX2_solve 11 = .ok (.getfield 9, 3) := by decide +kernel
theorem dX2_solve_14 : decode cX2_solve 14 = .ok (.aload_n 0, 1) := by decide +kernel
theorem dX2_solve_15 : decode cX2_solve 15 = .ok (.getfield 28, 3) := by decide +kernel
theorem dX2_solve_18 : decode cX2_solve 18 = .ok (.invokestatic 41, 3) := by decide +kernel
theorem dX2_solve_21 : decode cX2_solve 21 = .ok (.iload_n 1, 1) := by decide +kernel
theorem dX2_solve_22 : decode cX2_solve 22 = .ok (.ireturn, 1) := by decide +kernel
theorem dX2_append_0 : decode cX2_append 0 = .ok (.iload_n 1, 1) := by decide +kernel
theorem dX2_append_1 : decode cX2_append 1 = .ok (.bipush 32, 2) := by decide +kernel
theorem dX2_append_3 : decode cX2_append 3 = .ok (.if_icmp .lt 9, 3) := by decide +kernel
theorem dX2_append_6 : decode cX2_append 6 = .ok (.iload_n 1, 1) := by decide +kernel
theorem dX2_append_7 : decode cX2_append 7 = .ok (.bipush 126, 2) := by decide +kernel
theorem dX2_append_9 : decode cX2_append 9 = .ok (.if_icmp .le 13, 3) := by decide +kernel
theorem dX2_append_12 : decode cX2_append 12 = .ok (.new 45, 3) := by decide +kernel
theorem dX2_append_15 : decode cX2_append 15 = .ok (.dup, 1) := by decide +kernel
theorem dX2_append_16 : decode cX2_append 16 = .ok (.ldc 116, 2) := by decide +kernel
theorem dX2_append_18 : decode cX2_append 18 = .ok (.invokespecial 49, 3) := by decide +kernel
theorem dX2_append_21 : decode cX2_append 21 = .ok (.athrow, 1) := by decide +kernel
theorem dX2_append_22 : decode cX2_append 22 = .ok (.aload_n 0, 1) := by decide +kernel
theorem dX2_append_23 : decode cX2_append 23 = .ok (.getfield 118, 3) := by decide +kernel
theorem dX2_append_26 : decode cX2_append 26 = .ok (.bipush 60, 2) := by decide +kernel
theorem dX2_append_28 : decode cX2_append 28 = .ok (.if_icmp .lt 13, 3) := by decide +kernel
theorem dX2_append_31 : decode cX2_append 31 = .ok (.new 78, 3) := by decide +kernel
theorem dX2_append_34 : decode cX2_append 34 = .ok (.dup, 1) := by decide +kernel
theorem dX2_append_35 : decode cX2_append 35 = .ok (.ldc 121, 2) := by decide +kernel
theorem dX2_append_37 : decode cX2_append 37 = .ok (.invokespecial 82, 3) := by decide +kernel
theorem dX2_append_40 : decode cX2_append 40 = .ok (.athrow, 1) := by decide +kernel
theorem dX2_append_41 : decode cX2_append 41 = .ok (.aload_n 0, 1) := by decide +kernel
theorem dX2_append_42 : decode cX2_append 42 = .ok (.getfield 24, 3) := by decide +kernel
theorem dX2_append_45 : decode cX2_append 45 = .ok (.aload_n 0, 1) := by decide +kernel
theorem dX2_append_46 : decode cX2_append 46 = .ok (.getfield 118, 3) := by decide +kernel
theorem dX2_append_49 : decode cX2_append 49 = .ok (.iload_n 1, 1) := by decide +kernel
theorem dX2_append_50 : decode cX2_append 50 = .ok (.i2c, 1) := by decide +kernel
theorem dX2_append_51 : decode cX2_append 51 = .ok (.castore, 1) := by decide +kernel
theorem dX2_append_52 : decode cX2_append 52 = .ok (.aload_n 0, 1) := by decide +kernel
theorem dX2_append_53 : decode cX2_append 53 = .ok (.dup, 1) := by decide +kernel
theorem dX2_append_54 : decode cX2_append 54 = .ok (.getfield 118, 3) := by decide +kernel
theorem dX2_append_57 : decode cX2_append 57 = .ok (.iconst 1, 1) := by decide +kernel
theorem dX2_append_58 : decode cX2_append 58 = .ok (.iadd, 1) := by decide +kernel
theorem dX2_append_59 : decode cX2_append 59 = .ok (.putfield 118, 3) := by decide +kernel
theorem dX2_append_62 : decode cX2_append 62 = .ok (.aload_n 0, 1) := by decide +kernel
theorem dX2_append_63 : decode cX2_append 63 = .ok (.getfield 118, 3) := by decide +kernel
theorem dX2_append_66 : decode cX2_append 66 = .ok (.ireturn, 1) := by decide +kernel
theorem dX2_clearInput_0 : decode cX2_clearInput 0 = .ok (.aload_n 0, 1) := by decide +kernel
theorem dX2_clearInput_1 : decode cX2_clearInput 1 = .ok (.getfield 118, 3) := by decide +kernel
theorem dX2_clearInput_4 : decode cX2_clearInput 4 = .ok (.istore_n 1, 1) := by decide +kernel
theorem dX2_clearInput_5 : decode cX2_clearInput 5 = .ok (.aload_n 0, 1) := by decide +kernel
theorem dX2_clearInput_6 : decode cX2_clearInput 6 = .ok (.iconst 0, 1) := by decide +kernel
theorem dX2_clearInput_7 : decode cX2_clearInput 7 = .ok (.putfield 118, 3) := by decide +kernel
theorem dX2_clearInput_10 : decode cX2_clearInput 10 = .ok (.iload_n 1, 1) := by decide +kernel
theorem dX2_clearInput_11 : decode cX2_clearInput 11 = .ok (.ireturn, 1) := by decide +kernel
set_option maxRecDepth 20000 in
theorem ggX2_firstError_X2_firstWordError : GoodIn wsX2_firstError wsX2_firstWordError := goodIn_r _ [5, 6, 7, 8, 9, 10, 4, 11, 12, 22, 23, 24, 25, 26, 27, 28, 29, 30, 31] (by decide +kernel) (by decide +kernel)
set_option maxRecDepth 20000 in
theorem gX2_firstError_X2_firstWordError : GoodIn wsX2_firstError (wsV RX2 123 RX2 yX2_firstWordError wsX2_firstWordError) := goodIn_app (goodIn_of _ (by decide +kernel)) ggX2_firstError_X2_firstWordError
set_option maxRecDepth 20000 in
theorem ggX2_firstError_X2_firstTurnError : GoodIn wsX2_firstError wsX2_firstTurnError := goodIn_r _ [16, 12, 6, 17, 7, 18, 19, 20, 4, 21, 22, 23, 24, 25, 26, 27, 28, 29, 30, 31] (by decide +kernel) (by decide +kernel)
set_option maxRecDepth 20000 in
theorem gX2_firstError_X2_firstTurnError : GoodIn wsX2_firstError (wsV RX2 126 RX2 yX2_firstTurnError wsX2_firstTurnError) := goodIn_app (goodIn_of _ (by decide +kernel)) ggX2_firstError_X2_firstTurnError
theorem dX2_firstError_0 : decode cX2_firstError 0 = .ok (.iload_n 1, 1) := by decide +kernel
theorem dX2_firstError_1 : decode cX2_firstError 1 = .ok (.ifCond .eq 10, 3) := by decide +kernel
theorem dX2_firstError_4 : decode cX2_firstError 4 = .ok (.aload_n 0, 1) := by decide +kernel
theorem dX2_firstError_5 : decode cX2_firstError 5 = .ok (.invokevirtual 123, 3) := by decide +kernel
theorem dX2_firstError_8 : decode cX2_firstError 8 = .ok (.goto 7, 3) := by decide +kernel
theorem dX2_firstError_11 : decode cX2_firstError 11 = .ok (.aload_n 0, 1) := by decide +kernel
theorem dX2_firstError_12 : decode cX2_firstError 12 = .ok (.invokevirtual 126, 3) := by decide +kernel
theorem dX2_firstError_15 : decode cX2_firstError 15 = .ok (.ireturn, 1) := by decide +kernel
set_option maxRecDepth 20000 in
theorem ggX2_load_X2_isTextOfTurns : GoodIn wsX2_load wsX2_isTextOfTurns := goodIn_r _ [11, 3, 4, 5, 12, 13, 14, 10, 15, 6, 16, 17, 18, 19, 67, 68, 69, 70, 71, 72, 73, 74, 75, 76] (by decide +kernel) (by decide +kernel)
set_option maxRecDepth 20000 in
theorem gX2_load_X2_isTextOfTurns : GoodIn wsX2_load (wsV RX2 129 RX2 yX2_isTextOfTurns wsX2_isTextOfTurns) := goodIn_app (goodIn_of _ (by decide +kernel)) ggX2_load_X2_isTextOfTurns
set_option maxRecDepth 20000 in
theorem ggX2_load_X2_setSource : GoodIn wsX2_load wsX2_setSource := goodIn_r _ [23, 24, 6, 67, 68, 69, 70, 71, 72, 73, 74, 75, 76] (by decide +kernel) (by decide +kernel)
set_option maxRecDepth 20000 in
theorem gX2_load_X2_setSource : GoodIn wsX2_load (wsV RX2 87 RX2 yX2_setSource wsX2_setSource) := goodIn_app (goodIn_of _ (by decide +kernel)) ggX2_load_X2_setSource
set_option maxRecDepth 20000 in
theorem ggX2_load_X2_finishTurn : GoodIn wsX2_load wsX2_finishTurn := goodIn_r _ [28, 29, 6, 24, 30, 31, 32, 33, 34, 35, 36, 37, 38, 39, 40, 41, 10, 42, 43, 44, 45, 46, 47, 48, 49, 50, 51, 52, 53, 54, 55, 56, 57, 58, 59, 60, 61, 62, 63, 64, 65, 66, 67, 68, 69, 70, 71, 72, 73, 74, 75, 76, 77, 78, 79, 80, 81, 82, 83, 84, 85, 86, 87, 88, 89, 90] (by decide +kernel) (by decide +kernel)
set_option maxRecDepth 20000 in
theorem gX2_load_X2_finishTurn : GoodIn wsX2_load (wsV RX2 91 RX2 yX2_finishTurn wsX2_finishTurn) := goodIn_app (goodIn_of _ (by decide +kernel)) ggX2_load_X2_finishTurn
theorem dX2_load_0 : decode cX2_load 0 = .ok (.aload_n 0, 1) := by decide +kernel
theorem dX2_load_1 : decode cX2_load 1 = .ok (.invokevirtual 129, 3) := by decide +kernel
theorem dX2_load_4 : decode cX2_load 4 = .ok (.ifCond .ne 13, 3) := by decide +kernel
theorem dX2_load_7 : decode cX2_load 7 = .ok (.new 45, 3) := by decide +kernel
theorem dX2_load_10 : decode cX2_load 10 = .ok (.dup, 1) := by decide +kernel
theorem dX2_load_11 : decode cX2_load 11 = .ok (.ldc 133, 2) := by decide +kernel
theorem dX2_load_13 : decode cX2_load 13 = .ok (.invokespecial 49, 3) := by decide +kernel
theorem dX2_load_16 : decode cX2_load 16 = .ok (.athrow, 1) := by decide +kernel
theorem dX2_load_17 : decode cX2_load 17 = .ok (.iconst 0, 1) := by decide +kernel
theorem dX2_load_18 : decode cX2_load 18 = .ok (.istore_n 1, 1) := by decide +kernel
theorem dX2_load_19 : decode cX2_load 19 = .ok (.iconst 0, 1) := by decide +kernel
theorem dX2_load_20 : decode cX2_load 20 = .ok (.istore_n 2, 1) := by decide +kernel
theorem dX2_load_21 : decode cX2_load 21 = .ok (.iload_n 2, 1) := by decide +kernel
theorem dX2_load_22 : decode cX2_load 22 = .ok (.aload_n 0, 1) := by decide +kernel
theorem dX2_load_23 : decode cX2_load 23 = .ok (.getfield 118, 3) := by decide +kernel
theorem dX2_load_26 : decode cX2_load 26 = .ok (.if_icmp .ge 54, 3) := by decide +kernel
theorem dX2_load_29 : decode cX2_load 29 = .ok (.aload_n 0, 1) := by decide +kernel
theorem dX2_load_30 : decode cX2_load 30 = .ok (.getfield 24, 3) := by decide +kernel
theorem dX2_load_33 : decode cX2_load 33 = .ok (.iload_n 2, 1) := by decide +kernel
theorem dX2_load_34 : decode cX2_load 34 = .ok (.caload, 1) := by decide +kernel
theorem dX2_load_35 : decode cX2_load 35 = .ok (.bipush 59, 2) := by decide +kernel
theorem dX2_load_37 : decode cX2_load 37 = .ok (.if_icmp .ne 8, 3) := by decide +kernel
theorem dX2_load_40 : decode cX2_load 40 = .ok (.iconst 0, 1) := by decide +kernel
theorem dX2_load_41 : decode cX2_load 41 = .ok (.istore_n 1, 1) := by decide +kernel
theorem dX2_load_42 : decode cX2_load 42 = .ok (.goto 32, 3) := by decide +kernel
theorem dX2_load_45 : decode cX2_load 45 = .ok (.aload_n 0, 1) := by decide +kernel
theorem dX2_load_46 : decode cX2_load 46 = .ok (.iload_n 1, 1) := by decide +kernel
theorem dX2_load_47 : decode cX2_load 47 = .ok (.aload_n 0, 1) := by decide +kernel
theorem dX2_load_48 : decode cX2_load 48 = .ok (.getfield 24, 3) := by decide +kernel
theorem dX2_load_51 : decode cX2_load 51 = .ok (.iload_n 2, 1) := by decide +kernel
theorem dX2_load_52 : decode cX2_load 52 = .ok (.caload, 1) := by decide +kernel
theorem dX2_load_53 : decode cX2_load 53 = .ok (.bipush 48, 2) := by decide +kernel
theorem dX2_load_55 : decode cX2_load 55 = .ok (.isub, 1) := by decide +kernel
theorem dX2_load_56 : decode cX2_load 56 = .ok (.invokevirtual 87, 3) := by decide +kernel
theorem dX2_load_59 : decode cX2_load 59 = .ok (.iinc 1 1, 3) := by decide +kernel
theorem dX2_load_62 : decode cX2_load 62 = .ok (.iload_n 1, 1) := by decide +kernel
theorem dX2_load_63 : decode cX2_load 63 = .ok (.aload_n 0, 1) := by decide +kernel
theorem dX2_load_64 : decode cX2_load 64 = .ok (.getfield 28, 3) := by decide +kernel
theorem dX2_load_67 : decode cX2_load 67 = .ok (.if_icmp .ne 7, 3) := by decide +kernel
theorem dX2_load_70 : decode cX2_load 70 = .ok (.aload_n 0, 1) := by decide +kernel
theorem dX2_load_71 : decode cX2_load 71 = .ok (.invokevirtual 91, 3) := by decide +kernel
theorem dX2_load_74 : decode cX2_load 74 = .ok (.iinc 2 1, 3) := by decide +kernel
theorem dX2_load_77 : decode cX2_load 77 = .ok (.goto (-56), 3) := by decide +kernel
theorem dX2_load_80 : decode cX2_load 80 = .ok (.aload_n 0, 1) := by decide +kernel
theorem dX2_load_81 : decode cX2_load 81 = .ok (.iconst 0, 1) := by decide +kernel
theorem dX2_load_82 : decode cX2_load 82 = .ok (.putfield 118, 3) := by decide +kernel
theorem dX2_load_85 : decode cX2_load 85 = .ok (.aload_n 0, 1) := by decide +kernel
theorem dX2_load_86 : decode cX2_load 86 = .ok (.getfield 52, 3) := by decide +kernel
theorem dX2_load_89 : decode cX2_load 89 = .ok (.ireturn, 1) := by decide +kernel
set_option maxRecDepth 20000 in
theorem ggX2_run_X2_isWord : GoodIn wsX2_run wsX2_isWord := goodIn_r _ [12, 5, 13, 14, 15, 11, 16, 6, 17, 18, 19, 20, 21, 46, 47, 48, 49, 50, 51, 52, 53, 54, 55] (by decide +kernel) (by decide +kernel)
set_option maxRecDepth 20000 in
theorem gX2_run_X2_isWord : GoodIn wsX2_run (wsV RX2 135 RX2 yX2_isWord wsX2_isWord) := goodIn_app (goodIn_of _ (by decide +kernel)) ggX2_run_X2_isWord
set_option maxRecDepth 20000 in
theorem ggX2_run_X2_moveOfLetter : GoodIn wsX2_run wsX2_moveOfLetter := goodIn_r _ [20, 21, 46, 47, 48, 49, 50, 51, 52, 53, 54, 55] (by decide +kernel) (by decide +kernel)
set_option maxRecDepth 20000 in
theorem gX2_run_X2_moveOfLetter : GoodIn wsX2_run (wsV RX2 140 RX2 yX2_moveOfLetter wsX2_moveOfLetter) := goodIn_app (goodIn_of _ (by decide +kernel)) ggX2_run_X2_moveOfLetter
set_option maxRecDepth 20000 in
theorem ggX2_run_X2_isAllowed : GoodIn wsX2_run wsX2_isAllowed := goodIn_r _ [25, 26, 27, 28, 29, 11, 30, 21, 46, 47, 48, 49, 50, 51, 52, 53, 54, 55] (by decide +kernel) (by decide +kernel)
set_option maxRecDepth 20000 in
theorem gX2_run_X2_isAllowed : GoodIn wsX2_run (wsV RX2 103 RX2 yX2_isAllowed wsX2_isAllowed) := goodIn_app (goodIn_of _ (by decide +kernel)) ggX2_run_X2_isAllowed
set_option maxRecDepth 20000 in
theorem ggX2_run_X2_carryOutInput : GoodIn wsX2_run wsX2_carryOutInput := goodIn_r _ [34, 5, 6, 17, 18, 19, 11, 20, 21, 35, 36, 37, 38, 39, 40, 41, 46, 47, 48, 49, 50, 51, 52, 53, 54, 55] (by decide +kernel) (by decide +kernel)
set_option maxRecDepth 20000 in
theorem gX2_run_X2_carryOutInput : GoodIn wsX2_run (wsV RX2 146 RX2 yX2_carryOutInput wsX2_carryOutInput) := goodIn_app (goodIn_of _ (by decide +kernel)) ggX2_run_X2_carryOutInput
set_option maxRecDepth 20000 in
theorem ggX2_run_X2_clearInput : GoodIn wsX2_run wsX2_clearInput := goodIn_r _ [45, 5, 46, 47, 48, 49, 50, 51, 52, 53, 54, 55] (by decide +kernel) (by decide +kernel)
set_option maxRecDepth 20000 in
theorem gX2_run_X2_clearInput : GoodIn wsX2_run (wsV RX2 150 RX2 yX2_clearInput wsX2_clearInput) := goodIn_app (goodIn_of _ (by decide +kernel)) ggX2_run_X2_clearInput
theorem dX2_run_0 : decode cX2_run 0 = .ok (.aload_n 0, 1) := by decide +kernel
theorem dX2_run_1 : decode cX2_run 1 = .ok (.invokevirtual 135, 3) := by decide +kernel
theorem dX2_run_4 : decode cX2_run 4 = .ok (.ifCond .ne 13, 3) := by decide +kernel
theorem dX2_run_7 : decode cX2_run 7 = .ok (.new 45, 3) := by decide +kernel
theorem dX2_run_10 : decode cX2_run 10 = .ok (.dup, 1) := by decide +kernel
theorem dX2_run_11 : decode cX2_run 11 = .ok (.ldc 138, 2) := by decide +kernel
theorem dX2_run_13 : decode cX2_run 13 = .ok (.invokespecial 49, 3) := by decide +kernel
theorem dX2_run_16 : decode cX2_run 16 = .ok (.athrow, 1) := by decide +kernel
theorem dX2_run_17 : decode cX2_run 17 = .ok (.iconst 0, 1) := by decide +kernel
theorem dX2_run_18 : decode cX2_run 18 = .ok (.istore_n 1, 1) := by decide +kernel
theorem dX2_run_19 : decode cX2_run 19 = .ok (.iload_n 1, 1) := by decide +kernel
theorem dX2_run_20 : decode cX2_run 20 = .ok (.aload_n 0, 1) := by decide +kernel
theorem dX2_run_21 : decode cX2_run 21 = .ok (.getfield 118, 3) := by decide +kernel
theorem dX2_run_24 : decode cX2_run 24 = .ok (.if_icmp .ge 36, 3) := by decide +kernel
theorem dX2_run_27 : decode cX2_run 27 = .ok (.aload_n 0, 1) := by decide +kernel
theorem dX2_run_28 : decode cX2_run 28 = .ok (.aload_n 0, 1) := by decide +kernel
theorem dX2_run_29 : decode cX2_run 29 = .ok (.aload_n 0, 1) := by decide +kernel
theorem dX2_run_30 : decode cX2_run 30 = .ok (.getfield 24, 3) := by decide +kernel
theorem dX2_run_33 : decode cX2_run 33 = .ok (.iload_n 1, 1) := by decide +kernel
theorem dX2_run_34 : decode cX2_run 34 = .ok (.caload, 1) := by decide +kernel
theorem dX2_run_35 : decode cX2_run 35 = .ok (.invokevirtual 140, 3) := by decide +kernel
theorem dX2_run_38 : decode cX2_run 38 = .ok (.invokevirtual 103, 3) := by decide +kernel
theorem dX2_run_41 : decode cX2_run 41 = .ok (.ifCond .ne 13, 3) := by decide +kernel
theorem dX2_run_44 : decode cX2_run 44 = .ok (.new 78, 3) := by decide +kernel
theorem dX2_run_47 : decode cX2_run 47 = .ok (.dup, 1) := by decide +kernel
theorem dX2_run_48 : decode cX2_run 48 = .ok (.ldc 144, 2) := by decide +kernel
theorem dX2_run_50 : decode cX2_run 50 = .ok (.invokespecial 82, 3) := by decide +kernel
theorem dX2_run_53 : decode cX2_run 53 = .ok (.athrow, 1) := by decide +kernel
theorem dX2_run_54 : decode cX2_run 54 = .ok (.iinc 1 1, 3) := by decide +kernel
theorem dX2_run_57 : decode cX2_run 57 = .ok (.goto (-38), 3) := by decide +kernel
theorem dX2_run_60 : decode cX2_run 60 = .ok (.aload_n 0, 1) := by decide +kernel
theorem dX2_run_61 : decode cX2_run 61 = .ok (.aload_n 0, 1) := by decide +kernel
theorem dX2_run_62 : decode cX2_run 62 = .ok (.getfield 9, 3) := by decide +kernel
theorem dX2_run_65 : decode cX2_run 65 = .ok (.invokevirtual 146, 3) := by decide +kernel
theorem dX2_run_68 : decode cX2_run 68 = .ok (.aload_n 0, 1) := by decide +kernel
theorem dX2_run_69 : decode cX2_run 69 = .ok (.invokevirtual 150, 3) := by decide +kernel
theorem dX2_run_72 : decode cX2_run 72 = .ok (.ireturn, 1) := by decide +kernel
set_option maxRecDepth 20000 in
theorem ggX2_order_X2_isWord : GoodIn wsX2_order wsX2_isWord := goodIn_r _ [10, 11, 12, 13, 14, 9, 15, 16, 17, 18, 19, 20, 21, 39, 40, 41, 42, 43, 44, 45, 46, 47, 48] (by decide +kernel) (by decide +kernel)
set_option maxRecDepth 20000 in
theorem gX2_order_X2_isWord : GoodIn wsX2_order (wsV RX2 135 RX2 yX2_isWord wsX2_isWord) := goodIn_app (goodIn_of _ (by decide +kernel)) ggX2_order_X2_isWord
set_option maxRecDepth 20000 in
theorem ggX2_order_X2_setSolved : GoodIn wsX2_order wsX2_setSolved := goodIn_r _ [24] (by decide +kernel) (by decide +kernel)
set_option maxRecDepth 20000 in
theorem gX2_order_X2_setSolved : GoodIn wsX2_order (va_wsS RX2 41 yX2_setSolved wsX2_setSolved) := goodIn_app (goodIn_of _ (by decide +kernel)) ggX2_order_X2_setSolved
set_option maxRecDepth 20000 in
theorem ggX2_order_X2_carryOutInput : GoodIn wsX2_order wsX2_carryOutInput := goodIn_r _ [28, 11, 16, 17, 18, 19, 9, 20, 21, 29, 30, 31, 32, 4, 33, 34, 39, 40, 41, 42, 43, 44, 45, 46, 47, 48] (by decide +kernel) (by decide +kernel)
set_option maxRecDepth 20000 in
theorem gX2_order_X2_carryOutInput : GoodIn wsX2_order (wsV RX2 146 RX2 yX2_carryOutInput wsX2_carryOutInput) := goodIn_app (goodIn_of _ (by decide +kernel)) ggX2_order_X2_carryOutInput
set_option maxRecDepth 20000 in
theorem ggX2_order_X2_fixedPlaces : GoodIn wsX2_order wsX2_fixedPlaces := goodIn_r _ [38, 4, 39, 40, 41, 42, 43, 44, 45, 46, 47, 48] (by decide +kernel) (by decide +kernel)
set_option maxRecDepth 20000 in
theorem gX2_order_X2_fixedPlaces : GoodIn wsX2_order (wsV RX2 153 RX2 yX2_fixedPlaces wsX2_fixedPlaces) := goodIn_app (goodIn_of _ (by decide +kernel)) ggX2_order_X2_fixedPlaces
theorem dX2_order_0 : decode cX2_order 0 = .ok (.aload_n 0, 1) := by decide +kernel
theorem dX2_order_1 : decode cX2_order 1 = .ok (.invokevirtual 135, 3) := by decide +kernel
theorem dX2_order_4 : decode cX2_order 4 = .ok (.ifCond .ne 13, 3) := by decide +kernel
theorem dX2_order_7 : decode cX2_order 7 = .ok (.new 45, 3) := by decide +kernel
theorem dX2_order_10 : decode cX2_order 10 = .ok (.dup, 1) := by decide +kernel
theorem dX2_order_11 : decode cX2_order 11 = .ok (.ldc 138, 2) := by decide +kernel
theorem dX2_order_13 : decode cX2_order 13 = .ok (.invokespecial 49, 3) := by decide +kernel
theorem dX2_order_16 : decode cX2_order 16 = .ok (.athrow, 1) := by decide +kernel
theorem dX2_order_17 : decode cX2_order 17 = .ok (.aload_n 0, 1) := by decide +kernel
theorem dX2_order_18 : decode cX2_order 18 = .ok (.getfield 16, 3) := by decide +kernel
theorem dX2_order_21 : decode cX2_order 21 = .ok (.aload_n 0, 1) := by decide +kernel
theorem dX2_order_22 : decode cX2_order 22 = .ok (.getfield 28, 3) := by decide +kernel
theorem dX2_order_25 : decode cX2_order 25 = .ok (.invokestatic 41, 3) := by decide +kernel
theorem dX2_order_28 : decode cX2_order 28 = .ok (.aload_n 0, 1) := by decide +kernel
theorem dX2_order_29 : decode cX2_order 29 = .ok (.aload_n 0, 1) := by decide +kernel
theorem dX2_order_30 : decode cX2_order 30 = .ok (.getfield 16, 3) := by decide +kernel
theorem dX2_order_33 : decode cX2_order 33 = .ok (.invokevirtual 146, 3) := by decide +kernel
theorem dX2_order_36 : decode cX2_order 36 = .ok (.iconst 1, 1) := by decide +kernel
theorem dX2_order_37 : decode cX2_order 37 = .ok (.istore_n 1, 1) := by decide +kernel
theorem dX2_order_38 : decode cX2_order 38 = .ok (.iload_n 1, 1) := by decide +kernel
theorem dX2_order_39 : decode cX2_order 39 = .ok (.getstatic 61, 3) := by decide +kernel
theorem dX2_order_42 : decode cX2_order 42 = .ok (.aload_n 0, 1) := by decide +kernel
theorem dX2_order_43 : decode cX2_order 43 = .ok (.getfield 28, 3) := by decide +kernel
theorem dX2_order_46 : decode cX2_order 46 = .ok (.iaload, 1) := by decide +kernel
theorem dX2_order_47 : decode cX2_order 47 = .ok (.if_icmp .ge 32, 3) := by decide +kernel
theorem dX2_order_50 : decode cX2_order 50 = .ok (.aload_n 0, 1) := by decide +kernel
theorem dX2_order_51 : decode cX2_order 51 = .ok (.aload_n 0, 1) := by decide +kernel
theorem dX2_order_52 : decode cX2_order 52 = .ok (.getfield 16, 3) := by decide +kernel
theorem dX2_order_55 : decode cX2_order 55 = .ok (.invokevirtual 153, 3) := by decide +kernel
theorem dX2_order_58 : decode cX2_order 58 = .ok (.aload_n 0, 1) := by decide +kernel
theorem dX2_order_59 : decode cX2_order 59 = .ok (.getfield 28, 3) := by decide +kernel
theorem dX2_order_62 : decode cX2_order 62 = .ok (.if_icmp .ge 17, 3) := by decide +kernel
theorem dX2_order_65 : decode cX2_order 65 = .ok (.aload_n 0, 1) := by decide +kernel
theorem dX2_order_66 : decode cX2_order 66 = .ok (.aload_n 0, 1) := by decide +kernel
theorem dX2_order_67 : decode cX2_order 67 = .ok (.getfield 16, 3) := by decide +kernel
theorem dX2_order_70 : decode cX2_order 70 = .ok (.invokevirtual 146, 3) := by decide +kernel
theorem dX2_order_73 : decode cX2_order 73 = .ok (.iinc 1 1, 3) := by decide +kernel
theorem dX2_order_76 : decode cX2_order 76 = .ok (.goto (-38), 3) := by decide +kernel
theorem dX2_order_79 : decode cX2_order 79 = .ok (.iload_n 1, 1) := by decide +kernel
theorem dX2_order_80 : decode cX2_order 80 = .ok (.ireturn, 1) := by decide +kernel
set_option maxRecDepth 20000 in
theorem ggX2_group_X2_solutions : GoodIn wsX2_group wsX2_solutions := goodIn_r _ [8, 9, 10, 11, 12, 13, 14, 15, 16, 17, 18, 19, 20, 21, 22, 23, 24, 25, 26, 27, 28, 29, 30, 70, 71, 72, 73, 74, 75, 76, 77, 78, 79, 80, 81, 82, 83, 84, 85, 86, 87, 88, 89, 66, 67, 68, 69] (by decide +kernel) (by decide +kernel)
set_option maxRecDepth 20000 in
theorem gX2_group_X2_solutions : GoodIn wsX2_group (wsV RX2 159 RX2 yX2_solutions wsX2_solutions) := goodIn_app (goodIn_of _ (by decide +kernel)) ggX2_group_X2_solutions
set_option maxRecDepth 20000 in
theorem ggX2_group_X2_countOrbits : GoodIn wsX2_group wsX2_countOrbits := goodIn_r _ [34, 35, 36, 37, 38, 7, 39, 40, 41, 42, 43, 44, 11, 45, 46, 47, 48, 49, 50, 51, 52, 53, 70, 71, 72, 73, 74, 75, 76, 77, 78, 79] (by decide +kernel) (by decide +kernel)
set_option maxRecDepth 20000 in
theorem gX2_group_X2_countOrbits : GoodIn wsX2_group (wsV RX2 168 RX2 yX2_countOrbits wsX2_countOrbits) := goodIn_app (goodIn_of _ (by decide +kernel)) ggX2_group_X2_countOrbits
set_option maxRecDepth 20000 in
theorem ggX2_group_X1_greatestLength : GoodIn wsX2_group wsX1_greatestLength := goodIn_r _ [57, 19, 26, 20, 66, 67, 68, 69] (by decide +kernel) (by decide +kernel)
set_option maxRecDepth 20000 in
theorem gX2_group_X1_greatestLength : GoodIn wsX2_group (wsV RX2 171 RX1 yX1_greatestLength wsX1_greatestLength) := goodIn_app (goodIn_of _ (by decide +kernel)) ggX2_group_X1_greatestLength
set_option maxRecDepth 20000 in
theorem ggX2_group_X2_countEvenArrangements : GoodIn wsX2_group wsX2_countEvenArrangements := goodIn_r _ [61, 3, 40, 53, 4, 5, 6, 7, 8, 9, 10, 11, 12, 13, 14, 15, 16, 17, 18, 19, 20, 21, 22, 23, 24, 25, 26, 27, 28, 29, 30, 41, 42, 43, 44, 45, 46, 47, 48, 62, 63, 64, 65, 35, 66, 67, 68, 69, 70, 71, 72, 73, 74, 75, 76, 77, 78, 79, 80, 81, 82, 83, 84, 85, 86, 87, 88, 89] (by decide +kernel) (by decide +kernel)
set_option maxRecDepth 20000 in
theorem gX2_group_X2_countEvenArrangements : GoodIn wsX2_group (wsV RX2 174 RX2 yX2_countEvenArrangements wsX2_countEvenArrangements) := goodIn_app (goodIn_of _ (by decide +kernel)) ggX2_group_X2_countEvenArrangements
theorem dX2_group_0 : decode cX2_group 0 = .ok (.iload_n 1, 1) := by decide +kernel
theorem dX2_group_1 : decode cX2_group 1 = .ok (.ifCond .lt 8, 3) := by decide +kernel
theorem dX2_group_4 : decode cX2_group 4 = .ok (.iload_n 1, 1) := by decide +kernel
theorem dX2_group_5 : decode cX2_group 5 = .ok (.iconst 3, 1) := by decide +kernel
theorem dX2_group_6 : decode cX2_group 6 = .ok (.if_icmp .le 13, 3) := by decide +kernel
theorem dX2_group_9 : decode cX2_group 9 = .ok (.new 45, 3) := by decide +kernel
theorem dX2_group_12 : decode cX2_group 12 = .ok (.dup, 1) := by decide +kernel
theorem dX2_group_13 : decode cX2_group 13 = .ok (.ldc 157, 2) := by decide +kernel
theorem dX2_group_15 : decode cX2_group 15 = .ok (.invokespecial 49, 3) := by decide +kernel
theorem dX2_group_18 : decode cX2_group 18 = .ok (.athrow, 1) := by decide +kernel
theorem dX2_group_19 : decode cX2_group 19 = .ok (.iload_n 1, 1) := by decide +kernel
theorem dX2_group_20 : decode cX2_group 20 = .ok (.ifCond .ne 11, 3) := by decide +kernel
theorem dX2_group_23 : decode cX2_group 23 = .ok (.aload_n 0, 1) := by decide +kernel
theorem dX2_group_24 : decode cX2_group 24 = .ok (.invokevirtual 159, 3) := by decide +kernel
theorem dX2_group_27 : decode cX2_group 27 = .ok (.getfield 163, 3) := by decide +kernel
theorem dX2_group_30 : decode cX2_group 30 = .ok (.ireturn, 1) := by decide +kernel
theorem dX2_group_31 : decode cX2_group 31 = .ok (.iload_n 1, 1) := by decide +kernel
theorem dX2_group_32 : decode cX2_group 32 = .ok (.iconst 1, 1) := by decide +kernel
theorem dX2_group_33 : decode cX2_group 33 = .ok (.if_icmp .ne 8, 3) := by decide +kernel
theorem dX2_group_36 : decode cX2_group 36 = .ok (.aload_n 0, 1) := by decide +kernel
theorem dX2_group_37 : decode cX2_group 37 = .ok (.invokevirtual 168, 3) := by decide +kernel
theorem dX2_group_40 : decode cX2_group 40 = .ok (.ireturn, 1) := by decide +kernel
theorem dX2_group_41 : decode cX2_group 41 = .ok (.iload_n 1, 1) := by decide +kernel
theorem dX2_group_42 : decode cX2_group 42 = .ok (.iconst 2, 1) := by decide +kernel
theorem dX2_group_43 : decode cX2_group 43 = .ok (.if_icmp .ne 11, 3) := by decide +kernel
theorem dX2_group_46 : decode cX2_group 46 = .ok (.aload_n 0, 1) := by decide +kernel
theorem dX2_group_47 : decode cX2_group 47 = .ok (.invokevirtual 159, 3) := by decide +kernel
theorem dX2_group_50 : decode cX2_group 50 = .ok (.invokevirtual 171, 3) := by decide +kernel
theorem dX2_group_53 : decode cX2_group 53 = .ok (.ireturn, 1) := by decide +kernel
theorem dX2_group_54 : decode cX2_group 54 = .ok (.aload_n 0, 1) := by decide +kernel
theorem dX2_group_55 : decode cX2_group 55 = .ok (.invokevirtual 174, 3) := by decide +kernel
theorem dX2_group_58 : decode cX2_group 58 = .ok (.ireturn, 1) := by decide +kernel
set_option maxRecDepth 20000 in
theorem ggX2_basicOrbit_X2_isPlace : GoodIn wsX2_basicOrbit wsX2_isPlace := goodIn_r _ [9, 4, 40, 41, 42, 43, 44, 45, 46, 47, 48, 49] (by decide +kernel) (by decide +kernel)
set_option maxRecDepth 20000 in
theorem gX2_basicOrbit_X2_isPlace : GoodIn wsX2_basicOrbit (wsV RX2 67 RX2 yX2_isPlace wsX2_isPlace) := goodIn_app (goodIn_of _ (by decide +kernel)) ggX2_basicOrbit_X2_isPlace
set_option maxRecDepth 20000 in
theorem ggX2_basicOrbit_X2_solutions : GoodIn wsX2_basicOrbit wsX2_solutions := goodIn_r _ [13, 14, 15, 16, 17, 18, 19, 20, 21, 22, 23, 24, 25, 26, 27, 28, 29, 30, 31, 32, 33, 34, 35, 40, 41, 42, 43, 44, 45, 46, 47, 48, 49, 50, 51, 52, 53, 54, 55, 56, 57, 58, 59, 60, 61, 62, 63] (by decide +kernel) (by decide +kernel)
set_option maxRecDepth 20000 in
theorem gX2_basicOrbit_X2_solutions : GoodIn wsX2_basicOrbit (wsV RX2 159 RX2 yX2_solutions wsX2_solutions) := goodIn_app (goodIn_of _ (by decide +kernel)) ggX2_basicOrbit_X2_solutions
set_option maxRecDepth 20000 in
theorem ggX2_basicOrbit_X1_hasBetween : GoodIn wsX2_basicOrbit wsX1_hasBetween := goodIn_r _ [39, 31, 60, 61, 62, 63] (by decide +kernel) (by decide +kernel)
set_option maxRecDepth 20000 in
theorem gX2_basicOrbit_X1_hasBetween : GoodIn wsX2_basicOrbit (wsV RX2 179 RX1 yX1_hasBetween wsX1_hasBetween) := goodIn_app (goodIn_of _ (by decide +kernel)) ggX2_basicOrbit_X1_hasBetween
theorem dX2_basicOrbit_0 : decode cX2_basicOrbit 0 = .ok (.aload_n 0, 1) := by decide +kernel
theorem dX2_basicOrbit_1 : decode cX2_basicOrbit 1 = .ok (.iload_n 1, 1) := by decide +kernel
theorem dX2_basicOrbit_2 : decode cX2_basicOrbit 2 = .ok (.invokevirtual 67, 3) := by decide +kernel
theorem dX2_basicOrbit_5 : decode cX2_basicOrbit 5 = .ok (.ifCond .ne 13, 3) := by decide +kernel
theorem dX2_basicOrbit_8 : decode cX2_basicOrbit 8 = .ok (.new 71, 3) := by decide +kernel
theorem dX2_basicOrbit_11 : decode cX2_basicOrbit 11 = .ok (.dup, 1) := by decide +kernel
theorem dX2_basicOrbit_12 : decode cX2_basicOrbit 12 = .ok (.ldc 177, 2) := by decide +kernel
theorem dX2_basicOrbit_14 : decode cX2_basicOrbit 14 = .ok (.invokespecial 75, 3) := by decide +kernel
theorem dX2_basicOrbit_17 : decode cX2_basicOrbit 17 = .ok (.athrow, 1) := by decide +kernel
theorem dX2_basicOrbit_18 : decode cX2_basicOrbit 18 = .ok (.aload_n 0, 1) := by decide +kernel
theorem dX2_basicOrbit_19 : decode cX2_basicOrbit 19 = .ok (.invokevirtual 159, 3) := by decide +kernel
theorem dX2_basicOrbit_22 : decode cX2_basicOrbit 22 = .ok (.astore_n 2, 1) := by decide +kernel
theorem dX2_basicOrbit_23 : decode cX2_basicOrbit 23 = .ok (.getstatic 61, 3) := by decide +kernel
theorem dX2_basicOrbit_26 : decode cX2_basicOrbit 26 = .ok (.aload_n 0, 1) := by decide +kernel
theorem dX2_basicOrbit_27 : decode cX2_basicOrbit 27 = .ok (.getfield 28, 3) := by decide +kernel
theorem dX2_basicOrbit_30 : decode cX2_basicOrbit 30 = .ok (.iconst 1, 1) := by decide +kernel
theorem dX2_basicOrbit_31 : decode cX2_basicOrbit 31 = .ok (.isub, 1) := by decide +kernel
theorem dX2_basicOrbit_32 : decode cX2_basicOrbit 32 = .ok (.iload_n 1, 1) := by decide +kernel
theorem dX2_basicOrbit_33 : decode cX2_basicOrbit 33 = .ok (.isub, 1) := by decide +kernel
theorem dX2_basicOrbit_34 : decode cX2_basicOrbit 34 = .ok (.iaload, 1) := by decide +kernel
theorem dX2_basicOrbit_35 : decode cX2_basicOrbit 35 = .ok (.istore_n 3, 1) := by decide +kernel
theorem dX2_basicOrbit_36 : decode cX2_basicOrbit 36 = .ok (.iconst 0, 1) := by decide +kernel
theorem dX2_basicOrbit_37 : decode cX2_basicOrbit 37 = .ok (.istore 4, 2) := by decide +kernel
theorem dX2_basicOrbit_39 : decode cX2_basicOrbit 39 = .ok (.iload_n 1, 1) := by decide +kernel
theorem dX2_basicOrbit_40 : decode cX2_basicOrbit 40 = .ok (.istore 5, 2) := by decide +kernel
theorem dX2_basicOrbit_42 : decode cX2_basicOrbit 42 = .ok (.iload 5, 2) := by decide +kernel
theorem dX2_basicOrbit_44 : decode cX2_basicOrbit 44 = .ok (.aload_n 0, 1) := by decide +kernel
theorem dX2_basicOrbit_45 : decode cX2_basicOrbit 45 = .ok (.getfield 28, 3) := by decide +kernel
theorem dX2_basicOrbit_48 : decode cX2_basicOrbit 48 = .ok (.if_icmp .ge 39, 3) := by decide +kernel
theorem dX2_basicOrbit_51 : decode cX2_basicOrbit 51 = .ok (.aload_n 2, 1) := by decide +kernel
theorem dX2_basicOrbit_52 : decode cX2_basicOrbit 52 = .ok (.iload 5, 2) := by decide +kernel
theorem dX2_basicOrbit_54 : decode cX2_basicOrbit 54 = .ok (.iload_n 1, 1) := by decide +kernel
theorem dX2_basicOrbit_55 : decode cX2_basicOrbit 55 = .ok (.isub, 1) := by decide +kernel
theorem dX2_basicOrbit_56 : decode cX2_basicOrbit 56 = .ok (.iload_n 3, 1) := by decide +kernel
theorem dX2_basicOrbit_57 : decode cX2_basicOrbit 57 = .ok (.imul, 1) := by decide +kernel
theorem dX2_basicOrbit_58 : decode cX2_basicOrbit 58 = .ok (.iload 5, 2) := by decide +kernel
theorem dX2_basicOrbit_60 : decode cX2_basicOrbit 60 = .ok (.iload_n 1, 1) := by decide +kernel
theorem dX2_basicOrbit_61 : decode cX2_basicOrbit 61 = .ok (.isub, 1) := by decide +kernel
theorem dX2_basicOrbit_62 : decode cX2_basicOrbit 62 = .ok (.iconst 1, 1) := by decide +kernel
theorem dX2_basicOrbit_63 : decode cX2_basicOrbit 63 = .ok (.iadd, 1) := by decide +kernel
theorem dX2_basicOrbit_64 : decode cX2_basicOrbit 64 = .ok (.iload_n 3, 1) := by decide +kernel
theorem dX2_basicOrbit_65 : decode cX2_basicOrbit 65 = .ok (.imul, 1) := by decide +kernel
theorem dX2_basicOrbit_66 : decode cX2_basicOrbit 66 = .ok (.invokevirtual 179, 3) := by decide +kernel
theorem dX2_basicOrbit_69 : decode cX2_basicOrbit 69 = .ok (.ifCond .eq 12, 3) := by decide +kernel
theorem dX2_basicOrbit_72 : decode cX2_basicOrbit 72 = .ok (.iload 4, 2) := by decide +kernel
theorem dX2_basicOrbit_74 : decode cX2_basicOrbit 74 = .ok (.iconst 1, 1) := by decide +kernel
theorem dX2_basicOrbit_75 : decode cX2_basicOrbit 75 = .ok (.iload 5, 2) := by decide +kernel
theorem dX2_basicOrbit_77 : decode cX2_basicOrbit 77 = .ok (.ishl, 1) := by decide +kernel
theorem dX2_basicOrbit_78 : decode cX2_basicOrbit 78 = .ok (.ior, 1) := by decide +kernel
theorem dX2_basicOrbit_79 : decode cX2_basicOrbit 79 = .ok (.istore 4, 2) := by decide +kernel
theorem dX2_basicOrbit_81 : decode cX2_basicOrbit 81 = .ok (.iinc 5 1, 3) := by decide +kernel
theorem dX2_basicOrbit_84 : decode cX2_basicOrbit 84 = .ok (.goto (-42), 3) := by decide +kernel
theorem dX2_basicOrbit_87 : decode cX2_basicOrbit 87 = .ok (.iload 4, 2) := by decide +kernel
theorem dX2_basicOrbit_89 : decode cX2_basicOrbit 89 = .ok (.ireturn, 1) := by decide +kernel
set_option maxRecDepth 20000 in
theorem ggX2_layer_X2_solutions : GoodIn wsX2_layer wsX2_solutions := goodIn_r _ [5, 6, 7, 8, 9, 10, 11, 12, 13, 14, 15, 16, 17, 18, 19, 20, 21, 22, 23, 24, 25, 26, 27, 32, 33, 34, 35, 36, 37, 38, 39, 40, 41, 42, 43, 44, 45, 46, 47, 48, 49, 50, 51, 52, 53, 54, 55] (by decide +kernel) (by decide +kernel)
set_option maxRecDepth 20000 in
theorem gX2_layer_X2_solutions : GoodIn wsX2_layer (wsV RX2 159 RX2 yX2_solutions wsX2_solutions) := goodIn_app (goodIn_of _ (by decide +kernel)) ggX2_layer_X2_solutions
set_option maxRecDepth 20000 in
theorem ggX2_layer_X1_countOfLength : GoodIn wsX2_layer wsX1_countOfLength := goodIn_r _ [31, 16, 23, 17, 52, 53, 54, 55] (by decide +kernel) (by decide +kernel)
set_option maxRecDepth 20000 in
theorem gX2_layer_X1_countOfLength : GoodIn wsX2_layer (wsV RX2 183 RX1 yX1_countOfLength wsX1_countOfLength) := goodIn_app (goodIn_of _ (by decide +kernel)) ggX2_layer_X1_countOfLength
theorem dX2_layer_0 : decode cX2_layer 0 = .ok (.aload_n 0, 1) := by decide +kernel
theorem dX2_layer_1 : decode cX2_layer 1 = .ok (.invokevirtual 159, 3) := by decide +kernel
theorem dX2_layer_4 : decode cX2_layer 4 = .ok (.iload_n 1, 1) := by decide +kernel
theorem dX2_layer_5 : decode cX2_layer 5 = .ok (.invokevirtual 183, 3) := by decide +kernel
theorem dX2_layer_8 : decode cX2_layer 8 = .ok (.ireturn, 1) := by decide +kernel
set_option maxRecDepth 20000 in
theorem ggX2_length_X2_solutions : GoodIn wsX2_length wsX2_solutions := goodIn_r _ [6, 7, 8, 9, 10, 11, 12, 13, 14, 15, 16, 17, 18, 19, 20, 21, 22, 23, 24, 25, 26, 27, 28, 50, 51, 52, 53, 54, 55, 56, 57, 58, 59, 60, 61, 62, 63, 64, 65, 66, 67, 68, 69, 46, 47, 48, 49] (by decide +kernel) (by decide +kernel)
set_option maxRecDepth 20000 in
theorem gX2_length_X2_solutions : GoodIn wsX2_length (wsV RX2 159 RX2 yX2_solutions wsX2_solutions) := goodIn_app (goodIn_of _ (by decide +kernel)) ggX2_length_X2_solutions
set_option maxRecDepth 20000 in
theorem ggX2_length_X2_presentCode : GoodIn wsX2_length wsX2_presentCode := goodIn_r _ [32, 33, 34, 35, 36, 37, 5, 38, 39, 40, 41, 42, 43, 44, 45, 50, 51, 52, 53, 54, 55, 56, 57, 58, 59] (by decide +kernel) (by decide +kernel)
set_option maxRecDepth 20000 in
theorem gX2_length_X2_presentCode : GoodIn wsX2_length (wsV RX2 190 RX2 yX2_presentCode wsX2_presentCode) := goodIn_app (goodIn_of _ (by decide +kernel)) ggX2_length_X2_presentCode
theorem dX2_length_0 : decode cX2_length 0 = .ok (.aload_n 0, 1) := by decide +kernel
theorem dX2_length_1 : decode cX2_length 1 = .ok (.invokevirtual 159, 3) := by decide +kernel
theorem dX2_length_4 : decode cX2_length 4 = .ok (.getfield 187, 3) := by decide +kernel
theorem dX2_length_7 : decode cX2_length 7 = .ok (.aload_n 0, 1) := by decide +kernel
theorem dX2_length_8 : decode cX2_length 8 = .ok (.invokevirtual 190, 3) := by decide +kernel
theorem dX2_length_11 : decode cX2_length 11 = .ok (.iaload, 1) := by decide +kernel
theorem dX2_length_12 : decode cX2_length 12 = .ok (.ireturn, 1) := by decide +kernel
set_option maxRecDepth 20000 in
theorem ggX2_wordMove_X2_solutions : GoodIn wsX2_wordMove wsX2_solutions := goodIn_r _ [8, 2, 9, 10, 11, 12, 13, 14, 15, 16, 17, 18, 19, 20, 21, 22, 23, 24, 25, 26, 27, 28, 29, 59, 60, 61, 62, 63, 64, 65, 66, 67, 68, 69, 70, 71, 72, 73, 74, 75, 76, 77, 78, 55, 56, 57, 58] (by decide +kernel) (by decide +kernel)
set_option maxRecDepth 20000 in
theorem gX2_wordMove_X2_solutions : GoodIn wsX2_wordMove (wsV RX2 159 RX2 yX2_solutions wsX2_solutions) := goodIn_app (goodIn_of _ (by decide +kernel)) ggX2_wordMove_X2_solutions
set_option maxRecDepth 20000 in
theorem ggX2_wordMove_X2_presentCode : GoodIn wsX2_wordMove wsX2_presentCode := goodIn_r _ [33, 34, 35, 36, 37, 38, 7, 39, 40, 41, 42, 43, 44, 45, 46, 59, 60, 61, 62, 63, 64, 65, 66, 67, 68] (by decide +kernel) (by decide +kernel)
set_option maxRecDepth 20000 in
theorem gX2_wordMove_X2_presentCode : GoodIn wsX2_wordMove (wsV RX2 190 RX2 yX2_presentCode wsX2_presentCode) := goodIn_app (goodIn_of _ (by decide +kernel)) ggX2_wordMove_X2_presentCode
set_option maxRecDepth 20000 in
theorem ggX2_wordMove_X1_firstMove : GoodIn wsX2_wordMove wsX1_firstMove := goodIn_r _ [50, 51, 52, 53, 14, 54, 16, 25, 20, 55, 56, 57, 58, 69, 70, 71, 72, 73, 74, 75, 76, 77, 78] (by decide +kernel) (by decide +kernel)
set_option maxRecDepth 20000 in
theorem gX2_wordMove_X1_firstMove : GoodIn wsX2_wordMove (wsV RX2 193 RX1 yX1_firstMove wsX1_firstMove) := goodIn_app (goodIn_of _ (by decide +kernel)) ggX2_wordMove_X1_firstMove
theorem dX2_wordMove_0 : decode cX2_wordMove 0 = .ok (.aload_n 0, 1) := by decide +kernel
theorem dX2_wordMove_1 : decode cX2_wordMove 1 = .ok (.invokevirtual 159, 3) := by decide +kernel
theorem dX2_wordMove_4 : decode cX2_wordMove 4 = .ok (.astore_n 2, 1) := by decide +kernel
theorem dX2_wordMove_5 : decode cX2_wordMove 5 = .ok (.aload_n 0, 1) := by decide +kernel
theorem dX2_wordMove_6 : decode cX2_wordMove 6 = .ok (.invokevirtual 190, 3) := by decide +kernel
theorem dX2_wordMove_9 : decode cX2_wordMove 9 = .ok (.istore_n 3, 1) := by decide +kernel
theorem dX2_wordMove_10 : decode cX2_wordMove 10 = .ok (.iload_n 1, 1) := by decide +kernel
theorem dX2_wordMove_11 : decode cX2_wordMove 11 = .ok (.ifCond .lt 13, 3) := by decide +kernel
theorem dX2_wordMove_14 : decode cX2_wordMove 14 = .ok (.iload_n 1, 1) := by decide +kernel
theorem dX2_wordMove_15 : decode cX2_wordMove 15 = .ok (.aload_n 2, 1) := by decide +kernel
theorem dX2_wordMove_16 : decode cX2_wordMove 16 = .ok (.getfield 187, 3) := by decide +kernel
theorem dX2_wordMove_19 : decode cX2_wordMove 19 = .ok (.iload_n 3, 1) := by decide +kernel
theorem dX2_wordMove_20 : decode cX2_wordMove 20 = .ok (.iaload, 1) := by decide +kernel
theorem dX2_wordMove_21 : decode cX2_wordMove 21 = .ok (.if_icmp .lt 5, 3) := by decide +kernel
theorem dX2_wordMove_24 : decode cX2_wordMove 24 = .ok (.iconst (-1), 1) := by decide +kernel
theorem dX2_wordMove_25 : decode cX2_wordMove 25 = .ok (.ireturn, 1) := by decide +kernel
theorem dX2_wordMove_26 : decode cX2_wordMove 26 = .ok (.aload_n 2, 1) := by decide +kernel
theorem dX2_wordMove_27 : decode cX2_wordMove 27 = .ok (.aload_n 0, 1) := by decide +kernel
theorem dX2_wordMove_28 : decode cX2_wordMove 28 = .ok (.getfield 37, 3) := by decide +kernel
