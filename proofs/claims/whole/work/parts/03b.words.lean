/-- words of one list among another's, each by its place -/
theorem my_in {big : List Cond} (ws : List Cond) (ps : List Nat) (h : ps.map (fun i => big[i]?) = ws.map some) : ∀ w ∈ ws, w ∈ big := by
  intro w hw
  have h1 : some w ∈ ws.map some := List.mem_map.mpr ⟨w, hw, rfl⟩
  rw [← h] at h1
  obtain ⟨i, -, hi⟩ := List.mem_map.mp h1
  exact List.mem_of_getElem? hi
set_option maxRecDepth 20000 in
theorem wl_in_r1 : ∀ w ∈ wsL_law0_r1, w ∈ lw_tbl := my_in _ [81, 82, 69, 674, 675, 72, 124, 83, 84, 85, 86, 87, 88, 122, 175, 176, 177, 89, 178, 123, 179, 180, 91, 92] (by decide +kernel)
set_option maxRecDepth 20000 in
theorem wl_in_r2 : ∀ w ∈ wsL_law0_r2, w ∈ lw_tbl := my_in _ [70, 184, 93, 94, 95, 96, 133, 99, 135, 138, 140, 141, 100, 101, 71, 142, 144, 146, 102, 103, 104, 105, 106, 108] (by decide +kernel)
set_option maxRecDepth 20000 in
theorem wl_in_r3 : ∀ w ∈ wsL_law0_r3, w ∈ lw_tbl := my_in _ [111, 125, 126, 127, 128, 148, 149, 129, 131, 0, 132, 112, 172, 173, 174, 676, 677, 678, 679, 686, 689, 690, 692, 693] (by decide +kernel)
set_option maxRecDepth 20000 in
theorem wl_in_r4 : ∀ w ∈ wsL_law0_r4, w ∈ lw_tbl := my_in _ [694, 680, 695, 696, 701, 702, 681, 683, 31, 684, 470, 471, 68, 472, 473, 474, 475, 476, 477, 314, 76, 181, 182, 134] (by decide +kernel)
set_option maxRecDepth 20000 in
theorem wl_in_r5 : ∀ w ∈ wsL_law0_r5, w ∈ lw_tbl := my_in _ [451, 479, 747, 748, 749, 750, 685, 687, 688, 751, 752, 753, 743, 744, 745, 746, 480, 481, 482, 483, 484, 485, 486, 487] (by decide +kernel)
set_option maxRecDepth 20000 in
theorem wl_in_r6 : ∀ w ∈ wsL_law0_r6, w ∈ lw_tbl := my_in _ [488, 435, 77, 491, 78, 263, 265, 8, 266, 507, 508, 509, 510, 512, 22, 513, 514, 516, 23, 517, 518, 519, 520, 521] (by decide +kernel)
set_option maxRecDepth 20000 in
theorem wl_in_r7 : ∀ w ∈ wsL_law0_r7, w ∈ lw_tbl := my_in _ [235, 236, 237, 238, 79, 239, 240, 241, 242, 524, 526, 24, 527, 528, 530, 25, 531, 754, 755, 756, 757, 758, 760, 32] (by decide +kernel)
set_option maxRecDepth 20000 in
theorem wl_in_r8 : ∀ w ∈ wsL_law0_r8, w ∈ lw_tbl := my_in _ [761, 762, 764, 33, 765, 532, 533, 534, 535, 536, 537, 538, 766, 767, 768, 769, 540, 541, 542, 543, 544, 545, 546, 770] (by decide +kernel)
set_option maxRecDepth 20000 in
theorem wl_in_r9 : ∀ w ∈ wsL_law0_r9, w ∈ lw_tbl := my_in _ [771, 772, 773, 548, 549, 550, 551, 552, 553, 554, 774, 775, 776, 777, 555, 556, 557, 558, 559, 560, 561, 415, 417, 18] (by decide +kernel)
set_option maxRecDepth 20000 in
theorem wl_in_r10 : ∀ w ∈ wsL_law0_r10, w ∈ lw_tbl := my_in _ [418, 411, 413, 17, 414, 564, 566, 26, 567, 778, 779, 780, 781, 782, 784, 34, 785, 786, 787, 788, 789, 791, 35, 792] (by decide +kernel)
set_option maxRecDepth 20000 in
theorem wl_in_r11 : ∀ w ∈ wsL_law0_r11, w ∈ lw_tbl := my_in _ [793, 795, 36, 796, 206, 207, 208, 209, 210, 211, 212, 213, 107, 214, 216, 1, 217, 143, 218, 219, 220, 221, 150, 109] (by decide +kernel)
set_option maxRecDepth 20000 in
theorem wl_in_r12 : ∀ w ∈ wsL_law0_r12, w ∈ lw_tbl := my_in _ [136, 222, 224, 2, 225, 226, 228, 3, 229, 230, 232, 4, 233, 234, 797, 798, 799, 800, 801, 803, 37, 804, 805, 807] (by decide +kernel)
set_option maxRecDepth 20000 in
theorem wl_in_r13 : ∀ w ∈ wsL_law0_r13, w ∈ lw_tbl := my_in _ [38, 808, 697, 809, 811, 39, 812, 813, 815, 40, 816, 817, 819, 41, 820, 821, 823, 42, 824, 825, 826, 827, 828, 830] (by decide +kernel)
set_option maxRecDepth 20000 in
theorem wl_in_r14 : ∀ w ∈ wsL_law0_r14, w ∈ lw_tbl := my_in _ [43, 831, 832, 834, 44, 835, 836, 838, 45, 839, 840, 842, 46, 843, 568, 569, 570, 571, 572, 573, 574, 183, 844, 845] (by decide +kernel)
set_option maxRecDepth 20000 in
theorem wl_in_r15 : ∀ w ∈ wsL_law0_r15, w ∈ lw_tbl := my_in _ [846, 847, 691, 243, 244, 245, 246, 848, 849, 850, 851, 247, 248, 249, 250, 251, 253, 5, 254, 255, 257, 6, 258, 259] (by decide +kernel)
set_option maxRecDepth 20000 in
theorem wl_in_r16 : ∀ w ∈ wsL_law0_r16, w ∈ lw_tbl := my_in _ [261, 7, 262, 852, 853, 854, 855, 856, 858, 47, 859, 860, 862, 48, 863, 864, 866, 49, 867, 698, 699, 700, 868, 870] (by decide +kernel)
set_option maxRecDepth 20000 in
theorem wl_in_r17 : ∀ w ∈ wsL_law0_r17, w ∈ lw_tbl := my_in _ [50, 871, 577, 578, 579, 580, 581, 582, 583, 584, 586, 27, 587, 872, 873, 874, 875, 589, 590, 591, 592, 593, 594, 595] (by decide +kernel)
set_option maxRecDepth 20000 in
theorem wl_in_r18 : ∀ w ∈ wsL_law0_r18, w ∈ lw_tbl := my_in _ [596, 598, 28, 599, 602, 604, 29, 605, 606, 876, 877, 878, 879, 880, 882, 51, 883, 884, 886, 52, 887, 607, 608, 609] (by decide +kernel)
set_option maxRecDepth 20000 in
theorem wl_in_r19 : ∀ w ∈ wsL_law0_r19, w ∈ lw_tbl := my_in _ [610, 611, 612, 613, 382, 384, 11, 385, 888, 889, 890, 891, 892, 894, 53, 895, 614, 615, 616, 617, 399, 400, 401, 110] (by decide +kernel)
set_option maxRecDepth 20000 in
theorem wl_in_r20 : ∀ w ∈ wsL_law0_r20, w ∈ lw_tbl := my_in _ [403, 405, 15, 406, 407, 409, 16, 410, 419, 421, 19, 422, 423, 424, 425, 426, 427, 429, 20, 430, 386, 388, 12, 389] (by decide +kernel)
set_option maxRecDepth 20000 in
theorem wl_in_r21 : ∀ w ∈ wsL_law0_r21, w ∈ lw_tbl := my_in _ [896, 897, 898, 899, 900, 902, 54, 903, 904, 906, 55, 907, 908, 910, 56, 911, 912, 914, 57, 915, 916, 918, 58, 919] (by decide +kernel)
set_option maxRecDepth 20000 in
theorem wl_in_r22 : ∀ w ∈ wsL_law0_r22, w ∈ lw_tbl := my_in _ [618, 619, 620, 621, 432, 433, 434, 452, 453, 454, 455, 920, 921, 922, 923, 924, 926, 59, 927, 267, 268, 269, 270, 271] (by decide +kernel)
set_option maxRecDepth 20000 in
theorem wl_in_r23 : ∀ w ∈ wsL_law0_r23, w ∈ lw_tbl := my_in _ [272, 273, 274, 928, 929, 930, 931, 932, 934, 60, 935, 275, 936, 937, 938, 939, 276, 277, 278, 279, 137, 280, 281, 282] (by decide +kernel)
set_option maxRecDepth 20000 in
theorem wl_in_r24 : ∀ w ∈ wsL_law0_r24, w ∈ lw_tbl := my_in _ [283, 284, 286, 9, 287, 940, 941, 942, 943, 944, 946, 61, 947, 288, 289, 290, 291, 292, 293, 294, 295, 139, 948, 949] (by decide +kernel)
set_option maxRecDepth 20000 in
theorem wl_in_r25 : ∀ w ∈ wsL_law0_r25, w ∈ lw_tbl := my_in _ [950, 951, 952, 954, 62, 955, 622, 623, 624, 625, 626, 627, 628, 147, 630, 632, 30, 633, 145, 634, 635, 636, 637, 956] (by decide +kernel)
set_option maxRecDepth 20000 in
theorem wl_in_r26 : ∀ w ∈ wsL_law0_r26, w ∈ lw_tbl := my_in _ [957, 958, 959, 960, 962, 63, 963, 638, 639, 640, 641, 642, 643, 644, 964, 965, 966, 967, 647, 648, 649, 650, 651, 652] (by decide +kernel)
set_option maxRecDepth 20000 in
theorem wl_in_r27 : ∀ w ∈ wsL_law0_r27, w ∈ lw_tbl := my_in _ [653, 968, 969, 970, 971, 654, 655, 656, 657, 658, 659, 660, 972, 973, 974, 975, 662, 663, 664, 665, 666, 667, 668, 976] (by decide +kernel)
set_option maxRecDepth 20000 in
theorem wl_in_r28 : ∀ w ∈ wsL_law0_r28, w ∈ lw_tbl := my_in _ [977, 978, 979, 670, 671, 672, 673, 311, 312, 313, 980, 981, 982, 983, 984, 986, 64, 987, 296, 297, 298, 299, 300, 301] (by decide +kernel)
set_option maxRecDepth 20000 in
theorem wl_in_r29 : ∀ w ∈ wsL_law0_r29, w ∈ lw_tbl := my_in _ [302, 303, 988, 989, 990, 991, 992, 994, 65, 995, 304, 305, 306, 307, 308, 309, 310, 390, 392, 13, 393, 394, 396, 14] (by decide +kernel)
set_option maxRecDepth 20000 in
theorem wl_in_r30 : ∀ w ∈ wsL_law0_r30, w ∈ lw_tbl := my_in _ [397, 398, 431, 456, 457, 459, 21, 460, 461, 462, 463, 464, 465, 466, 467, 468, 469, 996, 997, 998, 999, 1000, 703, 1001] (by decide +kernel)
set_option maxRecDepth 20000 in
theorem wl_in_r31 : ∀ w ∈ wsL_law0_r31, w ∈ lw_tbl := my_in _ [1003, 66, 1004, 1005, 1007, 67, 1008, 1009, 1010, 1011, 80, 1012, 1016, 1018, 1017, 80, 1019, 1013, 1014, 1015] (by decide +kernel)
set_option maxRecDepth 20000 in
theorem wl_in_X0 : ∀ w ∈ wsX00, w ∈ lw_tbl := my_in _ [151, 153, 155, 157, 159, 161, 163, 165, 167, 169] (by decide +kernel)
set_option maxRecDepth 20000 in
theorem wl_in_X1 : ∀ w ∈ wsX10, w ∈ lw_tbl := my_in _ [113, 115, 117, 119] (by decide +kernel)
set_option maxRecDepth 20000 in
theorem wl_in_X2 : ∀ w ∈ wsX20, w ∈ lw_tbl := my_in _ [185, 187, 189, 191, 193, 195, 197, 199, 201, 203] (by decide +kernel)
set_option maxRecDepth 20000 in
theorem wl_in_X3 : ∀ w ∈ wsX30, w ∈ lw_tbl := my_in _ [704, 706, 708, 710, 712, 714, 716, 718, 720, 722, 724, 726, 728, 730, 732, 734, 736, 738, 740] (by decide +kernel)
theorem wl_in_rs : ∀ w ∈ (wsL_law0_r1 ++ (wsL_law0_r2 ++ (wsL_law0_r3 ++ (wsL_law0_r4 ++ (wsL_law0_r5 ++ (wsL_law0_r6 ++ (wsL_law0_r7 ++ (wsL_law0_r8 ++ (wsL_law0_r9 ++ (wsL_law0_r10 ++ (wsL_law0_r11 ++ (wsL_law0_r12 ++ (wsL_law0_r13 ++ (wsL_law0_r14 ++ (wsL_law0_r15 ++ (wsL_law0_r16 ++ (wsL_law0_r17 ++ (wsL_law0_r18 ++ (wsL_law0_r19 ++ (wsL_law0_r20 ++ (wsL_law0_r21 ++ (wsL_law0_r22 ++ (wsL_law0_r23 ++ (wsL_law0_r24 ++ (wsL_law0_r25 ++ (wsL_law0_r26 ++ (wsL_law0_r27 ++ (wsL_law0_r28 ++ (wsL_law0_r29 ++ (wsL_law0_r30 ++ (wsL_law0_r31))))))))))))))))))))))))))))))), w ∈ lw_tbl := fun w h => (List.mem_append.mp h).elim (fun h => wl_in_r1 w h) (fun h => (List.mem_append.mp h).elim (fun h => wl_in_r2 w h) (fun h => (List.mem_append.mp h).elim (fun h => wl_in_r3 w h) (fun h => (List.mem_append.mp h).elim (fun h => wl_in_r4 w h) (fun h => (List.mem_append.mp h).elim (fun h => wl_in_r5 w h) (fun h => (List.mem_append.mp h).elim (fun h => wl_in_r6 w h) (fun h => (List.mem_append.mp h).elim (fun h => wl_in_r7 w h) (fun h => (List.mem_append.mp h).elim (fun h => wl_in_r8 w h) (fun h => (List.mem_append.mp h).elim (fun h => wl_in_r9 w h) (fun h => (List.mem_append.mp h).elim (fun h => wl_in_r10 w h) (fun h => (List.mem_append.mp h).elim (fun h => wl_in_r11 w h) (fun h => (List.mem_append.mp h).elim (fun h => wl_in_r12 w h) (fun h => (List.mem_append.mp h).elim (fun h => wl_in_r13 w h) (fun h => (List.mem_append.mp h).elim (fun h => wl_in_r14 w h) (fun h => (List.mem_append.mp h).elim (fun h => wl_in_r15 w h) (fun h => (List.mem_append.mp h).elim (fun h => wl_in_r16 w h) (fun h => (List.mem_append.mp h).elim (fun h => wl_in_r17 w h) (fun h => (List.mem_append.mp h).elim (fun h => wl_in_r18 w h) (fun h => (List.mem_append.mp h).elim (fun h => wl_in_r19 w h) (fun h => (List.mem_append.mp h).elim (fun h => wl_in_r20 w h) (fun h => (List.mem_append.mp h).elim (fun h => wl_in_r21 w h) (fun h => (List.mem_append.mp h).elim (fun h => wl_in_r22 w h) (fun h => (List.mem_append.mp h).elim (fun h => wl_in_r23 w h) (fun h => (List.mem_append.mp h).elim (fun h => wl_in_r24 w h) (fun h => (List.mem_append.mp h).elim (fun h => wl_in_r25 w h) (fun h => (List.mem_append.mp h).elim (fun h => wl_in_r26 w h) (fun h => (List.mem_append.mp h).elim (fun h => wl_in_r27 w h) (fun h => (List.mem_append.mp h).elim (fun h => wl_in_r28 w h) (fun h => (List.mem_append.mp h).elim (fun h => wl_in_r29 w h) (fun h => (List.mem_append.mp h).elim (fun h => wl_in_r30 w h) (fun h => wl_in_r31 w h))))))))))))))))))))))))))))))
theorem wsL_law_in0 : ∀ w ∈ wsL_law0, w ∈ lw_tbl := fun w h => (List.mem_append.mp h).elim (fun h => (List.mem_append.mp h).elim (fun h => (List.mem_append.mp h).elim (fun h => (List.mem_append.mp h).elim (fun h => (List.mem_append.mp h).elim (fun h => wl_in_rs w h) (fun h => wl_in_X2 w h)) (fun h => wl_in_X3 w h)) (fun h => wl_in_X0 w h)) (fun h => wl_in_X1 w h)) (fun h => absurd h List.not_mem_nil)
theorem wsL_law_x0 : ∀ w ∈ (vx_atS RX2 49 "java/lang/IllegalArgumentException" ["java/lang/RuntimeException", "java/lang/Exception"]).filter goodWord, w ∈ lw_tbl := by decide +kernel
theorem wsL_law_x1 : ∀ w ∈ (vx_atS RX2 75 "java/lang/IndexOutOfBoundsException" ["java/lang/RuntimeException", "java/lang/Exception"]).filter goodWord, w ∈ lw_tbl := by decide +kernel
theorem wsL_law_x2 : ∀ w ∈ (vx_atS RX2 82 "java/lang/IllegalStateException" ["java/lang/RuntimeException", "java/lang/Exception"]).filter goodWord, w ∈ lw_tbl := by decide +kernel
theorem wsL_law_in : ∀ w ∈ wsL_law, w ∈ lw_tbl := fun w h => (List.mem_append.mp h).elim (fun h => (List.mem_append.mp h).elim (fun h => (List.mem_append.mp h).elim (fun h => wsL_law_in0 w h) (fun h => wsL_law_x0 w h)) (fun h => wsL_law_x1 w h)) (fun h => wsL_law_x2 w h)
theorem inlX0 : ∀ w ∈ wsX00, w ∈ wsL_law := fun _ h => List.mem_append_left _ (List.mem_append_left _ (List.mem_append_left _ (List.mem_append_left _ (List.mem_append_left _ (List.mem_append_right _ h)))))
theorem inX0 : ∀ w ∈ wsX00, w ∈ lw_tbl := fun w h => wsL_law_in w (inlX0 w h)
theorem inlX1 : ∀ w ∈ wsX10, w ∈ wsL_law := fun _ h => List.mem_append_left _ (List.mem_append_left _ (List.mem_append_left _ (List.mem_append_left _ (List.mem_append_right _ h))))
theorem inX1 : ∀ w ∈ wsX10, w ∈ lw_tbl := fun w h => wsL_law_in w (inlX1 w h)
theorem inlX2 : ∀ w ∈ wsX20, w ∈ wsL_law := fun _ h => List.mem_append_left _ (List.mem_append_left _ (List.mem_append_left _ (List.mem_append_left _ (List.mem_append_left _ (List.mem_append_left _ (List.mem_append_left _ (List.mem_append_right _ h)))))))
theorem inX2 : ∀ w ∈ wsX20, w ∈ lw_tbl := fun w h => wsL_law_in w (inlX2 w h)
theorem inlX3 : ∀ w ∈ wsX30, w ∈ wsL_law := fun _ h => List.mem_append_left _ (List.mem_append_left _ (List.mem_append_left _ (List.mem_append_left _ (List.mem_append_left _ (List.mem_append_left _ (List.mem_append_right _ h))))))
theorem inX3 : ∀ w ∈ wsX30, w ∈ lw_tbl := fun w h => wsL_law_in w (inlX3 w h)
theorem inJxe99ae : ∀ w ∈ wsJxe99ae0, w ∈ lw_tbl := by decide +kernel
theorem inJ6 : ∀ w ∈ wsJ60, w ∈ lw_tbl := by decide +kernel
theorem inJ0 : ∀ w ∈ wsJ00, w ∈ lw_tbl := by decide +kernel
