theorem dX10_findEdges_105 : decode cX10_findEdges 105 = .ok (.aload_n 0, 1) := by decide +kernel
theorem dX10_findEdges_106 : decode cX10_findEdges 106 = .ok (.getfield 27, 3) := by decide +kernel
theorem dX10_findEdges_109 : decode cX10_findEdges 109 = .ok (.iload 5, 2) := by decide +kernel
theorem dX10_findEdges_111 : decode cX10_findEdges 111 = .ok (.ifCond .eq 7, 3) := by decide +kernel
theorem dX10_findEdges_114 : decode cX10_findEdges 114 = .ok (.iconst 1, 1) := by decide +kernel
theorem dX10_findEdges_115 : decode cX10_findEdges 115 = .ok (.goto 4, 3) := by decide +kernel
theorem dX10_findEdges_118 : decode cX10_findEdges 118 = .ok (.iconst (-1), 1) := by decide +kernel
theorem dX10_findEdges_119 : decode cX10_findEdges 119 = .ok (.iastore, 1) := by decide +kernel
theorem dX10_findEdges_120 : decode cX10_findEdges 120 = .ok (.aload_n 0, 1) := by decide +kernel
theorem dX10_findEdges_121 : decode cX10_findEdges 121 = .ok (.dup, 1) := by decide +kernel
theorem dX10_findEdges_122 : decode cX10_findEdges 122 = .ok (.getfield 27, 3) := by decide +kernel
theorem dX10_findEdges_125 : decode cX10_findEdges 125 = .ok (.iconst 1, 1) := by decide +kernel
theorem dX10_findEdges_126 : decode cX10_findEdges 126 = .ok (.iadd, 1) := by decide +kernel
theorem dX10_findEdges_127 : decode cX10_findEdges 127 = .ok (.putfield 27, 3) := by decide +kernel
theorem dX10_findEdges_130 : decode cX10_findEdges 130 = .ok (.iload 5, 2) := by decide +kernel
theorem dX10_findEdges_132 : decode cX10_findEdges 132 = .ok (.istore_n 3, 1) := by decide +kernel
theorem dX10_findEdges_133 : decode cX10_findEdges 133 = .ok (.iinc 4 1, 3) := by decide +kernel
theorem dX10_findEdges_136 : decode cX10_findEdges 136 = .ok (.goto (-109), 3) := by decide +kernel
theorem dX10_findEdges_139 : decode cX10_findEdges 139 = .ok (.iload_n 2, 1) := by decide +kernel
theorem dX10_findEdges_140 : decode cX10_findEdges 140 = .ok (.ireturn, 1) := by decide +kernel
theorem dX10_asManyAsUnturned_0 : decode cX10_asManyAsUnturned 0 = .ok (.iconst 0, 1) := by decide +kernel
theorem dX10_asManyAsUnturned_1 : decode cX10_asManyAsUnturned 1 = .ok (.istore_n 1, 1) := by decide +kernel
theorem dX10_asManyAsUnturned_2 : decode cX10_asManyAsUnturned 2 = .ok (.iconst 0, 1) := by decide +kernel
theorem dX10_asManyAsUnturned_3 : decode cX10_asManyAsUnturned 3 = .ok (.istore_n 2, 1) := by decide +kernel
theorem dX10_asManyAsUnturned_4 : decode cX10_asManyAsUnturned 4 = .ok (.iload_n 2, 1) := by decide +kernel
theorem dX10_asManyAsUnturned_5 : decode cX10_asManyAsUnturned 5 = .ok (.sipush 360, 3) := by decide +kernel
theorem dX10_asManyAsUnturned_8 : decode cX10_asManyAsUnturned 8 = .ok (.if_icmp .ge 27, 3) := by decide +kernel
theorem dX10_asManyAsUnturned_11 : decode cX10_asManyAsUnturned 11 = .ok (.aload_n 0, 1) := by decide +kernel
theorem dX10_asManyAsUnturned_12 : decode cX10_asManyAsUnturned 12 = .ok (.getfield 18, 3) := by decide +kernel
theorem dX10_asManyAsUnturned_15 : decode cX10_asManyAsUnturned 15 = .ok (.iload_n 2, 1) := by decide +kernel
theorem dX10_asManyAsUnturned_16 : decode cX10_asManyAsUnturned 16 = .ok (.iaload, 1) := by decide +kernel
theorem dX10_asManyAsUnturned_17 : decode cX10_asManyAsUnturned 17 = .ok (.aload_n 0, 1) := by decide +kernel
theorem dX10_asManyAsUnturned_18 : decode cX10_asManyAsUnturned 18 = .ok (.getfield 18, 3) := by decide +kernel
theorem dX10_asManyAsUnturned_21 : decode cX10_asManyAsUnturned 21 = .ok (.iconst 0, 1) := by decide +kernel
theorem dX10_asManyAsUnturned_22 : decode cX10_asManyAsUnturned 22 = .ok (.iaload, 1) := by decide +kernel
theorem dX10_asManyAsUnturned_23 : decode cX10_asManyAsUnturned 23 = .ok (.if_icmp .lt 6, 3) := by decide +kernel
theorem dX10_asManyAsUnturned_26 : decode cX10_asManyAsUnturned 26 = .ok (.iinc 1 1, 3) := by decide +kernel
theorem dX10_asManyAsUnturned_29 : decode cX10_asManyAsUnturned 29 = .ok (.iinc 2 1, 3) := by decide +kernel
theorem dX10_asManyAsUnturned_32 : decode cX10_asManyAsUnturned 32 = .ok (.goto (-28), 3) := by decide +kernel
theorem dX10_asManyAsUnturned_35 : decode cX10_asManyAsUnturned 35 = .ok (.iload_n 1, 1) := by decide +kernel
theorem dX10_asManyAsUnturned_36 : decode cX10_asManyAsUnturned 36 = .ok (.ireturn, 1) := by decide +kernel
theorem dX10_sum_0 : decode cX10_sum 0 = .ok (.iconst 0, 1) := by decide +kernel
theorem dX10_sum_1 : decode cX10_sum 1 = .ok (.istore_n 1, 1) := by decide +kernel
theorem dX10_sum_2 : decode cX10_sum 2 = .ok (.iconst 0, 1) := by decide +kernel
theorem dX10_sum_3 : decode cX10_sum 3 = .ok (.istore_n 2, 1) := by decide +kernel
theorem dX10_sum_4 : decode cX10_sum 4 = .ok (.iload_n 2, 1) := by decide +kernel
theorem dX10_sum_5 : decode cX10_sum 5 = .ok (.sipush 360, 3) := by decide +kernel
theorem dX10_sum_8 : decode cX10_sum 8 = .ok (.if_icmp .ge 18, 3) := by decide +kernel
theorem dX10_sum_11 : decode cX10_sum 11 = .ok (.iload_n 1, 1) := by decide +kernel
theorem dX10_sum_12 : decode cX10_sum 12 = .ok (.aload_n 0, 1) := by decide +kernel
theorem dX10_sum_13 : decode cX10_sum 13 = .ok (.getfield 18, 3) := by decide +kernel
theorem dX10_sum_16 : decode cX10_sum 16 = .ok (.iload_n 2, 1) := by decide +kernel
theorem dX10_sum_17 : decode cX10_sum 17 = .ok (.iaload, 1) := by decide +kernel
theorem dX10_sum_18 : decode cX10_sum 18 = .ok (.iadd, 1) := by decide +kernel
theorem dX10_sum_19 : decode cX10_sum 19 = .ok (.istore_n 1, 1) := by decide +kernel
theorem dX10_sum_20 : decode cX10_sum 20 = .ok (.iinc 2 1, 3) := by decide +kernel
theorem dX10_sum_23 : decode cX10_sum 23 = .ok (.goto (-19), 3) := by decide +kernel
theorem dX10_sum_26 : decode cX10_sum 26 = .ok (.iload_n 1, 1) := by decide +kernel
theorem dX10_sum_27 : decode cX10_sum 27 = .ok (.ireturn, 1) := by decide +kernel
set_option maxRecDepth 20000 in
theorem ggX10_tellAfter_J7_fill_53178 : GoodIn wsX10_tellAfter wsJ7_fill_53178 := goodIn_r _ [6] (by decide +kernel) (by decide +kernel)
set_option maxRecDepth 20000 in
theorem gX10_tellAfter_J7_fill_53178 : GoodIn wsX10_tellAfter (va_wsS RX10 37 yJ7_fill_53178 wsJ7_fill_53178) := goodIn_app (goodIn_of _ (by decide +kernel)) ggX10_tellAfter_J7_fill_53178
set_option maxRecDepth 20000 in
theorem ggX10_tellAfter_X10_gather : GoodIn wsX10_tellAfter wsX10_gather := goodIn_r _ [11, 12, 13, 14, 3, 4, 5, 6, 57, 58, 59, 60, 61, 62, 63, 64, 69, 70, 71, 72, 73, 74, 75, 76, 77, 78, 79] (by decide +kernel) (by decide +kernel)
set_option maxRecDepth 20000 in
theorem gX10_tellAfter_X10_gather : GoodIn wsX10_tellAfter (wsV RX10 60 RX10 yX10_gather wsX10_gather) := goodIn_app (goodIn_of _ (by decide +kernel)) ggX10_tellAfter_X10_gather
set_option maxRecDepth 20000 in
theorem ggX10_tellAfter_X10_cover : GoodIn wsX10_tellAfter wsX10_cover := goodIn_r _ [18, 19, 20, 21, 22, 23, 24, 25, 26, 27, 28, 29, 30, 31, 32, 33, 34, 35, 36, 37, 38, 57, 58, 59, 60, 61, 62, 63, 64, 65, 66, 67, 68] (by decide +kernel) (by decide +kernel)
set_option maxRecDepth 20000 in
theorem gX10_tellAfter_X10_cover : GoodIn wsX10_tellAfter (wsV RX10 64 RX10 yX10_cover wsX10_cover) := goodIn_app (goodIn_of _ (by decide +kernel)) ggX10_tellAfter_X10_cover
set_option maxRecDepth 20000 in
theorem ggX10_tellAfter_X10_spin : GoodIn wsX10_tellAfter wsX10_spin := goodIn_r _ [42, 43, 44, 45, 46, 12, 47, 48, 49, 10, 50, 19, 57, 58, 59, 60, 61, 62, 63, 64] (by decide +kernel) (by decide +kernel)
set_option maxRecDepth 20000 in
theorem gX10_tellAfter_X10_spin : GoodIn wsX10_tellAfter (wsV RX10 71 RX10 yX10_spin wsX10_spin) := goodIn_app (goodIn_of _ (by decide +kernel)) ggX10_tellAfter_X10_spin
set_option maxRecDepth 20000 in
theorem ggX10_tellAfter_X10_lower : GoodIn wsX10_tellAfter wsX10_lower := goodIn_r _ [54, 55, 43, 1, 56, 37, 34, 38, 3, 4, 5, 6, 57, 58, 59, 60, 61, 62, 63, 64] (by decide +kernel) (by decide +kernel)
set_option maxRecDepth 20000 in
theorem gX10_tellAfter_X10_lower : GoodIn wsX10_tellAfter (wsV RX10 75 RX10 yX10_lower wsX10_lower) := goodIn_app (goodIn_of _ (by decide +kernel)) ggX10_tellAfter_X10_lower
theorem dX10_tellAfter_0 : decode cX10_tellAfter 0 = .ok (.aload_n 0, 1) := by decide +kernel
theorem dX10_tellAfter_1 : decode cX10_tellAfter 1 = .ok (.getfield 21, 3) := by decide +kernel
theorem dX10_tellAfter_4 : decode cX10_tellAfter 4 = .ok (.sipush 360, 3) := by decide +kernel
theorem dX10_tellAfter_7 : decode cX10_tellAfter 7 = .ok (.invokestatic 37, 3) := by decide +kernel
theorem dX10_tellAfter_10 : decode cX10_tellAfter 10 = .ok (.aload_n 0, 1) := by decide +kernel
theorem dX10_tellAfter_11 : decode cX10_tellAfter 11 = .ok (.aload_n 1, 1) := by decide +kernel
theorem dX10_tellAfter_12 : decode cX10_tellAfter 12 = .ok (.invokevirtual 60, 3) := by decide +kernel
theorem dX10_tellAfter_15 : decode cX10_tellAfter 15 = .ok (.iconst 0, 1) := by decide +kernel
theorem dX10_tellAfter_16 : decode cX10_tellAfter 16 = .ok (.istore_n 3, 1) := by decide +kernel
theorem dX10_tellAfter_17 : decode cX10_tellAfter 17 = .ok (.iload_n 3, 1) := by decide +kernel
theorem dX10_tellAfter_18 : decode cX10_tellAfter 18 = .ok (.iconst 4, 1) := by decide +kernel
theorem dX10_tellAfter_19 : decode cX10_tellAfter 19 = .ok (.if_icmp .gt 45, 3) := by decide +kernel
theorem dX10_tellAfter_22 : decode cX10_tellAfter 22 = .ok (.aload_n 0, 1) := by decide +kernel
theorem dX10_tellAfter_23 : decode cX10_tellAfter 23 = .ok (.aload_n 2, 1) := by decide +kernel
theorem dX10_tellAfter_24 : decode cX10_tellAfter 24 = .ok (.iload_n 3, 1) := by decide +kernel
theorem dX10_tellAfter_25 : decode cX10_tellAfter 25 = .ok (.invokevirtual 64, 3) := by decide +kernel
theorem dX10_tellAfter_28 : decode cX10_tellAfter 28 = .ok (.iconst 1, 1) := by decide +kernel
theorem dX10_tellAfter_29 : decode cX10_tellAfter 29 = .ok (.istore 4, 2) := by decide +kernel
theorem dX10_tellAfter_31 : decode cX10_tellAfter 31 = .ok (.iload 4, 2) := by decide +kernel
theorem dX10_tellAfter_33 : decode cX10_tellAfter 33 = .ok (.iconst 1, 1) := by decide +kernel
theorem dX10_tellAfter_34 : decode cX10_tellAfter 34 = .ok (.aload_n 2, 1) := by decide +kernel
theorem dX10_tellAfter_35 : decode cX10_tellAfter 35 = .ok (.getfield 68, 3) := by decide +kernel
theorem dX10_tellAfter_38 : decode cX10_tellAfter 38 = .ok (.ishl, 1) := by decide +kernel
theorem dX10_tellAfter_39 : decode cX10_tellAfter 39 = .ok (.if_icmp .ge 19, 3) := by decide +kernel
theorem dX10_tellAfter_42 : decode cX10_tellAfter 42 = .ok (.aload_n 0, 1) := by decide +kernel
theorem dX10_tellAfter_43 : decode cX10_tellAfter 43 = .ok (.iload 4, 2) := by decide +kernel
theorem dX10_tellAfter_45 : decode cX10_tellAfter 45 = .ok (.invokevirtual 71, 3) := by decide +kernel
theorem dX10_tellAfter_48 : decode cX10_tellAfter 48 = .ok (.aload_n 0, 1) := by decide +kernel
theorem dX10_tellAfter_49 : decode cX10_tellAfter 49 = .ok (.invokevirtual 75, 3) := by decide +kernel
theorem dX10_tellAfter_52 : decode cX10_tellAfter 52 = .ok (.iinc 4 1, 3) := by decide +kernel
theorem dX10_tellAfter_55 : decode cX10_tellAfter 55 = .ok (.goto (-24), 3) := by decide +kernel
theorem dX10_tellAfter_58 : decode cX10_tellAfter 58 = .ok (.iinc 3 1, 3) := by decide +kernel
theorem dX10_tellAfter_61 : decode cX10_tellAfter 61 = .ok (.goto (-44), 3) := by decide +kernel
theorem dX10_tellAfter_64 : decode cX10_tellAfter 64 = .ok (.return_, 1) := by decide +kernel
set_option maxRecDepth 20000 in
theorem ggX10_lower_J7_fill_53178 : GoodIn wsX10_lower wsJ7_fill_53178 := goodIn_r _ [11] (by decide +kernel) (by decide +kernel)
set_option maxRecDepth 20000 in
theorem gX10_lower_J7_fill_53178 : GoodIn wsX10_lower (va_wsS RX10 37 yJ7_fill_53178 wsJ7_fill_53178) := goodIn_app (goodIn_of _ (by decide +kernel)) ggX10_lower_J7_fill_53178
theorem dX10_lower_0 : decode cX10_lower 0 = .ok (.aload_n 0, 1) := by decide +kernel
theorem dX10_lower_1 : decode cX10_lower 1 = .ok (.getfield 24, 3) := by decide +kernel
theorem dX10_lower_4 : decode cX10_lower 4 = .ok (.iconst 0, 1) := by decide +kernel
theorem dX10_lower_5 : decode cX10_lower 5 = .ok (.invokestatic 37, 3) := by decide +kernel
theorem dX10_lower_8 : decode cX10_lower 8 = .ok (.iconst 0, 1) := by decide +kernel
theorem dX10_lower_9 : decode cX10_lower 9 = .ok (.istore_n 1, 1) := by decide +kernel
theorem dX10_lower_10 : decode cX10_lower 10 = .ok (.iload_n 1, 1) := by decide +kernel
theorem dX10_lower_11 : decode cX10_lower 11 = .ok (.sipush 360, 3) := by decide +kernel
theorem dX10_lower_14 : decode cX10_lower 14 = .ok (.if_icmp .ge 24, 3) := by decide +kernel
theorem dX10_lower_17 : decode cX10_lower 17 = .ok (.aload_n 0, 1) := by decide +kernel
theorem dX10_lower_18 : decode cX10_lower 18 = .ok (.getfield 24, 3) := by decide +kernel
theorem dX10_lower_21 : decode cX10_lower 21 = .ok (.aload_n 0, 1) := by decide +kernel
theorem dX10_lower_22 : decode cX10_lower 22 = .ok (.getfield 18, 3) := by decide +kernel
theorem dX10_lower_25 : decode cX10_lower 25 = .ok (.iload_n 1, 1) := by decide +kernel
theorem dX10_lower_26 : decode cX10_lower 26 = .ok (.iaload, 1) := by decide +kernel
theorem dX10_lower_27 : decode cX10_lower 27 = .ok (.dup2, 1) := by decide +kernel
theorem dX10_lower_28 : decode cX10_lower 28 = .ok (.iaload, 1) := by decide +kernel
theorem dX10_lower_29 : decode cX10_lower 29 = .ok (.iconst 1, 1) := by decide +kernel
theorem dX10_lower_30 : decode cX10_lower 30 = .ok (.iadd, 1) := by decide +kernel
theorem dX10_lower_31 : decode cX10_lower 31 = .ok (.iastore, 1) := by decide +kernel
theorem dX10_lower_32 : decode cX10_lower 32 = .ok (.iinc 1 1, 3) := by decide +kernel
theorem dX10_lower_35 : decode cX10_lower 35 = .ok (.goto (-25), 3) := by decide +kernel
theorem dX10_lower_38 : decode cX10_lower 38 = .ok (.sipush 182, 3) := by decide +kernel
theorem dX10_lower_41 : decode cX10_lower 41 = .ok (.istore_n 1, 1) := by decide +kernel
theorem dX10_lower_42 : decode cX10_lower 42 = .ok (.iload_n 1, 1) := by decide +kernel
theorem dX10_lower_43 : decode cX10_lower 43 = .ok (.ifCond .lt 26, 3) := by decide +kernel
theorem dX10_lower_46 : decode cX10_lower 46 = .ok (.aload_n 0, 1) := by decide +kernel
theorem dX10_lower_47 : decode cX10_lower 47 = .ok (.getfield 24, 3) := by decide +kernel
theorem dX10_lower_50 : decode cX10_lower 50 = .ok (.iload_n 1, 1) := by decide +kernel
theorem dX10_lower_51 : decode cX10_lower 51 = .ok (.dup2, 1) := by decide +kernel
theorem dX10_lower_52 : decode cX10_lower 52 = .ok (.iaload, 1) := by decide +kernel
theorem dX10_lower_53 : decode cX10_lower 53 = .ok (.aload_n 0, 1) := by decide +kernel
theorem dX10_lower_54 : decode cX10_lower 54 = .ok (.getfield 24, 3) := by decide +kernel
theorem dX10_lower_57 : decode cX10_lower 57 = .ok (.iload_n 1, 1) := by decide +kernel
theorem dX10_lower_58 : decode cX10_lower 58 = .ok (.iconst 1, 1) := by decide +kernel
theorem dX10_lower_59 : decode cX10_lower 59 = .ok (.iadd, 1) := by decide +kernel
theorem dX10_lower_60 : decode cX10_lower 60 = .ok (.iaload, 1) := by decide +kernel
theorem dX10_lower_61 : decode cX10_lower 61 = .ok (.iadd, 1) := by decide +kernel
theorem dX10_lower_62 : decode cX10_lower 62 = .ok (.iastore, 1) := by decide +kernel
theorem dX10_lower_63 : decode cX10_lower 63 = .ok (.iinc 1 (-1), 3) := by decide +kernel
theorem dX10_lower_66 : decode cX10_lower 66 = .ok (.goto (-24), 3) := by decide +kernel
theorem dX10_lower_69 : decode cX10_lower 69 = .ok (.iconst 0, 1) := by decide +kernel
theorem dX10_lower_70 : decode cX10_lower 70 = .ok (.istore_n 1, 1) := by decide +kernel
theorem dX10_lower_71 : decode cX10_lower 71 = .ok (.iload_n 1, 1) := by decide +kernel
theorem dX10_lower_72 : decode cX10_lower 72 = .ok (.sipush 360, 3) := by decide +kernel
theorem dX10_lower_75 : decode cX10_lower 75 = .ok (.if_icmp .ge 35, 3) := by decide +kernel
theorem dX10_lower_78 : decode cX10_lower 78 = .ok (.aload_n 0, 1) := by decide +kernel
theorem dX10_lower_79 : decode cX10_lower 79 = .ok (.getfield 21, 3) := by decide +kernel
theorem dX10_lower_82 : decode cX10_lower 82 = .ok (.iload_n 1, 1) := by decide +kernel
theorem dX10_lower_83 : decode cX10_lower 83 = .ok (.aload_n 0, 1) := by decide +kernel
theorem dX10_lower_84 : decode cX10_lower 84 = .ok (.getfield 21, 3) := by decide +kernel
theorem dX10_lower_87 : decode cX10_lower 87 = .ok (.iload_n 1, 1) := by decide +kernel
theorem dX10_lower_88 : decode cX10_lower 88 = .ok (.iaload, 1) := by decide +kernel
theorem dX10_lower_89 : decode cX10_lower 89 = .ok (.aload_n 0, 1) := by decide +kernel
theorem dX10_lower_90 : decode cX10_lower 90 = .ok (.getfield 24, 3) := by decide +kernel
theorem dX10_lower_93 : decode cX10_lower 93 = .ok (.aload_n 0, 1) := by decide +kernel
theorem dX10_lower_94 : decode cX10_lower 94 = .ok (.getfield 18, 3) := by decide +kernel
theorem dX10_lower_97 : decode cX10_lower 97 = .ok (.iload_n 1, 1) := by decide +kernel
theorem dX10_lower_98 : decode cX10_lower 98 = .ok (.iaload, 1) := by decide +kernel
theorem dX10_lower_99 : decode cX10_lower 99 = .ok (.iaload, 1) := by decide +kernel
theorem dX10_lower_100 : decode cX10_lower 100 = .ok (.invokestatic 78, 3) := by decide +kernel
theorem dX10_lower_103 : decode cX10_lower 103 = .ok (.iastore, 1) := by decide +kernel
theorem dX10_lower_104 : decode cX10_lower 104 = .ok (.iinc 1 1, 3) := by decide +kernel
theorem dX10_lower_107 : decode cX10_lower 107 = .ok (.goto (-36), 3) := by decide +kernel
theorem dX10_lower_110 : decode cX10_lower 110 = .ok (.return_, 1) := by decide +kernel
set_option maxRecDepth 20000 in
theorem ggX11_init_X8_init : GoodIn wsX11_init wsX8_init := goodIn_r _ [50, 51, 2, 3, 52, 53, 54, 55, 44, 56, 57, 58, 59, 60, 158, 159, 160, 161, 162, 163, 164] (by decide +kernel) (by decide +kernel)
set_option maxRecDepth 20000 in
theorem gX11_init_X8_init_n11 : GoodIn wsX11_init (wsX8_init) := ggX11_init_X8_init
set_option maxRecDepth 20000 in
theorem ggX11_init_X9_init : GoodIn wsX11_init wsX9_init := goodIn_r _ [62, 63, 2, 3, 64, 65, 44, 66, 67, 68, 69, 70, 71, 72, 73, 74, 75, 76, 77, 78, 79, 80, 81, 82, 83, 84, 85, 86, 87, 88, 89, 90, 91, 92, 181, 182, 183, 184, 185, 186, 187, 188, 189, 190, 191, 192, 193, 194, 195, 196, 240, 241, 242, 243, 244, 245, 246] (by decide +kernel) (by decide +kernel)
set_option maxRecDepth 20000 in
theorem gX11_init_X9_init_n18 : GoodIn wsX11_init (wsX9_init) := ggX11_init_X9_init
set_option maxRecDepth 20000 in
theorem ggX11_init_X5_init : GoodIn wsX11_init wsX5_init := goodIn_r _ [95, 96, 2, 3, 97, 98, 99, 100, 101, 59, 102, 103, 104, 105, 197, 198, 199, 200, 201, 202, 203, 204, 205] (by decide +kernel) (by decide +kernel)
set_option maxRecDepth 20000 in
theorem gX11_init_X5_init : GoodIn wsX11_init (wsX5_init) := ggX11_init_X5_init
set_option maxRecDepth 20000 in
theorem ggX11_init_X7_init : GoodIn wsX11_init wsX7_init := goodIn_r _ [107, 108, 2, 3, 109, 110, 44, 111, 112, 113, 114, 115, 206, 207, 208, 209, 210, 211, 212] (by decide +kernel) (by decide +kernel)
set_option maxRecDepth 20000 in
theorem gX11_init_X7_init_n37 : GoodIn wsX11_init (wsX7_init) := ggX11_init_X7_init
set_option maxRecDepth 20000 in
theorem ggX11_init_X2_init : GoodIn wsX11_init wsX2_init := goodIn_r _ [117, 118, 2, 3, 119, 44, 120, 121, 122, 123, 47, 124, 125, 126, 127, 128, 129, 213, 214, 215, 216, 217, 218, 219, 220, 221, 222, 223] (by decide +kernel) (by decide +kernel)
set_option maxRecDepth 20000 in
theorem gX11_init_X2_init_n52 : GoodIn wsX11_init (wsX2_init) := ggX11_init_X2_init
set_option maxRecDepth 20000 in
theorem ggX11_init_X6_init : GoodIn wsX11_init wsX6_init := goodIn_r _ [131, 132, 2, 3, 133, 44, 134, 135, 136, 224, 225, 226, 227] (by decide +kernel) (by decide +kernel)
set_option maxRecDepth 20000 in
theorem gX11_init_X6_init_n59 : GoodIn wsX11_init (wsX6_init) := ggX11_init_X6_init
set_option maxRecDepth 20000 in
theorem ggX11_init_X10_init : GoodIn wsX11_init wsX10_init := goodIn_r _ [138, 139, 2, 3, 44, 140, 141, 142, 143, 144, 145, 146, 147, 228, 229, 230, 231, 232, 233, 234, 235] (by decide +kernel) (by decide +kernel)
set_option maxRecDepth 20000 in
theorem gX11_init_X10_init_n66 : GoodIn wsX11_init (wsX10_init) := ggX11_init_X10_init
set_option maxRecDepth 20000 in
theorem ggX11_init_X4_init : GoodIn wsX11_init wsX4_init := goodIn_r _ [149, 150, 2, 3, 44, 151, 152, 236, 237] (by decide +kernel) (by decide +kernel)
set_option maxRecDepth 20000 in
theorem gX11_init_X4_init_n73 : GoodIn wsX11_init (wsX4_init) := ggX11_init_X4_init
set_option maxRecDepth 20000 in
theorem ggX11_init_X3_init : GoodIn wsX11_init wsX3_init := goodIn_r _ [154, 155, 2, 3, 44, 156, 157, 238, 239] (by decide +kernel) (by decide +kernel)
set_option maxRecDepth 20000 in
theorem gX11_init_X3_init_n80 : GoodIn wsX11_init (wsX3_init) := ggX11_init_X3_init
theorem dX11_init_0 : decode cX11_init 0 = .ok (.aload_n 0, 1) := by decide +kernel
theorem dX11_init_1 : decode cX11_init 1 = .ok (.invokespecial 3, 3) := by decide +kernel
theorem dX11_init_4 : decode cX11_init 4 = .ok (.aload_n 0, 1) := by decide +kernel
theorem dX11_init_5 : decode cX11_init 5 = .ok (.new 9, 3) := by decide +kernel
theorem dX11_init_8 : decode cX11_init 8 = .ok (.dup, 1) := by decide +kernel
theorem dX11_init_9 : decode cX11_init 9 = .ok (.invokespecial 11, 3) := by decide +kernel
theorem dX11_init_12 : decode cX11_init 12 = .ok (.putfield 12, 3) := by decide +kernel
theorem dX11_init_15 : decode cX11_init 15 = .ok (.aload_n 0, 1) := by decide +kernel
theorem dX11_init_16 : decode cX11_init 16 = .ok (.new 16, 3) := by decide +kernel
theorem dX11_init_19 : decode cX11_init 19 = .ok (.dup, 1) := by decide +kernel
theorem dX11_init_20 : decode cX11_init 20 = .ok (.invokespecial 18, 3) := by decide +kernel
theorem dX11_init_23 : decode cX11_init 23 = .ok (.putfield 19, 3) := by decide +kernel
theorem dX11_init_26 : decode cX11_init 26 = .ok (.aload_n 0, 1) := by decide +kernel
theorem dX11_init_27 : decode cX11_init 27 = .ok (.new 16, 3) := by decide +kernel
theorem dX11_init_30 : decode cX11_init 30 = .ok (.dup, 1) := by decide +kernel
theorem dX11_init_31 : decode cX11_init 31 = .ok (.invokespecial 18, 3) := by decide +kernel
theorem dX11_init_34 : decode cX11_init 34 = .ok (.putfield 23, 3) := by decide +kernel
theorem dX11_init_37 : decode cX11_init 37 = .ok (.aload_n 0, 1) := by decide +kernel
theorem dX11_init_38 : decode cX11_init 38 = .ok (.new 26, 3) := by decide +kernel
theorem dX11_init_41 : decode cX11_init 41 = .ok (.dup, 1) := by decide +kernel
theorem dX11_init_42 : decode cX11_init 42 = .ok (.aload_n 0, 1) := by decide +kernel
theorem dX11_init_43 : decode cX11_init 43 = .ok (.getfield 12, 3) := by decide +kernel
theorem dX11_init_46 : decode cX11_init 46 = .ok (.aload_n 0, 1) := by decide +kernel
theorem dX11_init_47 : decode cX11_init 47 = .ok (.getfield 23, 3) := by decide +kernel
theorem dX11_init_50 : decode cX11_init 50 = .ok (.invokespecial 28, 3) := by decide +kernel
theorem dX11_init_53 : decode cX11_init 53 = .ok (.putfield 31, 3) := by decide +kernel
theorem dX11_init_56 : decode cX11_init 56 = .ok (.aload_n 0, 1) := by decide +kernel
theorem dX11_init_57 : decode cX11_init 57 = .ok (.new 35, 3) := by decide +kernel
theorem dX11_init_60 : decode cX11_init 60 = .ok (.dup, 1) := by decide +kernel
theorem dX11_init_61 : decode cX11_init 61 = .ok (.invokespecial 37, 3) := by decide +kernel
theorem dX11_init_64 : decode cX11_init 64 = .ok (.putfield 38, 3) := by decide +kernel
theorem dX11_init_67 : decode cX11_init 67 = .ok (.aload_n 0, 1) := by decide +kernel
theorem dX11_init_68 : decode cX11_init 68 = .ok (.iconst 3, 1) := by decide +kernel
theorem dX11_init_69 : decode cX11_init 69 = .ok (.anewarray 16, 3) := by decide +kernel
theorem dX11_init_72 : decode cX11_init 72 = .ok (.putfield 42, 3) := by decide +kernel
theorem dX11_init_75 : decode cX11_init 75 = .ok (.aload_n 0, 1) := by decide +kernel
theorem dX11_init_76 : decode cX11_init 76 = .ok (.iconst 3, 1) := by decide +kernel
theorem dX11_init_77 : decode cX11_init 77 = .ok (.anewarray 35, 3) := by decide +kernel
theorem dX11_init_80 : decode cX11_init 80 = .ok (.putfield 46, 3) := by decide +kernel
theorem dX11_init_83 : decode cX11_init 83 = .ok (.aload_n 0, 1) := by decide +kernel
theorem dX11_init_84 : decode cX11_init 84 = .ok (.new 50, 3) := by decide +kernel
theorem dX11_init_87 : decode cX11_init 87 = .ok (.dup, 1) := by decide +kernel
theorem dX11_init_88 : decode cX11_init 88 = .ok (.invokespecial 52, 3) := by decide +kernel
theorem dX11_init_91 : decode cX11_init 91 = .ok (.putfield 53, 3) := by decide +kernel
theorem dX11_init_94 : decode cX11_init 94 = .ok (.aload_n 0, 1) := by decide +kernel
theorem dX11_init_95 : decode cX11_init 95 = .ok (.new 57, 3) := by decide +kernel
theorem dX11_init_98 : decode cX11_init 98 = .ok (.dup, 1) := by decide +kernel
theorem dX11_init_99 : decode cX11_init 99 = .ok (.invokespecial 59, 3) := by decide +kernel
theorem dX11_init_102 : decode cX11_init 102 = .ok (.putfield 60, 3) := by decide +kernel
theorem dX11_init_105 : decode cX11_init 105 = .ok (.aload_n 0, 1) := by decide +kernel
theorem dX11_init_106 : decode cX11_init 106 = .ok (.new 64, 3) := by decide +kernel
theorem dX11_init_109 : decode cX11_init 109 = .ok (.dup, 1) := by decide +kernel
theorem dX11_init_110 : decode cX11_init 110 = .ok (.invokespecial 66, 3) := by decide +kernel
theorem dX11_init_113 : decode cX11_init 113 = .ok (.putfield 67, 3) := by decide +kernel
theorem dX11_init_116 : decode cX11_init 116 = .ok (.aload_n 0, 1) := by decide +kernel
theorem dX11_init_117 : decode cX11_init 117 = .ok (.new 71, 3) := by decide +kernel
theorem dX11_init_120 : decode cX11_init 120 = .ok (.dup, 1) := by decide +kernel
theorem dX11_init_121 : decode cX11_init 121 = .ok (.invokespecial 73, 3) := by decide +kernel
theorem dX11_init_124 : decode cX11_init 124 = .ok (.putfield 74, 3) := by decide +kernel
theorem dX11_init_127 : decode cX11_init 127 = .ok (.aload_n 0, 1) := by decide +kernel
theorem dX11_init_128 : decode cX11_init 128 = .ok (.new 78, 3) := by decide +kernel
theorem dX11_init_131 : decode cX11_init 131 = .ok (.dup, 1) := by decide +kernel
theorem dX11_init_132 : decode cX11_init 132 = .ok (.invokespecial 80, 3) := by decide +kernel
theorem dX11_init_135 : decode cX11_init 135 = .ok (.putfield 81, 3) := by decide +kernel
theorem dX11_init_138 : decode cX11_init 138 = .ok (.aload_n 0, 1) := by decide +kernel
theorem dX11_init_139 : decode cX11_init 139 = .ok (.iconst 0, 1) := by decide +kernel
theorem dX11_init_140 : decode cX11_init 140 = .ok (.putfield 85, 3) := by decide +kernel
theorem dX11_init_143 : decode cX11_init 143 = .ok (.aload_n 0, 1) := by decide +kernel
theorem dX11_init_144 : decode cX11_init 144 = .ok (.bipush 6, 2) := by decide +kernel
theorem dX11_init_146 : decode cX11_init 146 = .ok (.newarray .int, 2) := by decide +kernel
theorem dX11_init_148 : decode cX11_init 148 = .ok (.putfield 89, 3) := by decide +kernel
theorem dX11_init_151 : decode cX11_init 151 = .ok (.aload_n 0, 1) := by decide +kernel
theorem dX11_init_152 : decode cX11_init 152 = .ok (.bipush 6, 2) := by decide +kernel
theorem dX11_init_154 : decode cX11_init 154 = .ok (.newarray .int, 2) := by decide +kernel
theorem dX11_init_156 : decode cX11_init 156 = .ok (.putfield 93, 3) := by decide +kernel
theorem dX11_init_159 : decode cX11_init 159 = .ok (.aload_n 0, 1) := by decide +kernel
theorem dX11_init_160 : decode cX11_init 160 = .ok (.sipush 2001, 3) := by decide +kernel
theorem dX11_init_163 : decode cX11_init 163 = .ok (.newarray .boolean, 2) := by decide +kernel
theorem dX11_init_165 : decode cX11_init 165 = .ok (.putfield 96, 3) := by decide +kernel
theorem dX11_init_168 : decode cX11_init 168 = .ok (.return_, 1) := by decide +kernel
set_option maxRecDepth 20000 in
theorem ggX11_feed_X8_append : GoodIn wsX11_feed wsX8_append := goodIn_r _ [7, 8, 9, 26, 27, 28, 29, 30, 31, 32] (by decide +kernel) (by decide +kernel)
set_option maxRecDepth 20000 in
theorem gX11_feed_X8_append : GoodIn wsX11_feed (wsV RX11 103 RX8 yX8_append wsX8_append) := goodIn_app (goodIn_of _ (by decide +kernel)) ggX11_feed_X8_append
theorem dX11_feed_0 : decode cX11_feed 0 = .ok (.aload_n 0, 1) := by decide +kernel
theorem dX11_feed_1 : decode cX11_feed 1 = .ok (.getfield 12, 3) := by decide +kernel
theorem dX11_feed_4 : decode cX11_feed 4 = .ok (.getfield 100, 3) := by decide +kernel
theorem dX11_feed_7 : decode cX11_feed 7 = .ok (.bipush 20, 2) := by decide +kernel
theorem dX11_feed_9 : decode cX11_feed 9 = .ok (.iadd, 1) := by decide +kernel
theorem dX11_feed_10 : decode cX11_feed 10 = .ok (.sipush 2000, 3) := by decide +kernel
theorem dX11_feed_13 : decode cX11_feed 13 = .ok (.if_icmp .le 5, 3) := by decide +kernel
theorem dX11_feed_16 : decode cX11_feed 16 = .ok (.iconst (-1), 1) := by decide +kernel
theorem dX11_feed_17 : decode cX11_feed 17 = .ok (.ireturn, 1) := by decide +kernel
theorem dX11_feed_18 : decode cX11_feed 18 = .ok (.aload_n 0, 1) := by decide +kernel
theorem dX11_feed_19 : decode cX11_feed 19 = .ok (.getfield 12, 3) := by decide +kernel
theorem dX11_feed_22 : decode cX11_feed 22 = .ok (.iload_n 1, 1) := by decide +kernel
theorem dX11_feed_23 : decode cX11_feed 23 = .ok (.invokevirtual 103, 3) := by decide +kernel
theorem dX11_feed_26 : decode cX11_feed 26 = .ok (.aload_n 0, 1) := by decide +kernel
theorem dX11_feed_27 : decode cX11_feed 27 = .ok (.getfield 12, 3) := by decide +kernel
theorem dX11_feed_30 : decode cX11_feed 30 = .ok (.iload_n 2, 1) := by decide +kernel
theorem dX11_feed_31 : decode cX11_feed 31 = .ok (.invokevirtual 103, 3) := by decide +kernel
theorem dX11_feed_34 : decode cX11_feed 34 = .ok (.aload_n 0, 1) := by decide +kernel
theorem dX11_feed_35 : decode cX11_feed 35 = .ok (.getfield 12, 3) := by decide +kernel
theorem dX11_feed_38 : decode cX11_feed 38 = .ok (.iload_n 3, 1) := by decide +kernel
theorem dX11_feed_39 : decode cX11_feed 39 = .ok (.invokevirtual 103, 3) := by decide +kernel
theorem dX11_feed_42 : decode cX11_feed 42 = .ok (.aload_n 0, 1) := by decide +kernel
theorem dX11_feed_43 : decode cX11_feed 43 = .ok (.getfield 12, 3) := by decide +kernel
theorem dX11_feed_46 : decode cX11_feed 46 = .ok (.iload 4, 2) := by decide +kernel
theorem dX11_feed_48 : decode cX11_feed 48 = .ok (.invokevirtual 103, 3) := by decide +kernel
theorem dX11_feed_51 : decode cX11_feed 51 = .ok (.aload_n 0, 1) := by decide +kernel
theorem dX11_feed_52 : decode cX11_feed 52 = .ok (.getfield 12, 3) := by decide +kernel
theorem dX11_feed_55 : decode cX11_feed 55 = .ok (.iload 5, 2) := by decide +kernel
theorem dX11_feed_57 : decode cX11_feed 57 = .ok (.invokevirtual 103, 3) := by decide +kernel
theorem dX11_feed_60 : decode cX11_feed 60 = .ok (.aload_n 0, 1) := by decide +kernel
theorem dX11_feed_61 : decode cX11_feed 61 = .ok (.getfield 12, 3) := by decide +kernel
theorem dX11_feed_64 : decode cX11_feed 64 = .ok (.getfield 100, 3) := by decide +kernel
theorem dX11_feed_67 : decode cX11_feed 67 = .ok (.ireturn, 1) := by decide +kernel
theorem dX11_back_0 : decode cX11_back 0 = .ok (.iload_n 1, 1) := by decide +kernel
theorem dX11_back_1 : decode cX11_back 1 = .ok (.ifCond .lt 14, 3) := by decide +kernel
theorem dX11_back_4 : decode cX11_back 4 = .ok (.iload_n 1, 1) := by decide +kernel
theorem dX11_back_5 : decode cX11_back 5 = .ok (.aload_n 0, 1) := by decide +kernel
theorem dX11_back_6 : decode cX11_back 6 = .ok (.getfield 12, 3) := by decide +kernel
theorem dX11_back_9 : decode cX11_back 9 = .ok (.getfield 100, 3) := by decide +kernel
theorem dX11_back_12 : decode cX11_back 12 = .ok (.if_icmp .le 5, 3) := by decide +kernel
theorem dX11_back_15 : decode cX11_back 15 = .ok (.iconst (-1), 1) := by decide +kernel
theorem dX11_back_16 : decode cX11_back 16 = .ok (.ireturn, 1) := by decide +kernel
theorem dX11_back_17 : decode cX11_back 17 = .ok (.aload_n 0, 1) := by decide +kernel
theorem dX11_back_18 : decode cX11_back 18 = .ok (.getfield 12, 3) := by decide +kernel
theorem dX11_back_21 : decode cX11_back 21 = .ok (.dup, 1) := by decide +kernel
theorem dX11_back_22 : decode cX11_back 22 = .ok (.getfield 100, 3) := by decide +kernel
theorem dX11_back_25 : decode cX11_back 25 = .ok (.iload_n 1, 1) := by decide +kernel
theorem dX11_back_26 : decode cX11_back 26 = .ok (.isub, 1) := by decide +kernel
theorem dX11_back_27 : decode cX11_back 27 = .ok (.putfield 100, 3) := by decide +kernel
theorem dX11_back_30 : decode cX11_back 30 = .ok (.aload_n 0, 1) := by decide +kernel
theorem dX11_back_31 : decode cX11_back 31 = .ok (.getfield 12, 3) := by decide +kernel
theorem dX11_back_34 : decode cX11_back 34 = .ok (.getfield 100, 3) := by decide +kernel
theorem dX11_back_37 : decode cX11_back 37 = .ok (.ireturn, 1) := by decide +kernel
set_option maxRecDepth 20000 in
theorem ggX11_read_X8_cut : GoodIn wsX11_read wsX8_cut := goodIn_r _ [12, 13, 14, 15, 16, 17, 18, 19, 11, 20, 21, 22, 23, 24, 25, 26, 27, 28, 29, 30, 31, 32, 33, 34, 35, 36, 37, 38, 39, 40, 41, 42, 43, 44, 45, 46, 47, 48, 49, 50, 51, 52, 53, 54, 55, 56, 57, 58, 59, 60, 61, 62, 63, 64, 65, 66, 67, 68, 69, 70, 71, 72, 73, 74, 75, 76, 77, 78, 79, 80, 81, 82, 83, 84, 85, 86, 87, 88, 89, 90, 91, 92, 93, 94, 95, 96, 97, 98, 99, 100, 101, 102, 103, 104, 105, 106, 107, 282, 283, 284, 285, 286, 287, 288] (by decide +kernel) (by decide +kernel)
set_option maxRecDepth 20000 in
theorem gX11_read_X8_cut : GoodIn wsX11_read (wsV RX11 107 RX8 yX8_cut wsX8_cut) := goodIn_app (goodIn_of _ (by decide +kernel)) ggX11_read_X8_cut
set_option maxRecDepth 20000 in
theorem ggX11_read_X9_forget : GoodIn wsX11_read wsX9_forget := goodIn_r _ [112, 113, 114, 115, 116, 117, 118, 119, 120, 121, 122, 123, 124, 125, 126, 127, 128, 129, 130, 298, 299, 300, 301, 302, 303, 304, 305, 306, 307, 308, 309, 310, 311, 312, 313, 314, 315, 316, 317, 318, 319, 320] (by decide +kernel) (by decide +kernel)
set_option maxRecDepth 20000 in
theorem gX11_read_X9_forget : GoodIn wsX11_read (wsV RX11 110 RX9 yX9_forget wsX9_forget) := goodIn_app (goodIn_of _ (by decide +kernel)) ggX11_read_X9_forget
set_option maxRecDepth 20000 in
theorem ggX11_read_X5_tellAll : GoodIn wsX11_read wsX5_tellAll := goodIn_r _ [135, 136, 137, 138, 139, 140, 141, 142, 143, 144, 134, 145, 146, 147, 148, 149, 150, 151, 152, 153, 154, 155, 156, 157, 158, 159, 160, 161, 162, 163, 164, 165, 166, 167, 168, 169, 170, 171, 172, 173, 174, 175, 176, 177, 178, 179, 180, 181, 182, 183, 184, 185, 186, 187, 188, 189, 190, 191, 192, 193, 111, 194, 114, 195, 196, 197, 198, 199, 200, 201, 202, 203, 204, 205, 206, 207, 208, 209, 210, 211, 212, 213, 214, 215, 216, 217, 218, 219, 128, 220, 221, 130, 222, 223, 224, 225, 226, 227, 228, 229, 230, 231, 232, 233, 234, 235, 236, 237, 238, 239, 240, 241, 242, 243, 244, 245, 246, 247, 248, 249, 250, 251, 252, 253, 254, 255, 256, 257, 258, 289, 290, 291, 292, 293, 294, 295, 296, 297, 282, 283, 284, 285, 286, 287, 288, 298, 299, 300, 301, 302, 303, 304, 305, 306, 307, 308, 309, 310, 311, 312, 313, 314, 315, 316, 317, 318, 319, 320] (by decide +kernel) (by decide +kernel)
set_option maxRecDepth 20000 in
theorem gX11_read_X5_tellAll : GoodIn wsX11_read (wsV RX11 113 RX5 yX5_tellAll wsX5_tellAll) := goodIn_app (goodIn_of _ (by decide +kernel)) ggX11_read_X5_tellAll
set_option maxRecDepth 20000 in
theorem ggX11_read_X7_forget : GoodIn wsX11_read wsX7_forget := goodIn_r _ [263, 264, 265, 321, 322, 323, 324, 325, 326, 327] (by decide +kernel) (by decide +kernel)
set_option maxRecDepth 20000 in
theorem gX11_read_X7_forget : GoodIn wsX11_read (wsV RX11 120 RX7 yX7_forget wsX7_forget) := goodIn_app (goodIn_of _ (by decide +kernel)) ggX11_read_X7_forget
theorem dX11_read_0 : decode cX11_read 0 = .ok (.aload_n 0, 1) := by decide +kernel
theorem dX11_read_1 : decode cX11_read 1 = .ok (.getfield 12, 3) := by decide +kernel
theorem dX11_read_4 : decode cX11_read 4 = .ok (.invokevirtual 107, 3) := by decide +kernel
theorem dX11_read_7 : decode cX11_read 7 = .ok (.aload_n 0, 1) := by decide +kernel
theorem dX11_read_8 : decode cX11_read 8 = .ok (.getfield 12, 3) := by decide +kernel
theorem dX11_read_11 : decode cX11_read 11 = .ok (.iconst 0, 1) := by decide +kernel
theorem dX11_read_12 : decode cX11_read 12 = .ok (.putfield 100, 3) := by decide +kernel
theorem dX11_read_15 : decode cX11_read 15 = .ok (.aload_n 0, 1) := by decide +kernel
theorem dX11_read_16 : decode cX11_read 16 = .ok (.getfield 23, 3) := by decide +kernel
theorem dX11_read_19 : decode cX11_read 19 = .ok (.invokevirtual 110, 3) := by decide +kernel
theorem dX11_read_22 : decode cX11_read 22 = .ok (.aload_n 0, 1) := by decide +kernel
theorem dX11_read_23 : decode cX11_read 23 = .ok (.getfield 31, 3) := by decide +kernel
theorem dX11_read_26 : decode cX11_read 26 = .ok (.aload_n 0, 1) := by decide +kernel
theorem dX11_read_27 : decode cX11_read 27 = .ok (.getfield 23, 3) := by decide +kernel
theorem dX11_read_30 : decode cX11_read 30 = .ok (.invokevirtual 113, 3) := by decide +kernel
theorem dX11_read_33 : decode cX11_read 33 = .ok (.aload_n 0, 1) := by decide +kernel
theorem dX11_read_34 : decode cX11_read 34 = .ok (.getfield 31, 3) := by decide +kernel
theorem dX11_read_37 : decode cX11_read 37 = .ok (.getfield 117, 3) := by decide +kernel
theorem dX11_read_40 : decode cX11_read 40 = .ok (.ifCond .ne 28, 3) := by decide +kernel
theorem dX11_read_43 : decode cX11_read 43 = .ok (.aload_n 0, 1) := by decide +kernel
theorem dX11_read_44 : decode cX11_read 44 = .ok (.getfield 19, 3) := by decide +kernel
theorem dX11_read_47 : decode cX11_read 47 = .ok (.astore_n 1, 1) := by decide +kernel
theorem dX11_read_48 : decode cX11_read 48 = .ok (.aload_n 0, 1) := by decide +kernel
theorem dX11_read_49 : decode cX11_read 49 = .ok (.aload_n 0, 1) := by decide +kernel
theorem dX11_read_50 : decode cX11_read 50 = .ok (.getfield 23, 3) := by decide +kernel
theorem dX11_read_53 : decode cX11_read 53 = .ok (.putfield 19, 3) := by decide +kernel
theorem dX11_read_56 : decode cX11_read 56 = .ok (.aload_n 0, 1) := by decide +kernel
theorem dX11_read_57 : decode cX11_read 57 = .ok (.aload_n 1, 1) := by decide +kernel
theorem dX11_read_58 : decode cX11_read 58 = .ok (.putfield 23, 3) := by decide +kernel
theorem dX11_read_61 : decode cX11_read 61 = .ok (.aload_n 0, 1) := by decide +kernel
theorem dX11_read_62 : decode cX11_read 62 = .ok (.getfield 38, 3) := by decide +kernel
theorem dX11_read_65 : decode cX11_read 65 = .ok (.invokevirtual 120, 3) := by decide +kernel
theorem dX11_read_68 : decode cX11_read 68 = .ok (.aload_n 0, 1) := by decide +kernel
theorem dX11_read_69 : decode cX11_read 69 = .ok (.getfield 31, 3) := by decide +kernel
theorem dX11_read_72 : decode cX11_read 72 = .ok (.getfield 117, 3) := by decide +kernel
theorem dX11_read_75 : decode cX11_read 75 = .ok (.ireturn, 1) := by decide +kernel
theorem dX11_place_0 : decode cX11_place 0 = .ok (.aload_n 0, 1) := by decide +kernel
theorem dX11_place_1 : decode cX11_place 1 = .ok (.getfield 31, 3) := by decide +kernel
theorem dX11_place_4 : decode cX11_place 4 = .ok (.getfield 121, 3) := by decide +kernel
theorem dX11_place_7 : decode cX11_place 7 = .ok (.ireturn, 1) := by decide +kernel
set_option maxRecDepth 20000 in
theorem ggX11_found_X11_thingsInAll : GoodIn wsX11_found wsX11_thingsInAll := goodIn_r _ [8, 9, 10, 1, 3, 28, 29, 30, 31, 32, 33, 34, 35, 36, 37, 38, 39, 40, 41, 42, 43, 51, 52, 53, 54, 55, 56, 57, 58, 59, 60, 61, 62, 63, 64, 65, 66, 44, 45, 46, 47, 48, 49, 50] (by decide +kernel) (by decide +kernel)
set_option maxRecDepth 20000 in
theorem gX11_found_X11_thingsInAll : GoodIn wsX11_found (wsV RX11 124 RX11 yX11_thingsInAll wsX11_thingsInAll) := goodIn_app (goodIn_of _ (by decide +kernel)) ggX11_found_X11_thingsInAll
set_option maxRecDepth 20000 in
theorem ggX11_found_X11_isSpot : GoodIn wsX11_found wsX11_isSpot := goodIn_r _ [13] (by decide +kernel) (by decide +kernel)
set_option maxRecDepth 20000 in
theorem gX11_found_X11_isSpot : GoodIn wsX11_found (va_wsS RX11 131 yX11_isSpot wsX11_isSpot) := goodIn_app (goodIn_of _ (by decide +kernel)) ggX11_found_X11_isSpot
set_option maxRecDepth 20000 in
theorem ggX11_found_X11_isAge : GoodIn wsX11_found wsX11_isAge := goodIn_r _ [16] (by decide +kernel) (by decide +kernel)
set_option maxRecDepth 20000 in
theorem gX11_found_X11_isAge : GoodIn wsX11_found (va_wsS RX11 135 yX11_isAge wsX11_isAge) := goodIn_app (goodIn_of _ (by decide +kernel)) ggX11_found_X11_isAge
set_option maxRecDepth 20000 in
theorem ggX11_found_X7_note : GoodIn wsX11_found wsX7_note := goodIn_r _ [21, 22, 23, 24, 25, 26, 27, 44, 45, 46, 47, 48, 49, 50] (by decide +kernel) (by decide +kernel)
set_option maxRecDepth 20000 in
theorem gX11_found_X7_note : GoodIn wsX11_found (wsV RX11 139 RX7 yX7_note wsX7_note) := goodIn_app (goodIn_of _ (by decide +kernel)) ggX11_found_X7_note
theorem dX11_found_0 : decode cX11_found 0 = .ok (.aload_n 0, 1) := by decide +kernel
theorem dX11_found_1 : decode cX11_found 1 = .ok (.invokevirtual 124, 3) := by decide +kernel
theorem dX11_found_4 : decode cX11_found 4 = .ok (.istore 4, 2) := by decide +kernel
theorem dX11_found_6 : decode cX11_found 6 = .ok (.aload_n 0, 1) := by decide +kernel
theorem dX11_found_7 : decode cX11_found 7 = .ok (.getfield 38, 3) := by decide +kernel
theorem dX11_found_10 : decode cX11_found 10 = .ok (.getfield 128, 3) := by decide +kernel
theorem dX11_found_13 : decode cX11_found 13 = .ok (.bipush 60, 2) := by decide +kernel
theorem dX11_found_15 : decode cX11_found 15 = .ok (.if_icmp .ge 25, 3) := by decide +kernel
theorem dX11_found_18 : decode cX11_found 18 = .ok (.iload 4, 2) := by decide +kernel
theorem dX11_found_20 : decode cX11_found 20 = .ok (.bipush 14, 2) := by decide +kernel
theorem dX11_found_22 : decode cX11_found 22 = .ok (.if_icmp .ge 18, 3) := by decide +kernel
theorem dX11_found_25 : decode cX11_found 25 = .ok (.iload_n 1, 1) := by decide +kernel
theorem dX11_found_26 : decode cX11_found 26 = .ok (.iload_n 2, 1) := by decide +kernel
theorem dX11_found_27 : decode cX11_found 27 = .ok (.invokestatic 131, 3) := by decide +kernel
theorem dX11_found_30 : decode cX11_found 30 = .ok (.ifCond .eq 10, 3) := by decide +kernel
theorem dX11_found_33 : decode cX11_found 33 = .ok (.iload_n 3, 1) := by decide +kernel
theorem dX11_found_34 : decode cX11_found 34 = .ok (.invokestatic 135, 3) := by decide +kernel
theorem dX11_found_37 : decode cX11_found 37 = .ok (.ifCond .ne 5, 3) := by decide +kernel
theorem dX11_found_40 : decode cX11_found 40 = .ok (.iconst (-1), 1) := by decide +kernel
theorem dX11_found_41 : decode cX11_found 41 = .ok (.ireturn, 1) := by decide +kernel
theorem dX11_found_42 : decode cX11_found 42 = .ok (.aload_n 0, 1) := by decide +kernel
theorem dX11_found_43 : decode cX11_found 43 = .ok (.getfield 38, 3) := by decide +kernel
theorem dX11_found_46 : decode cX11_found 46 = .ok (.iconst 0, 1) := by decide +kernel
theorem dX11_found_47 : decode cX11_found 47 = .ok (.iload 4, 2) := by decide +kernel
theorem dX11_found_49 : decode cX11_found 49 = .ok (.iload_n 1, 1) := by decide +kernel
theorem dX11_found_50 : decode cX11_found 50 = .ok (.iload_n 2, 1) := by decide +kernel
theorem dX11_found_51 : decode cX11_found 51 = .ok (.iload_n 3, 1) := by decide +kernel
theorem dX11_found_52 : decode cX11_found 52 = .ok (.invokevirtual 139, 3) := by decide +kernel
theorem dX11_found_55 : decode cX11_found 55 = .ok (.pop, 1) := by decide +kernel
theorem dX11_found_56 : decode cX11_found 56 = .ok (.aload_n 0, 1) := by decide +kernel
theorem dX11_found_57 : decode cX11_found 57 = .ok (.getfield 38, 3) := by decide +kernel
theorem dX11_found_60 : decode cX11_found 60 = .ok (.dup, 1) := by decide +kernel
theorem dX11_found_61 : decode cX11_found 61 = .ok (.getfield 143, 3) := by decide +kernel
theorem dX11_found_64 : decode cX11_found 64 = .ok (.iconst 1, 1) := by decide +kernel
theorem dX11_found_65 : decode cX11_found 65 = .ok (.iadd, 1) := by decide +kernel
theorem dX11_found_66 : decode cX11_found 66 = .ok (.putfield 143, 3) := by decide +kernel
theorem dX11_found_69 : decode cX11_found 69 = .ok (.iload 4, 2) := by decide +kernel
theorem dX11_found_71 : decode cX11_found 71 = .ok (.ireturn, 1) := by decide +kernel
set_option maxRecDepth 20000 in
theorem ggX11_move_X11_isThing : GoodIn wsX11_move wsX11_isThing := goodIn_r _ [6, 7, 8, 9, 5, 10, 11, 12, 1, 13, 28, 29, 30, 31, 32, 33, 34, 35, 36, 37, 38, 39, 40, 41, 42, 43, 44, 45, 46, 47, 48, 49, 50, 51, 52, 53, 54, 55, 56, 57, 58, 59, 60, 61, 62, 63, 64, 65, 66] (by decide +kernel) (by decide +kernel)
set_option maxRecDepth 20000 in
theorem gX11_move_X11_isThing : GoodIn wsX11_move (wsV RX11 146 RX11 yX11_isThing wsX11_isThing) := goodIn_app (goodIn_of _ (by decide +kernel)) ggX11_move_X11_isThing
set_option maxRecDepth 20000 in
theorem ggX11_move_X11_isSpot : GoodIn wsX11_move wsX11_isSpot := goodIn_r _ [16] (by decide +kernel) (by decide +kernel)
set_option maxRecDepth 20000 in
theorem gX11_move_X11_isSpot : GoodIn wsX11_move (va_wsS RX11 131 yX11_isSpot wsX11_isSpot) := goodIn_app (goodIn_of _ (by decide +kernel)) ggX11_move_X11_isSpot
set_option maxRecDepth 20000 in
theorem ggX11_move_X7_note : GoodIn wsX11_move wsX7_note := goodIn_r _ [21, 22, 23, 24, 25, 26, 27, 60, 61, 62, 63, 64, 65, 66] (by decide +kernel) (by decide +kernel)
set_option maxRecDepth 20000 in
theorem gX11_move_X7_note : GoodIn wsX11_move (wsV RX11 139 RX7 yX7_note wsX7_note) := goodIn_app (goodIn_of _ (by decide +kernel)) ggX11_move_X7_note
theorem dX11_move_0 : decode cX11_move 0 = .ok (.aload_n 0, 1) := by decide +kernel
theorem dX11_move_1 : decode cX11_move 1 = .ok (.iload_n 1, 1) := by decide +kernel
theorem dX11_move_2 : decode cX11_move 2 = .ok (.invokevirtual 146, 3) := by decide +kernel
theorem dX11_move_5 : decode cX11_move 5 = .ok (.ifCond .eq 11, 3) := by decide +kernel
theorem dX11_move_8 : decode cX11_move 8 = .ok (.iload_n 2, 1) := by decide +kernel
theorem dX11_move_9 : decode cX11_move 9 = .ok (.iload_n 3, 1) := by decide +kernel
theorem dX11_move_10 : decode cX11_move 10 = .ok (.invokestatic 131, 3) := by decide +kernel
theorem dX11_move_13 : decode cX11_move 13 = .ok (.ifCond .ne 5, 3) := by decide +kernel
theorem dX11_move_16 : decode cX11_move 16 = .ok (.iconst (-1), 1) := by decide +kernel
theorem dX11_move_17 : decode cX11_move 17 = .ok (.ireturn, 1) := by decide +kernel
theorem dX11_move_18 : decode cX11_move 18 = .ok (.aload_n 0, 1) := by decide +kernel
theorem dX11_move_19 : decode cX11_move 19 = .ok (.getfield 38, 3) := by decide +kernel
theorem dX11_move_22 : decode cX11_move 22 = .ok (.iconst 1, 1) := by decide +kernel
theorem dX11_move_23 : decode cX11_move 23 = .ok (.iload_n 1, 1) := by decide +kernel
theorem dX11_move_24 : decode cX11_move 24 = .ok (.iload_n 2, 1) := by decide +kernel
theorem dX11_move_25 : decode cX11_move 25 = .ok (.iload_n 3, 1) := by decide +kernel
theorem dX11_move_26 : decode cX11_move 26 = .ok (.iconst 0, 1) := by decide +kernel
theorem dX11_move_27 : decode cX11_move 27 = .ok (.invokevirtual 139, 3) := by decide +kernel
theorem dX11_move_30 : decode cX11_move 30 = .ok (.ireturn, 1) := by decide +kernel
set_option maxRecDepth 20000 in
theorem ggX11_gone_X11_isThing : GoodIn wsX11_gone wsX11_isThing := goodIn_r _ [6, 7, 8, 9, 5, 10, 11, 12, 1, 13, 25, 26, 27, 28, 29, 30, 31, 32, 33, 34, 35, 36, 37, 38, 39, 40, 41, 42, 43, 44, 45, 46, 47, 48, 49, 50, 51, 52, 53, 54, 55, 56, 57, 58, 59, 60, 61, 62, 63] (by decide +kernel) (by decide +kernel)
set_option maxRecDepth 20000 in
theorem gX11_gone_X11_isThing : GoodIn wsX11_gone (wsV RX11 146 RX11 yX11_isThing wsX11_isThing) := goodIn_app (goodIn_of _ (by decide +kernel)) ggX11_gone_X11_isThing
set_option maxRecDepth 20000 in
theorem ggX11_gone_X7_note : GoodIn wsX11_gone wsX7_note := goodIn_r _ [18, 19, 20, 21, 22, 23, 24, 57, 58, 59, 60, 61, 62, 63] (by decide +kernel) (by decide +kernel)
set_option maxRecDepth 20000 in
theorem gX11_gone_X7_note : GoodIn wsX11_gone (wsV RX11 139 RX7 yX7_note wsX7_note) := goodIn_app (goodIn_of _ (by decide +kernel)) ggX11_gone_X7_note
theorem dX11_gone_0 : decode cX11_gone 0 = .ok (.aload_n 0, 1) := by decide +kernel
theorem dX11_gone_1 : decode cX11_gone 1 = .ok (.iload_n 1, 1) := by decide +kernel
theorem dX11_gone_2 : decode cX11_gone 2 = .ok (.invokevirtual 146, 3) := by decide +kernel
theorem dX11_gone_5 : decode cX11_gone 5 = .ok (.ifCond .ne 5, 3) := by decide +kernel
theorem dX11_gone_8 : decode cX11_gone 8 = .ok (.iconst (-1), 1) := by decide +kernel
theorem dX11_gone_9 : decode cX11_gone 9 = .ok (.ireturn, 1) := by decide +kernel
theorem dX11_gone_10 : decode cX11_gone 10 = .ok (.aload_n 0, 1) := by decide +kernel
theorem dX11_gone_11 : decode cX11_gone 11 = .ok (.getfield 38, 3) := by decide +kernel
theorem dX11_gone_14 : decode cX11_gone 14 = .ok (.iconst 2, 1) := by decide +kernel
theorem dX11_gone_15 : decode cX11_gone 15 = .ok (.iload_n 1, 1) := by decide +kernel
theorem dX11_gone_16 : decode cX11_gone 16 = .ok (.iconst 0, 1) := by decide +kernel
theorem dX11_gone_17 : decode cX11_gone 17 = .ok (.iconst 0, 1) := by decide +kernel
theorem dX11_gone_18 : decode cX11_gone 18 = .ok (.iconst 0, 1) := by decide +kernel
theorem dX11_gone_19 : decode cX11_gone 19 = .ok (.invokevirtual 139, 3) := by decide +kernel
theorem dX11_gone_22 : decode cX11_gone 22 = .ok (.ireturn, 1) := by decide +kernel
set_option maxRecDepth 20000 in
theorem ggX11_date_X11_isThing : GoodIn wsX11_date wsX11_isThing := goodIn_r _ [6, 7, 8, 9, 5, 10, 11, 12, 1, 13, 28, 29, 30, 31, 32, 33, 34, 35, 36, 37, 38, 39, 40, 41, 42, 43, 44, 45, 46, 47, 48, 49, 50, 51, 52, 53, 54, 55, 56, 57, 58, 59, 60, 61, 62, 63, 64, 65, 66] (by decide +kernel) (by decide +kernel)
set_option maxRecDepth 20000 in
theorem gX11_date_X11_isThing : GoodIn wsX11_date (wsV RX11 146 RX11 yX11_isThing wsX11_isThing) := goodIn_app (goodIn_of _ (by decide +kernel)) ggX11_date_X11_isThing
set_option maxRecDepth 20000 in
theorem ggX11_date_X11_isAge : GoodIn wsX11_date wsX11_isAge := goodIn_r _ [16] (by decide +kernel) (by decide +kernel)
set_option maxRecDepth 20000 in
theorem gX11_date_X11_isAge : GoodIn wsX11_date (va_wsS RX11 135 yX11_isAge wsX11_isAge) := goodIn_app (goodIn_of _ (by decide +kernel)) ggX11_date_X11_isAge
set_option maxRecDepth 20000 in
theorem ggX11_date_X7_note : GoodIn wsX11_date wsX7_note := goodIn_r _ [21, 22, 23, 24, 25, 26, 27, 60, 61, 62, 63, 64, 65, 66] (by decide +kernel) (by decide +kernel)
set_option maxRecDepth 20000 in
theorem gX11_date_X7_note : GoodIn wsX11_date (wsV RX11 139 RX7 yX7_note wsX7_note) := goodIn_app (goodIn_of _ (by decide +kernel)) ggX11_date_X7_note
theorem dX11_date_0 : decode cX11_date 0 = .ok (.aload_n 0, 1) := by decide +kernel
theorem dX11_date_1 : decode cX11_date 1 = .ok (.iload_n 1, 1) := by decide +kernel
theorem dX11_date_2 : decode cX11_date 2 = .ok (.invokevirtual 146, 3) := by decide +kernel
theorem dX11_date_5 : decode cX11_date 5 = .ok (.ifCond .eq 10, 3) := by decide +kernel
theorem dX11_date_8 : decode cX11_date 8 = .ok (.iload_n 2, 1) := by decide +kernel
theorem dX11_date_9 : decode cX11_date 9 = .ok (.invokestatic 135, 3) := by decide +kernel
theorem dX11_date_12 : decode cX11_date 12 = .ok (.ifCond .ne 5, 3) := by decide +kernel
theorem dX11_date_15 : decode cX11_date 15 = .ok (.iconst (-1), 1) := by decide +kernel
theorem dX11_date_16 : decode cX11_date 16 = .ok (.ireturn, 1) := by decide +kernel
theorem dX11_date_17 : decode cX11_date 17 = .ok (.aload_n 0, 1) := by decide +kernel
theorem dX11_date_18 : decode cX11_date 18 = .ok (.getfield 38, 3) := by decide +kernel
theorem dX11_date_21 : decode cX11_date 21 = .ok (.iconst 3, 1) := by decide +kernel
theorem dX11_date_22 : decode cX11_date 22 = .ok (.iload_n 1, 1) := by decide +kernel
theorem dX11_date_23 : decode cX11_date 23 = .ok (.iconst 0, 1) := by decide +kernel
theorem dX11_date_24 : decode cX11_date 24 = .ok (.iconst 0, 1) := by decide +kernel
theorem dX11_date_25 : decode cX11_date 25 = .ok (.iload_n 2, 1) := by decide +kernel
theorem dX11_date_26 : decode cX11_date 26 = .ok (.invokevirtual 139, 3) := by decide +kernel
theorem dX11_date_29 : decode cX11_date 29 = .ok (.ireturn, 1) := by decide +kernel
set_option maxRecDepth 20000 in
theorem ggX11_annul_X7_note : GoodIn wsX11_annul wsX7_note := goodIn_r _ [8, 9, 10, 11, 12, 13, 14, 31, 32, 33, 34, 35, 36, 37] (by decide +kernel) (by decide +kernel)
set_option maxRecDepth 20000 in
theorem gX11_annul_X7_note : GoodIn wsX11_annul (wsV RX11 139 RX7 yX7_note wsX7_note) := goodIn_app (goodIn_of _ (by decide +kernel)) ggX11_annul_X7_note
theorem dX11_annul_0 : decode cX11_annul 0 = .ok (.iload_n 1, 1) := by decide +kernel
theorem dX11_annul_1 : decode cX11_annul 1 = .ok (.ifCond .lt 27, 3) := by decide +kernel
theorem dX11_annul_4 : decode cX11_annul 4 = .ok (.iload_n 1, 1) := by decide +kernel
theorem dX11_annul_5 : decode cX11_annul 5 = .ok (.aload_n 0, 1) := by decide +kernel
theorem dX11_annul_6 : decode cX11_annul 6 = .ok (.getfield 38, 3) := by decide +kernel
theorem dX11_annul_9 : decode cX11_annul 9 = .ok (.getfield 128, 3) := by decide +kernel
theorem dX11_annul_12 : decode cX11_annul 12 = .ok (.if_icmp .ge 16, 3) := by decide +kernel
theorem dX11_annul_15 : decode cX11_annul 15 = .ok (.aload_n 0, 1) := by decide +kernel
theorem dX11_annul_16 : decode cX11_annul 16 = .ok (.getfield 38, 3) := by decide +kernel
theorem dX11_annul_19 : decode cX11_annul 19 = .ok (.getfield 149, 3) := by decide +kernel
theorem dX11_annul_22 : decode cX11_annul 22 = .ok (.iload_n 1, 1) := by decide +kernel
theorem dX11_annul_23 : decode cX11_annul 23 = .ok (.iaload, 1) := by decide +kernel
theorem dX11_annul_24 : decode cX11_annul 24 = .ok (.iconst 4, 1) := by decide +kernel
theorem dX11_annul_25 : decode cX11_annul 25 = .ok (.if_icmp .ne 5, 3) := by decide +kernel
theorem dX11_annul_28 : decode cX11_annul 28 = .ok (.iconst (-1), 1) := by decide +kernel
theorem dX11_annul_29 : decode cX11_annul 29 = .ok (.ireturn, 1) := by decide +kernel
theorem dX11_annul_30 : decode cX11_annul 30 = .ok (.aload_n 0, 1) := by decide +kernel
theorem dX11_annul_31 : decode cX11_annul 31 = .ok (.getfield 38, 3) := by decide +kernel
theorem dX11_annul_34 : decode cX11_annul 34 = .ok (.iconst 4, 1) := by decide +kernel
theorem dX11_annul_35 : decode cX11_annul 35 = .ok (.iload_n 1, 1) := by decide +kernel
theorem dX11_annul_36 : decode cX11_annul 36 = .ok (.iconst 0, 1) := by decide +kernel
theorem dX11_annul_37 : decode cX11_annul 37 = .ok (.iconst 0, 1) := by decide +kernel
theorem dX11_annul_38 : decode cX11_annul 38 = .ok (.iconst 0, 1) := by decide +kernel
theorem dX11_annul_39 : decode cX11_annul 39 = .ok (.invokevirtual 139, 3) := by decide +kernel
theorem dX11_annul_42 : decode cX11_annul 42 = .ok (.ireturn, 1) := by decide +kernel
set_option maxRecDepth 20000 in
theorem ggX11_thing_X11_isThing : GoodIn wsX11_thing wsX11_isThing := goodIn_r _ [13, 14, 15, 16, 12, 17, 2, 18, 3, 19, 56, 57, 58, 59, 60, 61, 62, 63, 64, 65, 66, 67, 68, 69, 70, 71, 83, 84, 85, 86, 87, 88, 89, 90, 91, 92, 93, 94, 95, 96, 97, 98, 99, 100, 101, 102, 103, 104, 105] (by decide +kernel) (by decide +kernel)
set_option maxRecDepth 20000 in
theorem gX11_thing_X11_isThing : GoodIn wsX11_thing (wsV RX11 146 RX11 yX11_isThing wsX11_isThing) := goodIn_app (goodIn_of _ (by decide +kernel)) ggX11_thing_X11_isThing
set_option maxRecDepth 20000 in
theorem ggX11_thing_X11_isKnown : GoodIn wsX11_thing wsX11_isKnown := goodIn_r _ [23, 3, 24, 56, 57, 58, 59, 60, 61, 62, 63, 64, 65, 66, 67, 68, 69, 70, 71, 99, 100, 101, 102, 103, 104, 105] (by decide +kernel) (by decide +kernel)
set_option maxRecDepth 20000 in
theorem gX11_thing_X11_isKnown : GoodIn wsX11_thing (wsV RX11 152 RX11 yX11_isKnown wsX11_isKnown) := goodIn_app (goodIn_of _ (by decide +kernel)) ggX11_thing_X11_isKnown
set_option maxRecDepth 20000 in
theorem ggX11_thing_X2_know : GoodIn wsX11_thing wsX2_know := goodIn_r _ [29, 30, 31, 32, 33, 34, 35, 36, 37, 38, 39, 40, 41, 42, 43, 44, 45, 46, 47, 48, 49, 50, 51, 28, 52, 53, 54, 55, 83, 84, 85, 86, 87, 88, 89, 90, 91, 92, 93, 94, 95, 96, 97, 98, 72, 73, 74, 75, 76, 77, 78, 79, 80, 81, 82, 99, 100, 101, 102, 103, 104, 105] (by decide +kernel) (by decide +kernel)
set_option maxRecDepth 20000 in
theorem gX11_thing_X2_know : GoodIn wsX11_thing (wsV RX11 155 RX2 yX2_know wsX2_know) := goodIn_app (goodIn_of _ (by decide +kernel)) ggX11_thing_X2_know
theorem dX11_thing_0 : decode cX11_thing 0 = .ok (.aload_n 0, 1) := by decide +kernel
theorem dX11_thing_1 : decode cX11_thing 1 = .ok (.iload_n 1, 1) := by decide +kernel
theorem dX11_thing_2 : decode cX11_thing 2 = .ok (.invokevirtual 146, 3) := by decide +kernel
theorem dX11_thing_5 : decode cX11_thing 5 = .ok (.ifCond .eq 11, 3) := by decide +kernel
theorem dX11_thing_8 : decode cX11_thing 8 = .ok (.aload_n 0, 1) := by decide +kernel
theorem dX11_thing_9 : decode cX11_thing 9 = .ok (.iload_n 3, 1) := by decide +kernel
theorem dX11_thing_10 : decode cX11_thing 10 = .ok (.invokevirtual 152, 3) := by decide +kernel
theorem dX11_thing_13 : decode cX11_thing 13 = .ok (.ifCond .ne 5, 3) := by decide +kernel
theorem dX11_thing_16 : decode cX11_thing 16 = .ok (.iconst (-1), 1) := by decide +kernel
theorem dX11_thing_17 : decode cX11_thing 17 = .ok (.ireturn, 1) := by decide +kernel
theorem dX11_thing_18 : decode cX11_thing 18 = .ok (.aload_n 0, 1) := by decide +kernel
theorem dX11_thing_19 : decode cX11_thing 19 = .ok (.getfield 53, 3) := by decide +kernel
theorem dX11_thing_22 : decode cX11_thing 22 = .ok (.aload_n 0, 1) := by decide +kernel
theorem dX11_thing_23 : decode cX11_thing 23 = .ok (.getfield 19, 3) := by decide +kernel
theorem dX11_thing_26 : decode cX11_thing 26 = .ok (.aload_n 0, 1) := by decide +kernel
theorem dX11_thing_27 : decode cX11_thing 27 = .ok (.getfield 38, 3) := by decide +kernel
theorem dX11_thing_30 : decode cX11_thing 30 = .ok (.iload_n 3, 1) := by decide +kernel
theorem dX11_thing_31 : decode cX11_thing 31 = .ok (.invokevirtual 155, 3) := by decide +kernel
theorem dX11_thing_34 : decode cX11_thing 34 = .ok (.iload_n 2, 1) := by decide +kernel
theorem dX11_thing_35 : decode cX11_thing 35 = .ok (.tableswitch 91 0 4 #[33, 43, 53, 63, 73], 33) := by decide +kernel
theorem dX11_thing_68 : decode cX11_thing 68 = .ok (.aload_n 0, 1) := by decide +kernel
theorem dX11_thing_69 : decode cX11_thing 69 = .ok (.getfield 53, 3) := by decide +kernel
theorem dX11_thing_72 : decode cX11_thing 72 = .ok (.getfield 159, 3) := by decide +kernel
theorem dX11_thing_75 : decode cX11_thing 75 = .ok (.iload_n 1, 1) := by decide +kernel
theorem dX11_thing_76 : decode cX11_thing 76 = .ok (.iaload, 1) := by decide +kernel
theorem dX11_thing_77 : decode cX11_thing 77 = .ok (.ireturn, 1) := by decide +kernel
theorem dX11_thing_78 : decode cX11_thing 78 = .ok (.aload_n 0, 1) := by decide +kernel
theorem dX11_thing_79 : decode cX11_thing 79 = .ok (.getfield 53, 3) := by decide +kernel
theorem dX11_thing_82 : decode cX11_thing 82 = .ok (.getfield 162, 3) := by decide +kernel
theorem dX11_thing_85 : decode cX11_thing 85 = .ok (.iload_n 1, 1) := by decide +kernel
theorem dX11_thing_86 : decode cX11_thing 86 = .ok (.iaload, 1) := by decide +kernel
theorem dX11_thing_87 : decode cX11_thing 87 = .ok (.ireturn, 1) := by decide +kernel
theorem dX11_thing_88 : decode cX11_thing 88 = .ok (.aload_n 0, 1) := by decide +kernel
theorem dX11_thing_89 : decode cX11_thing 89 = .ok (.getfield 53, 3) := by decide +kernel
theorem dX11_thing_92 : decode cX11_thing 92 = .ok (.getfield 165, 3) := by decide +kernel
theorem dX11_thing_95 : decode cX11_thing 95 = .ok (.iload_n 1, 1) := by decide +kernel
theorem dX11_thing_96 : decode cX11_thing 96 = .ok (.iaload, 1) := by decide +kernel
theorem dX11_thing_97 : decode cX11_thing 97 = .ok (.ireturn, 1) := by decide +kernel
theorem dX11_thing_98 : decode cX11_thing 98 = .ok (.aload_n 0, 1) := by decide +kernel
theorem dX11_thing_99 : decode cX11_thing 99 = .ok (.getfield 53, 3) := by decide +kernel
theorem dX11_thing_102 : decode cX11_thing 102 = .ok (.getfield 168, 3) := by decide +kernel
theorem dX11_thing_105 : decode cX11_thing 105 = .ok (.iload_n 1, 1) := by decide +kernel
theorem dX11_thing_106 : decode cX11_thing 106 = .ok (.iaload, 1) := by decide +kernel
theorem dX11_thing_107 : decode cX11_thing 107 = .ok (.ireturn, 1) := by decide +kernel
theorem dX11_thing_108 : decode cX11_thing 108 = .ok (.aload_n 0, 1) := by decide +kernel
theorem dX11_thing_109 : decode cX11_thing 109 = .ok (.getfield 53, 3) := by decide +kernel
theorem dX11_thing_112 : decode cX11_thing 112 = .ok (.getfield 171, 3) := by decide +kernel
theorem dX11_thing_115 : decode cX11_thing 115 = .ok (.iload_n 1, 1) := by decide +kernel
theorem dX11_thing_116 : decode cX11_thing 116 = .ok (.baload, 1) := by decide +kernel
theorem dX11_thing_117 : decode cX11_thing 117 = .ok (.ifCond .eq 7, 3) := by decide +kernel
theorem dX11_thing_120 : decode cX11_thing 120 = .ok (.iconst 1, 1) := by decide +kernel
theorem dX11_thing_121 : decode cX11_thing 121 = .ok (.goto 4, 3) := by decide +kernel
theorem dX11_thing_124 : decode cX11_thing 124 = .ok (.iconst 0, 1) := by decide +kernel
theorem dX11_thing_125 : decode cX11_thing 125 = .ok (.ireturn, 1) := by decide +kernel
theorem dX11_thing_126 : decode cX11_thing 126 = .ok (.iconst (-1), 1) := by decide +kernel
theorem dX11_thing_127 : decode cX11_thing 127 = .ok (.ireturn, 1) := by decide +kernel
set_option maxRecDepth 20000 in
theorem ggX11_degree_X1_bearing : GoodIn wsX11_degree wsX1_bearing := goodIn_r _ [4, 5, 6, 7, 8, 9, 10, 11, 12, 13, 14] (by decide +kernel) (by decide +kernel)
set_option maxRecDepth 20000 in
theorem gX11_degree_X1_bearing : GoodIn wsX11_degree (va_wsS RX11 174 yX1_bearing wsX1_bearing) := goodIn_app (goodIn_of _ (by decide +kernel)) ggX11_degree_X1_bearing
theorem dX11_degree_0 : decode cX11_degree 0 = .ok (.iload_n 1, 1) := by decide +kernel
theorem dX11_degree_1 : decode cX11_degree 1 = .ok (.sipush (-9999), 3) := by decide +kernel
theorem dX11_degree_4 : decode cX11_degree 4 = .ok (.if_icmp .lt 24, 3) := by decide +kernel
theorem dX11_degree_7 : decode cX11_degree 7 = .ok (.iload_n 1, 1) := by decide +kernel
theorem dX11_degree_8 : decode cX11_degree 8 = .ok (.sipush 9999, 3) := by decide +kernel
theorem dX11_degree_11 : decode cX11_degree 11 = .ok (.if_icmp .gt 17, 3) := by decide +kernel
theorem dX11_degree_14 : decode cX11_degree 14 = .ok (.iload_n 2, 1) := by decide +kernel
theorem dX11_degree_15 : decode cX11_degree 15 = .ok (.sipush (-9999), 3) := by decide +kernel
theorem dX11_degree_18 : decode cX11_degree 18 = .ok (.if_icmp .lt 10, 3) := by decide +kernel
theorem dX11_degree_21 : decode cX11_degree 21 = .ok (.iload_n 2, 1) := by decide +kernel
theorem dX11_degree_22 : decode cX11_degree 22 = .ok (.sipush 9999, 3) := by decide +kernel
theorem dX11_degree_25 : decode cX11_degree 25 = .ok (.if_icmp .le 5, 3) := by decide +kernel
theorem dX11_degree_28 : decode cX11_degree 28 = .ok (.iconst (-1), 1) := by decide +kernel
theorem dX11_degree_29 : decode cX11_degree 29 = .ok (.ireturn, 1) := by decide +kernel
theorem dX11_degree_30 : decode cX11_degree 30 = .ok (.iload_n 1, 1) := by decide +kernel
theorem dX11_degree_31 : decode cX11_degree 31 = .ok (.iload_n 2, 1) := by decide +kernel
theorem dX11_degree_32 : decode cX11_degree 32 = .ok (.invokestatic 174, 3) := by decide +kernel
theorem dX11_degree_35 : decode cX11_degree 35 = .ok (.ireturn, 1) := by decide +kernel
set_option maxRecDepth 20000 in
theorem ggX11_vector_X11_isDegree : GoodIn wsX11_vector wsX11_isDegree := goodIn_r _ [4] (by decide +kernel) (by decide +kernel)
set_option maxRecDepth 20000 in
theorem gX11_vector_X11_isDegree : GoodIn wsX11_vector (va_wsS RX11 180 yX11_isDegree wsX11_isDegree) := goodIn_app (goodIn_of _ (by decide +kernel)) ggX11_vector_X11_isDegree
set_option maxRecDepth 20000 in
theorem ggX11_vector_X1_eastward : GoodIn wsX11_vector wsX1_eastward := goodIn_r _ [8] (by decide +kernel) (by decide +kernel)
set_option maxRecDepth 20000 in
theorem gX11_vector_X1_eastward : GoodIn wsX11_vector (va_wsS RX11 183 yX1_eastward wsX1_eastward) := goodIn_app (goodIn_of _ (by decide +kernel)) ggX11_vector_X1_eastward
set_option maxRecDepth 20000 in
theorem ggX11_vector_X1_northward : GoodIn wsX11_vector wsX1_northward := goodIn_r _ [11] (by decide +kernel) (by decide +kernel)
set_option maxRecDepth 20000 in
theorem gX11_vector_X1_northward : GoodIn wsX11_vector (va_wsS RX11 187 yX1_northward wsX1_northward) := goodIn_app (goodIn_of _ (by decide +kernel)) ggX11_vector_X1_northward
theorem dX11_vector_0 : decode cX11_vector 0 = .ok (.iload_n 1, 1) := by decide +kernel
theorem dX11_vector_1 : decode cX11_vector 1 = .ok (.invokestatic 180, 3) := by decide +kernel
theorem dX11_vector_4 : decode cX11_vector 4 = .ok (.ifCond .eq 12, 3) := by decide +kernel
theorem dX11_vector_7 : decode cX11_vector 7 = .ok (.iload_n 2, 1) := by decide +kernel
theorem dX11_vector_8 : decode cX11_vector 8 = .ok (.ifCond .lt 8, 3) := by decide +kernel
theorem dX11_vector_11 : decode cX11_vector 11 = .ok (.iload_n 2, 1) := by decide +kernel
theorem dX11_vector_12 : decode cX11_vector 12 = .ok (.iconst 1, 1) := by decide +kernel
theorem dX11_vector_13 : decode cX11_vector 13 = .ok (.if_icmp .le 6, 3) := by decide +kernel
theorem dX11_vector_16 : decode cX11_vector 16 = .ok (.bipush (-100), 2) := by decide +kernel
theorem dX11_vector_18 : decode cX11_vector 18 = .ok (.ireturn, 1) := by decide +kernel
theorem dX11_vector_19 : decode cX11_vector 19 = .ok (.iload_n 2, 1) := by decide +kernel
theorem dX11_vector_20 : decode cX11_vector 20 = .ok (.ifCond .ne 10, 3) := by decide +kernel
theorem dX11_vector_23 : decode cX11_vector 23 = .ok (.iload_n 1, 1) := by decide +kernel
theorem dX11_vector_24 : decode cX11_vector 24 = .ok (.invokestatic 183, 3) := by decide +kernel
theorem dX11_vector_27 : decode cX11_vector 27 = .ok (.goto 7, 3) := by decide +kernel
theorem dX11_vector_30 : decode cX11_vector 30 = .ok (.iload_n 1, 1) := by decide +kernel
theorem dX11_vector_31 : decode cX11_vector 31 = .ok (.invokestatic 187, 3) := by decide +kernel
theorem dX11_vector_34 : decode cX11_vector 34 = .ok (.ireturn, 1) := by decide +kernel
set_option maxRecDepth 20000 in
theorem ggX11_line_X11_isKnown : GoodIn wsX11_line wsX11_isKnown := goodIn_r _ [9, 3, 10, 95, 96, 97, 98, 99, 100, 101, 102, 103, 104, 105, 106, 107, 108, 109, 110, 122, 123, 124, 125, 126, 127, 128] (by decide +kernel) (by decide +kernel)
set_option maxRecDepth 20000 in
theorem gX11_line_X11_isKnown : GoodIn wsX11_line (wsV RX11 152 RX11 yX11_isKnown wsX11_isKnown) := goodIn_app (goodIn_of _ (by decide +kernel)) ggX11_line_X11_isKnown
set_option maxRecDepth 20000 in
theorem ggX11_line_X2_know : GoodIn wsX11_line wsX2_know := goodIn_r _ [15, 16, 17, 18, 19, 20, 21, 22, 23, 24, 25, 26, 27, 28, 29, 30, 31, 32, 33, 34, 35, 36, 37, 14, 38, 39, 40, 41, 129, 130, 131, 132, 133, 134, 135, 136, 137, 138, 139, 140, 141, 142, 143, 144, 111, 112, 113, 114, 115, 116, 117, 118, 119, 120, 121, 122, 123, 124, 125, 126, 127, 128] (by decide +kernel) (by decide +kernel)
set_option maxRecDepth 20000 in
theorem gX11_line_X2_know : GoodIn wsX11_line (wsV RX11 155 RX2 yX2_know wsX2_know) := goodIn_app (goodIn_of _ (by decide +kernel)) ggX11_line_X2_know
set_option maxRecDepth 20000 in
theorem ggX11_line_X2_joins : GoodIn wsX11_line wsX2_joins := goodIn_r _ [45, 17, 30, 19, 25, 111, 112, 113, 114, 115, 116, 117, 118, 119, 120, 121] (by decide +kernel) (by decide +kernel)
set_option maxRecDepth 20000 in
theorem gX11_line_X2_joins : GoodIn wsX11_line (wsV RX11 190 RX2 yX2_joins wsX2_joins) := goodIn_app (goodIn_of _ (by decide +kernel)) ggX11_line_X2_joins
set_option maxRecDepth 20000 in
theorem ggX11_line_X2_holds : GoodIn wsX11_line wsX2_holds := goodIn_r _ [49, 50, 51, 52, 53, 54, 55, 14, 56, 19, 25, 27, 57, 58, 59, 60, 61, 62, 63, 29, 64, 65, 66, 67, 68, 69, 70, 71, 72, 73, 74, 75, 76, 77, 78, 79, 80, 81, 82, 83, 84, 85, 86, 87, 88, 89, 90, 91, 92, 93, 129, 130, 131, 132, 133, 134, 135, 136, 137, 138, 139, 140, 141, 142, 143, 144, 111, 112, 113, 114, 115, 116, 117, 118, 119, 120, 121, 145, 146, 147, 148, 149, 150, 151] (by decide +kernel) (by decide +kernel)
set_option maxRecDepth 20000 in
theorem gX11_line_X2_holds : GoodIn wsX11_line (wsV RX11 193 RX2 yX2_holds wsX2_holds) := goodIn_app (goodIn_of _ (by decide +kernel)) ggX11_line_X2_holds
set_option maxRecDepth 20000 in
theorem ggX11_line_X2_describe : GoodIn wsX11_line wsX2_describe := goodIn_r _ [56, 19, 25, 52, 27, 57, 58, 59, 60, 61, 62, 63, 29, 64, 65, 66, 67, 68, 69, 70, 71, 72, 73, 74, 111, 112, 113, 114, 115, 116, 117, 118, 119, 120, 121, 129, 130, 131, 132, 133, 134, 135, 136, 137, 138, 139, 140, 141, 142, 143, 144] (by decide +kernel) (by decide +kernel)
set_option maxRecDepth 20000 in
theorem gX11_line_X2_describe : GoodIn wsX11_line (wsV RX11 197 RX2 yX2_describe wsX2_describe) := goodIn_app (goodIn_of _ (by decide +kernel)) ggX11_line_X2_describe
theorem dX11_line_0 : decode cX11_line 0 = .ok (.aload_n 0, 1) := by decide +kernel
theorem dX11_line_1 : decode cX11_line 1 = .ok (.iload_n 3, 1) := by decide +kernel
theorem dX11_line_2 : decode cX11_line 2 = .ok (.invokevirtual 152, 3) := by decide +kernel
theorem dX11_line_5 : decode cX11_line 5 = .ok (.ifCond .eq 13, 3) := by decide +kernel
theorem dX11_line_8 : decode cX11_line 8 = .ok (.iload_n 2, 1) := by decide +kernel
theorem dX11_line_9 : decode cX11_line 9 = .ok (.ifCond .lt 9, 3) := by decide +kernel
theorem dX11_line_12 : decode cX11_line 12 = .ok (.iload_n 2, 1) := by decide +kernel
theorem dX11_line_13 : decode cX11_line 13 = .ok (.bipush 7, 2) := by decide +kernel
theorem dX11_line_15 : decode cX11_line 15 = .ok (.if_icmp .le 5, 3) := by decide +kernel
theorem dX11_line_18 : decode cX11_line 18 = .ok (.iconst (-1), 1) := by decide +kernel
theorem dX11_line_19 : decode cX11_line 19 = .ok (.ireturn, 1) := by decide +kernel
theorem dX11_line_20 : decode cX11_line 20 = .ok (.aload_n 0, 1) := by decide +kernel
theorem dX11_line_21 : decode cX11_line 21 = .ok (.getfield 53, 3) := by decide +kernel
theorem dX11_line_24 : decode cX11_line 24 = .ok (.aload_n 0, 1) := by decide +kernel
theorem dX11_line_25 : decode cX11_line 25 = .ok (.getfield 19, 3) := by decide +kernel
theorem dX11_line_28 : decode cX11_line 28 = .ok (.aload_n 0, 1) := by decide +kernel
theorem dX11_line_29 : decode cX11_line 29 = .ok (.getfield 38, 3) := by decide +kernel
theorem dX11_line_32 : decode cX11_line 32 = .ok (.iload_n 3, 1) := by decide +kernel
theorem dX11_line_33 : decode cX11_line 33 = .ok (.invokevirtual 155, 3) := by decide +kernel
theorem dX11_line_36 : decode cX11_line 36 = .ok (.aload_n 0, 1) := by decide +kernel
theorem dX11_line_37 : decode cX11_line 37 = .ok (.getfield 53, 3) := by decide +kernel
theorem dX11_line_40 : decode cX11_line 40 = .ok (.iload_n 1, 1) := by decide +kernel
theorem dX11_line_41 : decode cX11_line 41 = .ok (.invokevirtual 190, 3) := by decide +kernel
theorem dX11_line_44 : decode cX11_line 44 = .ok (.ifCond .ne 5, 3) := by decide +kernel
theorem dX11_line_47 : decode cX11_line 47 = .ok (.iconst (-1), 1) := by decide +kernel
theorem dX11_line_48 : decode cX11_line 48 = .ok (.ireturn, 1) := by decide +kernel
theorem dX11_line_49 : decode cX11_line 49 = .ok (.iload_n 2, 1) := by decide +kernel
theorem dX11_line_50 : decode cX11_line 50 = .ok (.bipush 7, 2) := by decide +kernel
theorem dX11_line_52 : decode cX11_line 52 = .ok (.if_icmp .ne 25, 3) := by decide +kernel
theorem dX11_line_55 : decode cX11_line 55 = .ok (.aload_n 0, 1) := by decide +kernel
theorem dX11_line_56 : decode cX11_line 56 = .ok (.getfield 53, 3) := by decide +kernel
theorem dX11_line_59 : decode cX11_line 59 = .ok (.aload_n 0, 1) := by decide +kernel
theorem dX11_line_60 : decode cX11_line 60 = .ok (.getfield 19, 3) := by decide +kernel
theorem dX11_line_63 : decode cX11_line 63 = .ok (.iload_n 1, 1) := by decide +kernel
theorem dX11_line_64 : decode cX11_line 64 = .ok (.iconst (-1), 1) := by decide +kernel
theorem dX11_line_65 : decode cX11_line 65 = .ok (.invokevirtual 193, 3) := by decide +kernel
theorem dX11_line_68 : decode cX11_line 68 = .ok (.ifCond .eq 7, 3) := by decide +kernel
theorem dX11_line_71 : decode cX11_line 71 = .ok (.iconst 1, 1) := by decide +kernel
theorem dX11_line_72 : decode cX11_line 72 = .ok (.goto 4, 3) := by decide +kernel
theorem dX11_line_75 : decode cX11_line 75 = .ok (.iconst 0, 1) := by decide +kernel
theorem dX11_line_76 : decode cX11_line 76 = .ok (.ireturn, 1) := by decide +kernel
theorem dX11_line_77 : decode cX11_line 77 = .ok (.aload_n 0, 1) := by decide +kernel
theorem dX11_line_78 : decode cX11_line 78 = .ok (.getfield 53, 3) := by decide +kernel
theorem dX11_line_81 : decode cX11_line 81 = .ok (.aload_n 0, 1) := by decide +kernel
theorem dX11_line_82 : decode cX11_line 82 = .ok (.getfield 19, 3) := by decide +kernel
theorem dX11_line_85 : decode cX11_line 85 = .ok (.iload_n 1, 1) := by decide +kernel
theorem dX11_line_86 : decode cX11_line 86 = .ok (.invokevirtual 197, 3) := by decide +kernel
theorem dX11_line_89 : decode cX11_line 89 = .ok (.iload_n 2, 1) := by decide +kernel
theorem dX11_line_90 : decode cX11_line 90 = .ok (.ifCond .ne 16, 3) := by decide +kernel
theorem dX11_line_93 : decode cX11_line 93 = .ok (.aload_n 0, 1) := by decide +kernel
theorem dX11_line_94 : decode cX11_line 94 = .ok (.getfield 53, 3) := by decide +kernel
theorem dX11_line_97 : decode cX11_line 97 = .ok (.getfield 201, 3) := by decide +kernel
theorem dX11_line_100 : decode cX11_line 100 = .ok (.bipush 8, 2) := by decide +kernel
theorem dX11_line_102 : decode cX11_line 102 = .ok (.iaload, 1) := by decide +kernel
theorem dX11_line_103 : decode cX11_line 103 = .ok (.goto 16, 3) := by decide +kernel
theorem dX11_line_106 : decode cX11_line 106 = .ok (.aload_n 0, 1) := by decide +kernel
theorem dX11_line_107 : decode cX11_line 107 = .ok (.getfield 53, 3) := by decide +kernel
theorem dX11_line_110 : decode cX11_line 110 = .ok (.getfield 201, 3) := by decide +kernel
theorem dX11_line_113 : decode cX11_line 113 = .ok (.iconst 2, 1) := by decide +kernel
theorem dX11_line_114 : decode cX11_line 114 = .ok (.iload_n 2, 1) := by decide +kernel
theorem dX11_line_115 : decode cX11_line 115 = .ok (.iadd, 1) := by decide +kernel
theorem dX11_line_116 : decode cX11_line 116 = .ok (.iconst 1, 1) := by decide +kernel
theorem dX11_line_117 : decode cX11_line 117 = .ok (.isub, 1) := by decide +kernel
theorem dX11_line_118 : decode cX11_line 118 = .ok (.iaload, 1) := by decide +kernel
theorem dX11_line_119 : decode cX11_line 119 = .ok (.ireturn, 1) := by decide +kernel
set_option maxRecDepth 20000 in
theorem ggX11_lines_X11_isKnown : GoodIn wsX11_lines wsX11_isKnown := goodIn_r _ [9, 3, 10, 109, 110, 111, 112, 113, 114, 115, 116, 117, 118, 119, 120, 121, 122, 123, 124, 136, 137, 138, 139, 140, 141, 142] (by decide +kernel) (by decide +kernel)
set_option maxRecDepth 20000 in
theorem gX11_lines_X11_isKnown : GoodIn wsX11_lines (wsV RX11 152 RX11 yX11_isKnown wsX11_isKnown) := goodIn_app (goodIn_of _ (by decide +kernel)) ggX11_lines_X11_isKnown
set_option maxRecDepth 20000 in
theorem ggX11_lines_X2_know : GoodIn wsX11_lines wsX2_know := goodIn_r _ [15, 16, 17, 18, 19, 20, 21, 22, 23, 24, 25, 26, 27, 28, 29, 30, 31, 32, 33, 34, 35, 36, 37, 14, 38, 39, 40, 41, 143, 144, 145, 146, 147, 148, 149, 150, 151, 152, 153, 154, 155, 156, 157, 158, 125, 126, 127, 128, 129, 130, 131, 132, 133, 134, 135, 136, 137, 138, 139, 140, 141, 142] (by decide +kernel) (by decide +kernel)
set_option maxRecDepth 20000 in
theorem gX11_lines_X2_know : GoodIn wsX11_lines (wsV RX11 155 RX2 yX2_know wsX2_know) := goodIn_app (goodIn_of _ (by decide +kernel)) ggX11_lines_X2_know
set_option maxRecDepth 20000 in
theorem ggX11_lines_X2_joinedInAll : GoodIn wsX11_lines wsX2_joinedInAll := goodIn_r _ [45, 46, 47, 48, 14, 49, 17, 30, 19, 25, 125, 126, 127, 128, 129, 130, 131, 132, 133, 134, 135] (by decide +kernel) (by decide +kernel)
set_option maxRecDepth 20000 in
theorem gX11_lines_X2_joinedInAll : GoodIn wsX11_lines (wsV RX11 204 RX2 yX2_joinedInAll wsX2_joinedInAll) := goodIn_app (goodIn_of _ (by decide +kernel)) ggX11_lines_X2_joinedInAll
set_option maxRecDepth 20000 in
theorem ggX11_lines_X2_choose : GoodIn wsX11_lines wsX2_choose := goodIn_r _ [53, 54, 55, 56, 46, 47, 48, 14, 49, 17, 30, 19, 25, 57, 58, 59, 60, 61, 62, 63, 64, 65, 66, 67, 27, 68, 69, 70, 71, 72, 73, 74, 29, 75, 76, 77, 78, 79, 80, 81, 82, 83, 84, 85, 86, 87, 88, 89, 90, 91, 92, 93, 94, 95, 96, 97, 98, 99, 100, 101, 102, 103, 104, 105, 106, 107, 108, 125, 126, 127, 128, 129, 130, 131, 132, 133, 134, 135, 143, 144, 145, 146, 147, 148, 149, 150, 151, 152, 153, 154, 155, 156, 157, 158, 159, 160, 161, 162, 163, 164, 165] (by decide +kernel) (by decide +kernel)
set_option maxRecDepth 20000 in
theorem gX11_lines_X2_choose : GoodIn wsX11_lines (wsV RX11 207 RX2 yX2_choose wsX2_choose) := goodIn_app (goodIn_of _ (by decide +kernel)) ggX11_lines_X2_choose
theorem dX11_lines_0 : decode cX11_lines 0 = .ok (.aload_n 0, 1) := by decide +kernel
theorem dX11_lines_1 : decode cX11_lines 1 = .ok (.iload_n 2, 1) := by decide +kernel
theorem dX11_lines_2 : decode cX11_lines 2 = .ok (.invokevirtual 152, 3) := by decide +kernel
theorem dX11_lines_5 : decode cX11_lines 5 = .ok (.ifCond .ne 5, 3) := by decide +kernel
theorem dX11_lines_8 : decode cX11_lines 8 = .ok (.iconst (-1), 1) := by decide +kernel
theorem dX11_lines_9 : decode cX11_lines 9 = .ok (.ireturn, 1) := by decide +kernel
theorem dX11_lines_10 : decode cX11_lines 10 = .ok (.aload_n 0, 1) := by decide +kernel
theorem dX11_lines_11 : decode cX11_lines 11 = .ok (.getfield 53, 3) := by decide +kernel
theorem dX11_lines_14 : decode cX11_lines 14 = .ok (.aload_n 0, 1) := by decide +kernel
theorem dX11_lines_15 : decode cX11_lines 15 = .ok (.getfield 19, 3) := by decide +kernel
theorem dX11_lines_18 : decode cX11_lines 18 = .ok (.aload_n 0, 1) := by decide +kernel
theorem dX11_lines_19 : decode cX11_lines 19 = .ok (.getfield 38, 3) := by decide +kernel
theorem dX11_lines_22 : decode cX11_lines 22 = .ok (.iload_n 2, 1) := by decide +kernel
theorem dX11_lines_23 : decode cX11_lines 23 = .ok (.invokevirtual 155, 3) := by decide +kernel
theorem dX11_lines_26 : decode cX11_lines 26 = .ok (.iload_n 1, 1) := by decide +kernel
theorem dX11_lines_27 : decode cX11_lines 27 = .ok (.ifCond .ne 11, 3) := by decide +kernel
theorem dX11_lines_30 : decode cX11_lines 30 = .ok (.aload_n 0, 1) := by decide +kernel
theorem dX11_lines_31 : decode cX11_lines 31 = .ok (.getfield 53, 3) := by decide +kernel
theorem dX11_lines_34 : decode cX11_lines 34 = .ok (.invokevirtual 204, 3) := by decide +kernel
theorem dX11_lines_37 : decode cX11_lines 37 = .ok (.ireturn, 1) := by decide +kernel
theorem dX11_lines_38 : decode cX11_lines 38 = .ok (.aload_n 0, 1) := by decide +kernel
theorem dX11_lines_39 : decode cX11_lines 39 = .ok (.getfield 53, 3) := by decide +kernel
theorem dX11_lines_42 : decode cX11_lines 42 = .ok (.aload_n 0, 1) := by decide +kernel
theorem dX11_lines_43 : decode cX11_lines 43 = .ok (.getfield 19, 3) := by decide +kernel
theorem dX11_lines_46 : decode cX11_lines 46 = .ok (.iconst (-1), 1) := by decide +kernel
theorem dX11_lines_47 : decode cX11_lines 47 = .ok (.invokevirtual 207, 3) := by decide +kernel
theorem dX11_lines_50 : decode cX11_lines 50 = .ok (.aload_n 0, 1) := by decide +kernel
theorem dX11_lines_51 : decode cX11_lines 51 = .ok (.getfield 53, 3) := by decide +kernel
theorem dX11_lines_54 : decode cX11_lines 54 = .ok (.getfield 210, 3) := by decide +kernel
theorem dX11_lines_57 : decode cX11_lines 57 = .ok (.ireturn, 1) := by decide +kernel
set_option maxRecDepth 20000 in
theorem ggX11_height_X11_isDegree : GoodIn wsX11_height wsX11_isDegree := goodIn_r _ [5] (by decide +kernel) (by decide +kernel)
set_option maxRecDepth 20000 in
theorem gX11_height_X11_isDegree : GoodIn wsX11_height (va_wsS RX11 180 yX11_isDegree wsX11_isDegree) := goodIn_app (goodIn_of _ (by decide +kernel)) ggX11_height_X11_isDegree
set_option maxRecDepth 20000 in
theorem ggX11_height_X9_hillOver : GoodIn wsX11_height wsX9_hillOver := goodIn_r _ [10, 11, 12, 13, 14, 31, 32, 33, 34, 35, 36, 37, 38, 39, 40, 41, 42, 43, 44, 45, 46] (by decide +kernel) (by decide +kernel)
set_option maxRecDepth 20000 in
theorem gX11_height_X9_hillOver : GoodIn wsX11_height (wsV RX11 213 RX9 yX9_hillOver wsX9_hillOver) := goodIn_app (goodIn_of _ (by decide +kernel)) ggX11_height_X9_hillOver
theorem dX11_height_0 : decode cX11_height 0 = .ok (.iload_n 1, 1) := by decide +kernel
theorem dX11_height_1 : decode cX11_height 1 = .ok (.invokestatic 180, 3) := by decide +kernel
theorem dX11_height_4 : decode cX11_height 4 = .ok (.ifCond .eq 14, 3) := by decide +kernel
theorem dX11_height_7 : decode cX11_height 7 = .ok (.aload_n 0, 1) := by decide +kernel
theorem dX11_height_8 : decode cX11_height 8 = .ok (.getfield 19, 3) := by decide +kernel
theorem dX11_height_11 : decode cX11_height 11 = .ok (.iload_n 1, 1) := by decide +kernel
theorem dX11_height_12 : decode cX11_height 12 = .ok (.invokevirtual 213, 3) := by decide +kernel
theorem dX11_height_15 : decode cX11_height 15 = .ok (.goto 4, 3) := by decide +kernel
theorem dX11_height_18 : decode cX11_height 18 = .ok (.iconst (-1), 1) := by decide +kernel
theorem dX11_height_19 : decode cX11_height 19 = .ok (.ireturn, 1) := by decide +kernel
set_option maxRecDepth 20000 in
theorem ggX11_rise_X11_isPlace : GoodIn wsX11_rise wsX11_isPlace := goodIn_r _ [7, 2, 8, 51, 52, 53, 54, 55, 56, 57, 58, 59, 60, 61, 62, 63, 64, 65, 66, 67, 68, 69, 70, 71, 72, 73, 74, 75, 76, 77, 78, 79, 80, 81, 82] (by decide +kernel) (by decide +kernel)
set_option maxRecDepth 20000 in
theorem gX11_rise_X11_isPlace : GoodIn wsX11_rise (wsV RX11 216 RX11 yX11_isPlace wsX11_isPlace) := goodIn_app (goodIn_of _ (by decide +kernel)) ggX11_rise_X11_isPlace
set_option maxRecDepth 20000 in
theorem ggX11_rise_X11_isYear : GoodIn wsX11_rise wsX11_isYear := goodIn_r _ [11] (by decide +kernel) (by decide +kernel)
set_option maxRecDepth 20000 in
theorem gX11_rise_X11_isYear : GoodIn wsX11_rise (va_wsS RX11 219 yX11_isYear wsX11_isYear) := goodIn_app (goodIn_of _ (by decide +kernel)) ggX11_rise_X11_isYear
set_option maxRecDepth 20000 in
theorem ggX11_rise_X6_rising : GoodIn wsX11_rise wsX6_rising := goodIn_r _ [16, 17, 18, 19, 20, 21, 22, 23, 24, 25, 26, 27, 28, 29, 30, 31, 32, 33, 34, 35, 36, 37, 38, 39, 40, 41, 42, 43, 44, 45, 46, 47, 48, 49, 50, 83, 84, 85, 86, 67, 68, 69, 70, 71, 72, 73, 74, 75, 76, 77, 78, 79, 80, 81, 82, 87, 88, 89, 90, 91, 92, 93] (by decide +kernel) (by decide +kernel)
set_option maxRecDepth 20000 in
theorem gX11_rise_X6_rising : GoodIn wsX11_rise (wsV RX11 222 RX6 yX6_rising wsX6_rising) := goodIn_app (goodIn_of _ (by decide +kernel)) ggX11_rise_X6_rising
theorem dX11_rise_0 : decode cX11_rise 0 = .ok (.aload_n 0, 1) := by decide +kernel
theorem dX11_rise_1 : decode cX11_rise 1 = .ok (.iload_n 1, 1) := by decide +kernel
theorem dX11_rise_2 : decode cX11_rise 2 = .ok (.invokevirtual 216, 3) := by decide +kernel
theorem dX11_rise_5 : decode cX11_rise 5 = .ok (.ifCond .eq 10, 3) := by decide +kernel
theorem dX11_rise_8 : decode cX11_rise 8 = .ok (.iload_n 2, 1) := by decide +kernel
theorem dX11_rise_9 : decode cX11_rise 9 = .ok (.invokestatic 219, 3) := by decide +kernel
theorem dX11_rise_12 : decode cX11_rise 12 = .ok (.ifCond .ne 5, 3) := by decide +kernel
theorem dX11_rise_15 : decode cX11_rise 15 = .ok (.iconst (-1), 1) := by decide +kernel
theorem dX11_rise_16 : decode cX11_rise 16 = .ok (.ireturn, 1) := by decide +kernel
theorem dX11_rise_17 : decode cX11_rise 17 = .ok (.aload_n 0, 1) := by decide +kernel
theorem dX11_rise_18 : decode cX11_rise 18 = .ok (.getfield 60, 3) := by decide +kernel
theorem dX11_rise_21 : decode cX11_rise 21 = .ok (.aload_n 0, 1) := by decide +kernel
theorem dX11_rise_22 : decode cX11_rise 22 = .ok (.getfield 19, 3) := by decide +kernel
theorem dX11_rise_25 : decode cX11_rise 25 = .ok (.iload_n 1, 1) := by decide +kernel
theorem dX11_rise_26 : decode cX11_rise 26 = .ok (.iload_n 2, 1) := by decide +kernel
theorem dX11_rise_27 : decode cX11_rise 27 = .ok (.invokevirtual 222, 3) := by decide +kernel
theorem dX11_rise_30 : decode cX11_rise 30 = .ok (.ireturn, 1) := by decide +kernel
set_option maxRecDepth 20000 in
theorem ggX11_hit_X11_isPlace : GoodIn wsX11_hit wsX11_isPlace := goodIn_r _ [10, 2, 11, 128, 129, 130, 131, 132, 133, 134, 135, 136, 137, 138, 139, 140, 141, 142, 143, 144, 145, 146, 147, 148, 149, 150, 151, 152, 153, 154, 155, 156, 157, 158, 159] (by decide +kernel) (by decide +kernel)
set_option maxRecDepth 20000 in
theorem gX11_hit_X11_isPlace : GoodIn wsX11_hit (wsV RX11 216 RX11 yX11_isPlace wsX11_isPlace) := goodIn_app (goodIn_of _ (by decide +kernel)) ggX11_hit_X11_isPlace
set_option maxRecDepth 20000 in
theorem ggX11_hit_X11_isYear : GoodIn wsX11_hit wsX11_isYear := goodIn_r _ [14] (by decide +kernel) (by decide +kernel)
set_option maxRecDepth 20000 in
theorem gX11_hit_X11_isYear : GoodIn wsX11_hit (va_wsS RX11 219 yX11_isYear wsX11_isYear) := goodIn_app (goodIn_of _ (by decide +kernel)) ggX11_hit_X11_isYear
set_option maxRecDepth 20000 in
theorem ggX11_hit_X11_isKnown : GoodIn wsX11_hit wsX11_isKnown := goodIn_r _ [18, 3, 19, 128, 129, 130, 131, 132, 133, 134, 135, 136, 137, 138, 139, 140, 141, 142, 143, 160, 161, 162, 163, 164, 165, 166] (by decide +kernel) (by decide +kernel)
set_option maxRecDepth 20000 in
theorem gX11_hit_X11_isKnown : GoodIn wsX11_hit (wsV RX11 152 RX11 yX11_isKnown wsX11_isKnown) := goodIn_app (goodIn_of _ (by decide +kernel)) ggX11_hit_X11_isKnown
set_option maxRecDepth 20000 in
theorem ggX11_hit_X2_know : GoodIn wsX11_hit wsX2_know := goodIn_r _ [24, 25, 26, 27, 28, 29, 30, 31, 32, 33, 34, 35, 36, 37, 38, 39, 40, 41, 42, 43, 44, 45, 46, 23, 47, 48, 49, 50, 144, 145, 146, 147, 148, 149, 150, 151, 152, 153, 154, 155, 156, 157, 158, 159, 167, 168, 169, 170, 171, 172, 173, 174, 175, 176, 177, 160, 161, 162, 163, 164, 165, 166] (by decide +kernel) (by decide +kernel)
set_option maxRecDepth 20000 in
theorem gX11_hit_X2_know : GoodIn wsX11_hit (wsV RX11 155 RX2 yX2_know wsX2_know) := goodIn_app (goodIn_of _ (by decide +kernel)) ggX11_hit_X2_know
set_option maxRecDepth 20000 in
theorem ggX11_hit_X2_joins : GoodIn wsX11_hit wsX2_joins := goodIn_r _ [54, 26, 39, 28, 34, 167, 168, 169, 170, 171, 172, 173, 174, 175, 176, 177] (by decide +kernel) (by decide +kernel)
set_option maxRecDepth 20000 in
theorem gX11_hit_X2_joins : GoodIn wsX11_hit (wsV RX11 190 RX2 yX2_joins wsX2_joins) := goodIn_app (goodIn_of _ (by decide +kernel)) ggX11_hit_X2_joins
set_option maxRecDepth 20000 in
theorem ggX11_hit_X6_watch : GoodIn wsX11_hit wsX6_watch := goodIn_r _ [59, 60, 61, 62, 63, 64, 65, 66, 67, 58, 68, 69, 70, 71, 72, 73, 74, 75, 76, 77, 78, 79, 80, 81, 82, 83, 84, 85, 86, 87, 88, 89, 90, 91, 92, 93, 94, 95, 96, 97, 98, 99, 100, 101, 102, 144, 145, 146, 147, 148, 149, 150, 151, 152, 153, 154, 155, 156, 157, 158, 159, 178, 179, 180, 181, 182, 183, 184, 185, 186, 187, 188] (by decide +kernel) (by decide +kernel)
set_option maxRecDepth 20000 in
theorem gX11_hit_X6_watch : GoodIn wsX11_hit (wsV RX11 226 RX6 yX6_watch wsX6_watch) := goodIn_app (goodIn_of _ (by decide +kernel)) ggX11_hit_X6_watch
set_option maxRecDepth 20000 in
theorem ggX11_hit_X2_bearingOf : GoodIn wsX11_hit wsX2_bearingOf := goodIn_r _ [106, 28, 34, 107, 108, 109, 110, 111, 112, 113, 114, 115, 116, 117, 118, 119, 120, 167, 168, 169, 170, 171, 172, 173, 174, 175, 176, 177] (by decide +kernel) (by decide +kernel)
set_option maxRecDepth 20000 in
theorem gX11_hit_X2_bearingOf : GoodIn wsX11_hit (wsV RX11 229 RX2 yX2_bearingOf wsX2_bearingOf) := goodIn_app (goodIn_of _ (by decide +kernel)) ggX11_hit_X2_bearingOf
set_option maxRecDepth 20000 in
theorem ggX11_hit_X6_struck : GoodIn wsX11_hit wsX6_struck := goodIn_r _ [124, 61, 63, 62, 125, 126, 109, 127, 111, 112, 113, 114, 118, 119, 120, 178, 179, 180, 181] (by decide +kernel) (by decide +kernel)
set_option maxRecDepth 20000 in
theorem gX11_hit_X6_struck : GoodIn wsX11_hit (wsV RX11 235 RX6 yX6_struck wsX6_struck) := goodIn_app (goodIn_of _ (by decide +kernel)) ggX11_hit_X6_struck
theorem dX11_hit_0 : decode cX11_hit 0 = .ok (.aload_n 0, 1) := by decide +kernel
theorem dX11_hit_1 : decode cX11_hit 1 = .ok (.iload_n 2, 1) := by decide +kernel
theorem dX11_hit_2 : decode cX11_hit 2 = .ok (.invokevirtual 216, 3) := by decide +kernel
theorem dX11_hit_5 : decode cX11_hit 5 = .ok (.ifCond .eq 19, 3) := by decide +kernel
theorem dX11_hit_8 : decode cX11_hit 8 = .ok (.iload_n 3, 1) := by decide +kernel
theorem dX11_hit_9 : decode cX11_hit 9 = .ok (.invokestatic 219, 3) := by decide +kernel
theorem dX11_hit_12 : decode cX11_hit 12 = .ok (.ifCond .eq 12, 3) := by decide +kernel
theorem dX11_hit_15 : decode cX11_hit 15 = .ok (.aload_n 0, 1) := by decide +kernel
theorem dX11_hit_16 : decode cX11_hit 16 = .ok (.iload 4, 2) := by decide +kernel
theorem dX11_hit_18 : decode cX11_hit 18 = .ok (.invokevirtual 152, 3) := by decide +kernel
theorem dX11_hit_21 : decode cX11_hit 21 = .ok (.ifCond .ne 5, 3) := by decide +kernel
theorem dX11_hit_24 : decode cX11_hit 24 = .ok (.iconst (-1), 1) := by decide +kernel
theorem dX11_hit_25 : decode cX11_hit 25 = .ok (.ireturn, 1) := by decide +kernel
theorem dX11_hit_26 : decode cX11_hit 26 = .ok (.aload_n 0, 1) := by decide +kernel
theorem dX11_hit_27 : decode cX11_hit 27 = .ok (.getfield 53, 3) := by decide +kernel
theorem dX11_hit_30 : decode cX11_hit 30 = .ok (.aload_n 0, 1) := by decide +kernel
theorem dX11_hit_31 : decode cX11_hit 31 = .ok (.getfield 19, 3) := by decide +kernel
theorem dX11_hit_34 : decode cX11_hit 34 = .ok (.aload_n 0, 1) := by decide +kernel
theorem dX11_hit_35 : decode cX11_hit 35 = .ok (.getfield 38, 3) := by decide +kernel
theorem dX11_hit_38 : decode cX11_hit 38 = .ok (.iload 4, 2) := by decide +kernel
theorem dX11_hit_40 : decode cX11_hit 40 = .ok (.invokevirtual 155, 3) := by decide +kernel
theorem dX11_hit_43 : decode cX11_hit 43 = .ok (.aload_n 0, 1) := by decide +kernel
theorem dX11_hit_44 : decode cX11_hit 44 = .ok (.getfield 53, 3) := by decide +kernel
theorem dX11_hit_47 : decode cX11_hit 47 = .ok (.iload_n 1, 1) := by decide +kernel
theorem dX11_hit_48 : decode cX11_hit 48 = .ok (.invokevirtual 190, 3) := by decide +kernel
theorem dX11_hit_51 : decode cX11_hit 51 = .ok (.ifCond .ne 5, 3) := by decide +kernel
theorem dX11_hit_54 : decode cX11_hit 54 = .ok (.iconst (-1), 1) := by decide +kernel
theorem dX11_hit_55 : decode cX11_hit 55 = .ok (.ireturn, 1) := by decide +kernel
theorem dX11_hit_56 : decode cX11_hit 56 = .ok (.aload_n 0, 1) := by decide +kernel
theorem dX11_hit_57 : decode cX11_hit 57 = .ok (.getfield 60, 3) := by decide +kernel
theorem dX11_hit_60 : decode cX11_hit 60 = .ok (.aload_n 0, 1) := by decide +kernel
theorem dX11_hit_61 : decode cX11_hit 61 = .ok (.getfield 19, 3) := by decide +kernel
theorem dX11_hit_64 : decode cX11_hit 64 = .ok (.iload_n 3, 1) := by decide +kernel
theorem dX11_hit_65 : decode cX11_hit 65 = .ok (.invokevirtual 226, 3) := by decide +kernel
theorem dX11_hit_68 : decode cX11_hit 68 = .ok (.aload_n 0, 1) := by decide +kernel
theorem dX11_hit_69 : decode cX11_hit 69 = .ok (.getfield 53, 3) := by decide +kernel
theorem dX11_hit_72 : decode cX11_hit 72 = .ok (.iload_n 1, 1) := by decide +kernel
theorem dX11_hit_73 : decode cX11_hit 73 = .ok (.invokevirtual 229, 3) := by decide +kernel
theorem dX11_hit_76 : decode cX11_hit 76 = .ok (.istore 5, 2) := by decide +kernel
theorem dX11_hit_78 : decode cX11_hit 78 = .ok (.iconst 1, 1) := by decide +kernel
theorem dX11_hit_79 : decode cX11_hit 79 = .ok (.iload_n 2, 1) := by decide +kernel
theorem dX11_hit_80 : decode cX11_hit 80 = .ok (.ishl, 1) := by decide +kernel
theorem dX11_hit_81 : decode cX11_hit 81 = .ok (.istore 6, 2) := by decide +kernel
theorem dX11_hit_83 : decode cX11_hit 83 = .ok (.aload_n 0, 1) := by decide +kernel
theorem dX11_hit_84 : decode cX11_hit 84 = .ok (.getfield 60, 3) := by decide +kernel
theorem dX11_hit_87 : decode cX11_hit 87 = .ok (.iload 5, 2) := by decide +kernel
theorem dX11_hit_89 : decode cX11_hit 89 = .ok (.aload_n 0, 1) := by decide +kernel
theorem dX11_hit_90 : decode cX11_hit 90 = .ok (.getfield 19, 3) := by decide +kernel
theorem dX11_hit_93 : decode cX11_hit 93 = .ok (.getfield 232, 3) := by decide +kernel
theorem dX11_hit_96 : decode cX11_hit 96 = .ok (.iconst 1, 1) := by decide +kernel
theorem dX11_hit_97 : decode cX11_hit 97 = .ok (.invokevirtual 235, 3) := by decide +kernel
theorem dX11_hit_100 : decode cX11_hit 100 = .ok (.iload 6, 2) := by decide +kernel
theorem dX11_hit_102 : decode cX11_hit 102 = .ok (.iand, 1) := by decide +kernel
theorem dX11_hit_103 : decode cX11_hit 103 = .ok (.ifCond .eq 5, 3) := by decide +kernel
theorem dX11_hit_106 : decode cX11_hit 106 = .ok (.iconst 2, 1) := by decide +kernel
theorem dX11_hit_107 : decode cX11_hit 107 = .ok (.ireturn, 1) := by decide +kernel
theorem dX11_hit_108 : decode cX11_hit 108 = .ok (.aload_n 0, 1) := by decide +kernel
theorem dX11_hit_109 : decode cX11_hit 109 = .ok (.getfield 60, 3) := by decide +kernel
theorem dX11_hit_112 : decode cX11_hit 112 = .ok (.iload 5, 2) := by decide +kernel
theorem dX11_hit_114 : decode cX11_hit 114 = .ok (.aload_n 0, 1) := by decide +kernel
theorem dX11_hit_115 : decode cX11_hit 115 = .ok (.getfield 19, 3) := by decide +kernel
theorem dX11_hit_118 : decode cX11_hit 118 = .ok (.getfield 232, 3) := by decide +kernel
theorem dX11_hit_121 : decode cX11_hit 121 = .ok (.iconst 0, 1) := by decide +kernel
theorem dX11_hit_122 : decode cX11_hit 122 = .ok (.invokevirtual 235, 3) := by decide +kernel
theorem dX11_hit_125 : decode cX11_hit 125 = .ok (.iload 6, 2) := by decide +kernel
theorem dX11_hit_127 : decode cX11_hit 127 = .ok (.iand, 1) := by decide +kernel
theorem dX11_hit_128 : decode cX11_hit 128 = .ok (.ifCond .eq 7, 3) := by decide +kernel
theorem dX11_hit_131 : decode cX11_hit 131 = .ok (.iconst 1, 1) := by decide +kernel
theorem dX11_hit_132 : decode cX11_hit 132 = .ok (.goto 4, 3) := by decide +kernel
theorem dX11_hit_135 : decode cX11_hit 135 = .ok (.iconst 0, 1) := by decide +kernel
theorem dX11_hit_136 : decode cX11_hit 136 = .ok (.ireturn, 1) := by decide +kernel
set_option maxRecDepth 20000 in
theorem ggX11_hits_X11_isAsked : GoodIn wsX11_hits wsX11_isAsked := goodIn_r _ [5, 6, 7, 8, 9, 4, 10, 11, 12, 13, 14, 15, 16, 171, 172, 173, 174, 175, 176, 177, 178, 179, 180, 181, 182, 183, 184, 185, 186, 187, 188, 189, 190, 191, 192, 193, 194, 195, 196, 197, 198, 199, 200, 201, 202, 203, 204, 205, 206, 207, 208, 209] (by decide +kernel) (by decide +kernel)
set_option maxRecDepth 20000 in
theorem gX11_hits_X11_isAsked : GoodIn wsX11_hits (wsV RX11 239 RX11 yX11_isAsked wsX11_isAsked) := goodIn_app (goodIn_of _ (by decide +kernel)) ggX11_hits_X11_isAsked
set_option maxRecDepth 20000 in
theorem ggX11_hits_X11_isDegree : GoodIn wsX11_hits wsX11_isDegree := goodIn_r _ [19] (by decide +kernel) (by decide +kernel)
set_option maxRecDepth 20000 in
theorem gX11_hits_X11_isDegree : GoodIn wsX11_hits (va_wsS RX11 180 yX11_isDegree wsX11_isDegree) := goodIn_app (goodIn_of _ (by decide +kernel)) ggX11_hits_X11_isDegree
set_option maxRecDepth 20000 in
theorem ggX11_hits_X11_lookAt : GoodIn wsX11_hits wsX11_lookAt := goodIn_r _ [23, 24, 6, 15, 25, 26, 27, 28, 29, 30, 31, 32, 33, 34, 35, 36, 37, 38, 39, 40, 41, 42, 43, 44, 45, 46, 47, 48, 49, 50, 51, 52, 53, 54, 55, 56, 57, 58, 59, 60, 61, 62, 63, 64, 65, 66, 67, 68, 69, 70, 71, 72, 73, 74, 75, 76, 77, 78, 79, 80, 81, 82, 83, 84, 85, 86, 87, 88, 89, 90, 91, 92, 93, 94, 95, 96, 97, 98, 99, 100, 101, 102, 103, 104, 105, 106, 107, 108, 109, 110, 111, 112, 113, 114, 115, 116, 117, 118, 119, 120, 121, 122, 123, 124, 125, 126, 127, 128, 129, 130, 131, 132, 133, 134, 135, 136, 137, 138, 139, 140, 141, 142, 143, 144, 145, 146, 147, 148, 149, 171, 172, 173, 174, 175, 176, 177, 178, 179, 180, 181, 182, 183, 184, 185, 186, 187, 188, 189, 190, 191, 192, 193, 194, 195, 196, 197, 198, 199, 200, 201, 202, 210, 211, 212, 213, 214, 215, 216, 217, 218, 219, 220, 203, 204, 205, 206, 207, 208, 209, 221, 222, 223, 224, 225, 226, 227, 228, 229, 230, 231] (by decide +kernel) (by decide +kernel)
set_option maxRecDepth 20000 in
theorem gX11_hits_X11_lookAt : GoodIn wsX11_hits (wsV RX11 243 RX11 yX11_lookAt wsX11_lookAt) := goodIn_app (goodIn_of _ (by decide +kernel)) ggX11_hits_X11_lookAt
set_option maxRecDepth 20000 in
theorem ggX11_hits_X11_hitsTurned : GoodIn wsX11_hits wsX11_hitsTurned := goodIn_r _ [153, 24, 154, 155, 156, 157, 92, 158, 159, 160, 161, 4, 162, 25, 6, 163, 164, 165, 166, 123, 167, 126, 128, 127, 168, 169, 170, 94, 80, 81, 82, 96, 88, 89, 171, 172, 173, 174, 175, 176, 177, 178, 179, 180, 181, 182, 183, 184, 185, 186, 210, 211, 212, 213, 214, 215, 216, 217, 218, 219, 220, 187, 188, 189, 190, 191, 192, 193, 194, 195, 196, 197, 198, 199, 200, 201, 202, 228, 229, 230, 231] (by decide +kernel) (by decide +kernel)
set_option maxRecDepth 20000 in
theorem gX11_hits_X11_hitsTurned : GoodIn wsX11_hits (wsV RX11 247 RX11 yX11_hitsTurned wsX11_hitsTurned) := goodIn_app (goodIn_of _ (by decide +kernel)) ggX11_hits_X11_hitsTurned
theorem dX11_hits_0 : decode cX11_hits 0 = .ok (.aload_n 0, 1) := by decide +kernel
theorem dX11_hits_1 : decode cX11_hits 1 = .ok (.iload_n 1, 1) := by decide +kernel
theorem dX11_hits_2 : decode cX11_hits 2 = .ok (.iload_n 2, 1) := by decide +kernel
theorem dX11_hits_3 : decode cX11_hits 3 = .ok (.iload 5, 2) := by decide +kernel
theorem dX11_hits_5 : decode cX11_hits 5 = .ok (.invokevirtual 239, 3) := by decide +kernel
theorem dX11_hits_8 : decode cX11_hits 8 = .ok (.ifCond .eq 10, 3) := by decide +kernel
theorem dX11_hits_11 : decode cX11_hits 11 = .ok (.iload_n 3, 1) := by decide +kernel
theorem dX11_hits_12 : decode cX11_hits 12 = .ok (.invokestatic 180, 3) := by decide +kernel
theorem dX11_hits_15 : decode cX11_hits 15 = .ok (.ifCond .ne 5, 3) := by decide +kernel
theorem dX11_hits_18 : decode cX11_hits 18 = .ok (.iconst (-1), 1) := by decide +kernel
theorem dX11_hits_19 : decode cX11_hits 19 = .ok (.ireturn, 1) := by decide +kernel
theorem dX11_hits_20 : decode cX11_hits 20 = .ok (.aload_n 0, 1) := by decide +kernel
theorem dX11_hits_21 : decode cX11_hits 21 = .ok (.iload_n 2, 1) := by decide +kernel
theorem dX11_hits_22 : decode cX11_hits 22 = .ok (.iload 5, 2) := by decide +kernel
theorem dX11_hits_24 : decode cX11_hits 24 = .ok (.iconst (-1), 1) := by decide +kernel
theorem dX11_hits_25 : decode cX11_hits 25 = .ok (.invokevirtual 243, 3) := by decide +kernel
theorem dX11_hits_28 : decode cX11_hits 28 = .ok (.aload_n 0, 1) := by decide +kernel
theorem dX11_hits_29 : decode cX11_hits 29 = .ok (.iload_n 1, 1) := by decide +kernel
theorem dX11_hits_30 : decode cX11_hits 30 = .ok (.iload_n 3, 1) := by decide +kernel
theorem dX11_hits_31 : decode cX11_hits 31 = .ok (.iload 4, 2) := by decide +kernel
theorem dX11_hits_33 : decode cX11_hits 33 = .ok (.invokevirtual 247, 3) := by decide +kernel
theorem dX11_hits_36 : decode cX11_hits 36 = .ok (.ireturn, 1) := by decide +kernel
set_option maxRecDepth 20000 in
theorem ggX11_hitAt_X11_isAsked : GoodIn wsX11_hitAt wsX11_isAsked := goodIn_r _ [9, 10, 11, 12, 13, 8, 14, 15, 16, 17, 18, 19, 20, 162, 163, 164, 165, 166, 167, 168, 169, 170, 171, 172, 173, 174, 175, 176, 177, 189, 190, 191, 192, 193, 194, 195, 196, 197, 198, 199, 200, 201, 202, 203, 204, 205, 206, 207, 208, 209, 210, 211] (by decide +kernel) (by decide +kernel)
set_option maxRecDepth 20000 in
theorem gX11_hitAt_X11_isAsked : GoodIn wsX11_hitAt (wsV RX11 239 RX11 yX11_isAsked wsX11_isAsked) := goodIn_app (goodIn_of _ (by decide +kernel)) ggX11_hitAt_X11_isAsked
set_option maxRecDepth 20000 in
theorem ggX11_hitAt_X11_lookAt : GoodIn wsX11_hitAt wsX11_lookAt := goodIn_r _ [24, 1, 10, 19, 25, 26, 27, 28, 29, 30, 31, 32, 33, 34, 35, 36, 37, 38, 39, 40, 41, 42, 43, 44, 45, 46, 47, 48, 49, 50, 51, 52, 53, 54, 55, 56, 57, 58, 59, 60, 61, 62, 63, 64, 65, 66, 67, 68, 69, 70, 71, 72, 73, 74, 75, 76, 77, 78, 79, 80, 81, 82, 83, 84, 85, 86, 87, 88, 89, 90, 91, 92, 93, 94, 95, 96, 97, 98, 99, 100, 101, 102, 103, 104, 105, 106, 107, 108, 109, 110, 111, 112, 113, 114, 115, 116, 117, 118, 119, 120, 121, 122, 123, 124, 125, 126, 127, 128, 129, 130, 131, 132, 133, 134, 135, 136, 137, 138, 139, 140, 141, 142, 143, 144, 145, 146, 147, 148, 149, 162, 163, 164, 165, 166, 167, 168, 169, 170, 171, 172, 173, 174, 175, 176, 177, 189, 190, 191, 192, 193, 194, 195, 196, 197, 198, 199, 200, 201, 202, 203, 204, 178, 179, 180, 181, 182, 183, 184, 185, 186, 187, 188, 205, 206, 207, 208, 209, 210, 211, 212, 213, 214, 215, 216, 217, 218, 219, 220, 221, 222] (by decide +kernel) (by decide +kernel)
set_option maxRecDepth 20000 in
theorem gX11_hitAt_X11_lookAt : GoodIn wsX11_hitAt (wsV RX11 243 RX11 yX11_lookAt wsX11_lookAt) := goodIn_app (goodIn_of _ (by decide +kernel)) ggX11_hitAt_X11_lookAt
set_option maxRecDepth 20000 in
theorem ggX11_hitAt_X11_strikes : GoodIn wsX11_hitAt wsX11_strikes := goodIn_r _ [153, 25, 10, 154, 155, 156, 157, 123, 158, 126, 128, 127, 159, 160, 92, 161, 94, 80, 81, 82, 96, 88, 89, 162, 163, 164, 165, 166, 167, 168, 169, 170, 171, 172, 173, 174, 175, 176, 177, 189, 190, 191, 192, 193, 194, 195, 196, 197, 198, 199, 200, 201, 202, 203, 204, 219, 220, 221, 222] (by decide +kernel) (by decide +kernel)
set_option maxRecDepth 20000 in
theorem gX11_hitAt_X11_strikes : GoodIn wsX11_hitAt (wsV RX11 253 RX11 yX11_strikes wsX11_strikes) := goodIn_app (goodIn_of _ (by decide +kernel)) ggX11_hitAt_X11_strikes
theorem dX11_hitAt_0 : decode cX11_hitAt 0 = .ok (.aload_n 0, 1) := by decide +kernel
theorem dX11_hitAt_1 : decode cX11_hitAt 1 = .ok (.iload_n 1, 1) := by decide +kernel
theorem dX11_hitAt_2 : decode cX11_hitAt 2 = .ok (.iload_n 2, 1) := by decide +kernel
theorem dX11_hitAt_3 : decode cX11_hitAt 3 = .ok (.iload 4, 2) := by decide +kernel
theorem dX11_hitAt_5 : decode cX11_hitAt 5 = .ok (.invokevirtual 239, 3) := by decide +kernel
theorem dX11_hitAt_8 : decode cX11_hitAt 8 = .ok (.ifCond .eq 8, 3) := by decide +kernel
theorem dX11_hitAt_11 : decode cX11_hitAt 11 = .ok (.iload 5, 2) := by decide +kernel
theorem dX11_hitAt_13 : decode cX11_hitAt 13 = .ok (.ifCond .ge 5, 3) := by decide +kernel
theorem dX11_hitAt_16 : decode cX11_hitAt 16 = .ok (.iconst (-1), 1) := by decide +kernel
theorem dX11_hitAt_17 : decode cX11_hitAt 17 = .ok (.ireturn, 1) := by decide +kernel
theorem dX11_hitAt_18 : decode cX11_hitAt 18 = .ok (.aload_n 0, 1) := by decide +kernel
theorem dX11_hitAt_19 : decode cX11_hitAt 19 = .ok (.iload_n 2, 1) := by decide +kernel
theorem dX11_hitAt_20 : decode cX11_hitAt 20 = .ok (.iload 4, 2) := by decide +kernel
theorem dX11_hitAt_22 : decode cX11_hitAt 22 = .ok (.iconst (-1), 1) := by decide +kernel
theorem dX11_hitAt_23 : decode cX11_hitAt 23 = .ok (.invokevirtual 243, 3) := by decide +kernel
theorem dX11_hitAt_26 : decode cX11_hitAt 26 = .ok (.iconst 0, 1) := by decide +kernel
theorem dX11_hitAt_27 : decode cX11_hitAt 27 = .ok (.istore 6, 2) := by decide +kernel
theorem dX11_hitAt_29 : decode cX11_hitAt 29 = .ok (.iconst 0, 1) := by decide +kernel
theorem dX11_hitAt_30 : decode cX11_hitAt 30 = .ok (.istore 7, 2) := by decide +kernel
theorem dX11_hitAt_32 : decode cX11_hitAt 32 = .ok (.iload 7, 2) := by decide +kernel
theorem dX11_hitAt_34 : decode cX11_hitAt 34 = .ok (.aload_n 0, 1) := by decide +kernel
theorem dX11_hitAt_35 : decode cX11_hitAt 35 = .ok (.getfield 53, 3) := by decide +kernel
theorem dX11_hitAt_38 : decode cX11_hitAt 38 = .ok (.getfield 210, 3) := by decide +kernel
theorem dX11_hitAt_41 : decode cX11_hitAt 41 = .ok (.if_icmp .ge 49, 3) := by decide +kernel
theorem dX11_hitAt_44 : decode cX11_hitAt 44 = .ok (.aload_n 0, 1) := by decide +kernel
theorem dX11_hitAt_45 : decode cX11_hitAt 45 = .ok (.aload_n 0, 1) := by decide +kernel
theorem dX11_hitAt_46 : decode cX11_hitAt 46 = .ok (.getfield 53, 3) := by decide +kernel
theorem dX11_hitAt_49 : decode cX11_hitAt 49 = .ok (.getfield 250, 3) := by decide +kernel
theorem dX11_hitAt_52 : decode cX11_hitAt 52 = .ok (.iload 7, 2) := by decide +kernel
theorem dX11_hitAt_54 : decode cX11_hitAt 54 = .ok (.iaload, 1) := by decide +kernel
theorem dX11_hitAt_55 : decode cX11_hitAt 55 = .ok (.iload_n 1, 1) := by decide +kernel
theorem dX11_hitAt_56 : decode cX11_hitAt 56 = .ok (.iload_n 3, 1) := by decide +kernel
theorem dX11_hitAt_57 : decode cX11_hitAt 57 = .ok (.invokevirtual 253, 3) := by decide +kernel
theorem dX11_hitAt_60 : decode cX11_hitAt 60 = .ok (.ifCond .eq 24, 3) := by decide +kernel
theorem dX11_hitAt_63 : decode cX11_hitAt 63 = .ok (.iload 6, 2) := by decide +kernel
theorem dX11_hitAt_65 : decode cX11_hitAt 65 = .ok (.iload 5, 2) := by decide +kernel
theorem dX11_hitAt_67 : decode cX11_hitAt 67 = .ok (.if_icmp .ne 14, 3) := by decide +kernel
theorem dX11_hitAt_70 : decode cX11_hitAt 70 = .ok (.aload_n 0, 1) := by decide +kernel
theorem dX11_hitAt_71 : decode cX11_hitAt 71 = .ok (.getfield 53, 3) := by decide +kernel
theorem dX11_hitAt_74 : decode cX11_hitAt 74 = .ok (.getfield 257, 3) := by decide +kernel
theorem dX11_hitAt_77 : decode cX11_hitAt 77 = .ok (.iload 7, 2) := by decide +kernel
theorem dX11_hitAt_79 : decode cX11_hitAt 79 = .ok (.iaload, 1) := by decide +kernel
theorem dX11_hitAt_80 : decode cX11_hitAt 80 = .ok (.ireturn, 1) := by decide +kernel
theorem dX11_hitAt_81 : decode cX11_hitAt 81 = .ok (.iinc 6 1, 3) := by decide +kernel
theorem dX11_hitAt_84 : decode cX11_hitAt 84 = .ok (.iinc 7 1, 3) := by decide +kernel
theorem dX11_hitAt_87 : decode cX11_hitAt 87 = .ok (.goto (-55), 3) := by decide +kernel
theorem dX11_hitAt_90 : decode cX11_hitAt 90 = .ok (.iconst (-1), 1) := by decide +kernel
theorem dX11_hitAt_91 : decode cX11_hitAt 91 = .ok (.ireturn, 1) := by decide +kernel
set_option maxRecDepth 20000 in
theorem ggX11_many_X11_isAsked : GoodIn wsX11_many wsX11_isAsked := goodIn_r _ [6, 7, 8, 9, 10, 5, 11, 12, 13, 14, 15, 16, 17, 193, 194, 195, 196, 197, 198, 199, 200, 201, 202, 203, 204, 205, 206, 207, 208, 209, 210, 211, 212, 213, 214, 215, 216, 217, 218, 219, 220, 221, 222, 223, 224, 225, 226, 227, 228, 229, 230, 231] (by decide +kernel) (by decide +kernel)
set_option maxRecDepth 20000 in
theorem gX11_many_X11_isAsked : GoodIn wsX11_many (wsV RX11 239 RX11 yX11_isAsked wsX11_isAsked) := goodIn_app (goodIn_of _ (by decide +kernel)) ggX11_many_X11_isAsked
set_option maxRecDepth 20000 in
theorem ggX11_many_X11_turnAll : GoodIn wsX11_many wsX11_turnAll := goodIn_r _ [21, 1, 22, 23, 7, 24, 25, 26, 27, 5, 28, 16, 29, 30, 31, 32, 33, 34, 35, 36, 37, 38, 39, 40, 41, 42, 43, 44, 45, 46, 47, 48, 49, 50, 51, 52, 53, 54, 55, 56, 57, 58, 59, 60, 61, 62, 63, 64, 65, 66, 67, 68, 69, 70, 71, 72, 73, 74, 75, 76, 77, 78, 79, 80, 81, 82, 83, 84, 85, 86, 87, 88, 89, 90, 91, 92, 93, 94, 95, 96, 97, 98, 99, 100, 101, 102, 103, 104, 105, 106, 107, 108, 109, 110, 111, 112, 113, 114, 115, 116, 117, 118, 119, 120, 121, 122, 123, 124, 125, 126, 127, 128, 129, 130, 131, 132, 133, 134, 135, 136, 137, 138, 139, 140, 141, 142, 143, 144, 145, 146, 147, 148, 149, 150, 151, 152, 153, 154, 155, 156, 157, 158, 159, 160, 161, 162, 163, 164, 165, 166, 167, 168, 169, 170, 171, 172, 173, 174, 175, 176, 177, 178, 179, 180, 181, 182, 183, 184, 185, 186, 187, 188, 193, 194, 195, 196, 197, 198, 199, 200, 201, 202, 203, 204, 205, 206, 207, 208, 209, 210, 211, 212, 213, 214, 215, 216, 217, 218, 219, 220, 221, 222, 223, 224, 232, 233, 234, 235, 236, 237, 238, 239, 240, 241, 242, 225, 226, 227, 228, 229, 230, 231, 243, 244, 245, 246, 247, 248, 249, 250, 251, 252, 253, 254, 255, 256, 257, 258, 259, 260, 261] (by decide +kernel) (by decide +kernel)
set_option maxRecDepth 20000 in
theorem gX11_many_X11_turnAll : GoodIn wsX11_many (wsV RX11 260 RX11 yX11_turnAll wsX11_turnAll) := goodIn_app (goodIn_of _ (by decide +kernel)) ggX11_many_X11_turnAll
set_option maxRecDepth 20000 in
theorem ggX11_many_X10_asManyAsUnturned : GoodIn wsX11_many wsX10_asManyAsUnturned := goodIn_r _ [192, 181, 254, 255, 256, 257, 258, 259, 260, 261] (by decide +kernel) (by decide +kernel)
set_option maxRecDepth 20000 in
theorem gX11_many_X10_asManyAsUnturned : GoodIn wsX11_many (wsV RX11 264 RX10 yX10_asManyAsUnturned wsX10_asManyAsUnturned) := goodIn_app (goodIn_of _ (by decide +kernel)) ggX11_many_X10_asManyAsUnturned
theorem dX11_many_0 : decode cX11_many 0 = .ok (.aload_n 0, 1) := by decide +kernel
theorem dX11_many_1 : decode cX11_many 1 = .ok (.iload_n 1, 1) := by decide +kernel
theorem dX11_many_2 : decode cX11_many 2 = .ok (.iload_n 2, 1) := by decide +kernel
theorem dX11_many_3 : decode cX11_many 3 = .ok (.iload_n 3, 1) := by decide +kernel
theorem dX11_many_4 : decode cX11_many 4 = .ok (.invokevirtual 239, 3) := by decide +kernel
theorem dX11_many_7 : decode cX11_many 7 = .ok (.ifCond .ne 5, 3) := by decide +kernel
theorem dX11_many_10 : decode cX11_many 10 = .ok (.iconst (-1), 1) := by decide +kernel
theorem dX11_many_11 : decode cX11_many 11 = .ok (.ireturn, 1) := by decide +kernel
theorem dX11_many_12 : decode cX11_many 12 = .ok (.aload_n 0, 1) := by decide +kernel
theorem dX11_many_13 : decode cX11_many 13 = .ok (.iload_n 1, 1) := by decide +kernel
theorem dX11_many_14 : decode cX11_many 14 = .ok (.iload_n 2, 1) := by decide +kernel
theorem dX11_many_15 : decode cX11_many 15 = .ok (.iload_n 3, 1) := by decide +kernel
theorem dX11_many_16 : decode cX11_many 16 = .ok (.iconst (-1), 1) := by decide +kernel
theorem dX11_many_17 : decode cX11_many 17 = .ok (.invokevirtual 260, 3) := by decide +kernel
theorem dX11_many_20 : decode cX11_many 20 = .ok (.aload_n 0, 1) := by decide +kernel
theorem dX11_many_21 : decode cX11_many 21 = .ok (.getfield 67, 3) := by decide +kernel
theorem dX11_many_24 : decode cX11_many 24 = .ok (.invokevirtual 264, 3) := by decide +kernel
theorem dX11_many_27 : decode cX11_many 27 = .ok (.ireturn, 1) := by decide +kernel
set_option maxRecDepth 20000 in
theorem ggX11_allHits_X11_isAsked : GoodIn wsX11_allHits wsX11_isAsked := goodIn_r _ [6, 7, 8, 9, 10, 5, 11, 12, 13, 14, 15, 16, 17, 193, 194, 195, 196, 197, 198, 199, 200, 201, 202, 203, 204, 205, 206, 207, 208, 209, 210, 211, 212, 213, 214, 215, 216, 217, 218, 219, 220, 221, 222, 223, 224, 225, 226, 227, 228, 229, 230, 231] (by decide +kernel) (by decide +kernel)
set_option maxRecDepth 20000 in
theorem gX11_allHits_X11_isAsked : GoodIn wsX11_allHits (wsV RX11 239 RX11 yX11_isAsked wsX11_isAsked) := goodIn_app (goodIn_of _ (by decide +kernel)) ggX11_allHits_X11_isAsked
set_option maxRecDepth 20000 in
theorem ggX11_allHits_X11_turnAll : GoodIn wsX11_allHits wsX11_turnAll := goodIn_r _ [21, 1, 22, 23, 7, 24, 25, 26, 27, 5, 28, 16, 29, 30, 31, 32, 33, 34, 35, 36, 37, 38, 39, 40, 41, 42, 43, 44, 45, 46, 47, 48, 49, 50, 51, 52, 53, 54, 55, 56, 57, 58, 59, 60, 61, 62, 63, 64, 65, 66, 67, 68, 69, 70, 71, 72, 73, 74, 75, 76, 77, 78, 79, 80, 81, 82, 83, 84, 85, 86, 87, 88, 89, 90, 91, 92, 93, 94, 95, 96, 97, 98, 99, 100, 101, 102, 103, 104, 105, 106, 107, 108, 109, 110, 111, 112, 113, 114, 115, 116, 117, 118, 119, 120, 121, 122, 123, 124, 125, 126, 127, 128, 129, 130, 131, 132, 133, 134, 135, 136, 137, 138, 139, 140, 141, 142, 143, 144, 145, 146, 147, 148, 149, 150, 151, 152, 153, 154, 155, 156, 157, 158, 159, 160, 161, 162, 163, 164, 165, 166, 167, 168, 169, 170, 171, 172, 173, 174, 175, 176, 177, 178, 179, 180, 181, 182, 183, 184, 185, 186, 187, 188, 193, 194, 195, 196, 197, 198, 199, 200, 201, 202, 203, 204, 205, 206, 207, 208, 209, 210, 211, 212, 213, 214, 215, 216, 217, 218, 219, 220, 221, 222, 223, 224, 232, 233, 234, 235, 236, 237, 238, 239, 240, 241, 242, 225, 226, 227, 228, 229, 230, 231, 243, 244, 245, 246, 247, 248, 249, 250, 251, 252, 253, 254, 255, 256, 257, 258, 259, 260, 261] (by decide +kernel) (by decide +kernel)
set_option maxRecDepth 20000 in
theorem gX11_allHits_X11_turnAll : GoodIn wsX11_allHits (wsV RX11 260 RX11 yX11_turnAll wsX11_turnAll) := goodIn_app (goodIn_of _ (by decide +kernel)) ggX11_allHits_X11_turnAll
set_option maxRecDepth 20000 in
theorem ggX11_allHits_X10_sum : GoodIn wsX11_allHits wsX10_sum := goodIn_r _ [192, 181, 254, 255, 256, 257, 258, 259, 260, 261] (by decide +kernel) (by decide +kernel)
set_option maxRecDepth 20000 in
theorem gX11_allHits_X10_sum : GoodIn wsX11_allHits (wsV RX11 267 RX10 yX10_sum wsX10_sum) := goodIn_app (goodIn_of _ (by decide +kernel)) ggX11_allHits_X10_sum
theorem dX11_allHits_0 : decode cX11_allHits 0 = .ok (.aload_n 0, 1) := by decide +kernel
theorem dX11_allHits_1 : decode cX11_allHits 1 = .ok (.iload_n 1, 1) := by decide +kernel
theorem dX11_allHits_2 : decode cX11_allHits 2 = .ok (.iload_n 2, 1) := by decide +kernel
theorem dX11_allHits_3 : decode cX11_allHits 3 = .ok (.iload_n 3, 1) := by decide +kernel
theorem dX11_allHits_4 : decode cX11_allHits 4 = .ok (.invokevirtual 239, 3) := by decide +kernel
theorem dX11_allHits_7 : decode cX11_allHits 7 = .ok (.ifCond .ne 5, 3) := by decide +kernel
theorem dX11_allHits_10 : decode cX11_allHits 10 = .ok (.iconst (-1), 1) := by decide +kernel
theorem dX11_allHits_11 : decode cX11_allHits 11 = .ok (.ireturn, 1) := by decide +kernel
theorem dX11_allHits_12 : decode cX11_allHits 12 = .ok (.aload_n 0, 1) := by decide +kernel
theorem dX11_allHits_13 : decode cX11_allHits 13 = .ok (.iload_n 1, 1) := by decide +kernel
theorem dX11_allHits_14 : decode cX11_allHits 14 = .ok (.iload_n 2, 1) := by decide +kernel
theorem dX11_allHits_15 : decode cX11_allHits 15 = .ok (.iload_n 3, 1) := by decide +kernel
theorem dX11_allHits_16 : decode cX11_allHits 16 = .ok (.iconst (-1), 1) := by decide +kernel
theorem dX11_allHits_17 : decode cX11_allHits 17 = .ok (.invokevirtual 260, 3) := by decide +kernel
theorem dX11_allHits_20 : decode cX11_allHits 20 = .ok (.aload_n 0, 1) := by decide +kernel
theorem dX11_allHits_21 : decode cX11_allHits 21 = .ok (.getfield 67, 3) := by decide +kernel
theorem dX11_allHits_24 : decode cX11_allHits 24 = .ok (.invokevirtual 267, 3) := by decide +kernel
theorem dX11_allHits_27 : decode cX11_allHits 27 = .ok (.ireturn, 1) := by decide +kernel
set_option maxRecDepth 20000 in
theorem ggX11_alone_X11_isAsked : GoodIn wsX11_alone wsX11_isAsked := goodIn_r _ [10, 11, 12, 13, 14, 9, 15, 16, 17, 18, 19, 20, 21, 203, 204, 205, 206, 207, 208, 209, 210, 211, 212, 213, 214, 215, 216, 217, 218, 230, 231, 232, 233, 234, 235, 236, 237, 238, 239, 240, 241, 242, 243, 244, 245, 246, 247, 248, 249, 250, 251, 252] (by decide +kernel) (by decide +kernel)
set_option maxRecDepth 20000 in
theorem gX11_alone_X11_isAsked : GoodIn wsX11_alone (wsV RX11 239 RX11 yX11_isAsked wsX11_isAsked) := goodIn_app (goodIn_of _ (by decide +kernel)) ggX11_alone_X11_isAsked
set_option maxRecDepth 20000 in
theorem ggX11_alone_X11_lookAt : GoodIn wsX11_alone wsX11_lookAt := goodIn_r _ [25, 2, 11, 20, 26, 27, 28, 29, 30, 31, 32, 33, 34, 35, 36, 37, 38, 39, 40, 41, 42, 43, 44, 45, 46, 47, 48, 49, 50, 51, 52, 53, 54, 55, 56, 57, 58, 59, 60, 61, 62, 63, 64, 65, 66, 67, 68, 69, 70, 71, 72, 73, 74, 75, 76, 77, 78, 79, 80, 81, 82, 83, 84, 85, 86, 87, 88, 89, 90, 91, 92, 93, 94, 95, 96, 97, 98, 99, 100, 101, 102, 103, 104, 105, 106, 107, 108, 109, 110, 111, 112, 113, 114, 115, 116, 117, 118, 119, 120, 121, 122, 123, 124, 125, 126, 127, 128, 129, 130, 131, 132, 133, 134, 135, 136, 137, 138, 139, 140, 141, 142, 143, 144, 145, 146, 147, 148, 149, 150, 203, 204, 205, 206, 207, 208, 209, 210, 211, 212, 213, 214, 215, 216, 217, 218, 230, 231, 232, 233, 234, 235, 236, 237, 238, 239, 240, 241, 242, 243, 244, 245, 219, 220, 221, 222, 223, 224, 225, 226, 227, 228, 229, 246, 247, 248, 249, 250, 251, 252, 253, 254, 255, 256, 257, 258, 259, 260, 261, 262, 263] (by decide +kernel) (by decide +kernel)
set_option maxRecDepth 20000 in
theorem gX11_alone_X11_lookAt : GoodIn wsX11_alone (wsV RX11 243 RX11 yX11_lookAt wsX11_lookAt) := goodIn_app (goodIn_of _ (by decide +kernel)) ggX11_alone_X11_lookAt
set_option maxRecDepth 20000 in
theorem ggX11_alone_X4_forget : GoodIn wsX11_alone wsX4_forget := goodIn_r _ [155, 156, 157, 158, 159, 160, 264, 265] (by decide +kernel) (by decide +kernel)
set_option maxRecDepth 20000 in
theorem gX11_alone_X4_forget : GoodIn wsX11_alone (wsV RX11 270 RX4 yX4_forget wsX4_forget) := goodIn_app (goodIn_of _ (by decide +kernel)) ggX11_alone_X4_forget
set_option maxRecDepth 20000 in
theorem ggX11_alone_X11_strikes : GoodIn wsX11_alone wsX11_strikes := goodIn_r _ [164, 26, 11, 165, 166, 167, 168, 124, 169, 127, 129, 128, 170, 171, 93, 172, 95, 81, 82, 83, 97, 89, 90, 203, 204, 205, 206, 207, 208, 209, 210, 211, 212, 213, 214, 215, 216, 217, 218, 230, 231, 232, 233, 234, 235, 236, 237, 238, 239, 240, 241, 242, 243, 244, 245, 260, 261, 262, 263] (by decide +kernel) (by decide +kernel)
set_option maxRecDepth 20000 in
theorem gX11_alone_X11_strikes : GoodIn wsX11_alone (wsV RX11 253 RX11 yX11_strikes wsX11_strikes) := goodIn_app (goodIn_of _ (by decide +kernel)) ggX11_alone_X11_strikes
set_option maxRecDepth 20000 in
theorem ggX11_alone_X4_join : GoodIn wsX11_alone wsX4_join := goodIn_r _ [176, 156, 264, 265] (by decide +kernel) (by decide +kernel)
set_option maxRecDepth 20000 in
theorem gX11_alone_X4_join : GoodIn wsX11_alone (wsV RX11 271 RX4 yX4_join wsX4_join) := goodIn_app (goodIn_of _ (by decide +kernel)) ggX11_alone_X4_join
set_option maxRecDepth 20000 in
theorem ggX11_alone_X4_most : GoodIn wsX11_alone wsX4_most := goodIn_r _ [180, 181, 182, 183, 184, 154, 185, 156, 186, 187, 188, 189, 190, 191, 192, 193, 194, 85, 82, 86, 195, 196, 197, 198, 199, 200, 201, 202, 264, 265] (by decide +kernel) (by decide +kernel)
set_option maxRecDepth 20000 in
theorem gX11_alone_X4_most : GoodIn wsX11_alone (wsV RX11 275 RX4 yX4_most wsX4_most) := goodIn_app (goodIn_of _ (by decide +kernel)) ggX11_alone_X4_most
theorem dX11_alone_0 : decode cX11_alone 0 = .ok (.aload_n 0, 1) := by decide +kernel
theorem dX11_alone_1 : decode cX11_alone 1 = .ok (.iload_n 1, 1) := by decide +kernel
theorem dX11_alone_2 : decode cX11_alone 2 = .ok (.iload_n 2, 1) := by decide +kernel
theorem dX11_alone_3 : decode cX11_alone 3 = .ok (.iload_n 3, 1) := by decide +kernel
theorem dX11_alone_4 : decode cX11_alone 4 = .ok (.invokevirtual 239, 3) := by decide +kernel
theorem dX11_alone_7 : decode cX11_alone 7 = .ok (.ifCond .ne 5, 3) := by decide +kernel
theorem dX11_alone_10 : decode cX11_alone 10 = .ok (.iconst (-1), 1) := by decide +kernel
theorem dX11_alone_11 : decode cX11_alone 11 = .ok (.ireturn, 1) := by decide +kernel
theorem dX11_alone_12 : decode cX11_alone 12 = .ok (.aload_n 0, 1) := by decide +kernel
theorem dX11_alone_13 : decode cX11_alone 13 = .ok (.iload_n 2, 1) := by decide +kernel
theorem dX11_alone_14 : decode cX11_alone 14 = .ok (.iload_n 3, 1) := by decide +kernel
theorem dX11_alone_15 : decode cX11_alone 15 = .ok (.iconst (-1), 1) := by decide +kernel
theorem dX11_alone_16 : decode cX11_alone 16 = .ok (.invokevirtual 243, 3) := by decide +kernel
theorem dX11_alone_19 : decode cX11_alone 19 = .ok (.aload_n 0, 1) := by decide +kernel
theorem dX11_alone_20 : decode cX11_alone 20 = .ok (.getfield 74, 3) := by decide +kernel
theorem dX11_alone_23 : decode cX11_alone 23 = .ok (.invokevirtual 270, 3) := by decide +kernel
theorem dX11_alone_26 : decode cX11_alone 26 = .ok (.iconst 0, 1) := by decide +kernel
theorem dX11_alone_27 : decode cX11_alone 27 = .ok (.istore 4, 2) := by decide +kernel
theorem dX11_alone_29 : decode cX11_alone 29 = .ok (.iload 4, 2) := by decide +kernel
theorem dX11_alone_31 : decode cX11_alone 31 = .ok (.aload_n 0, 1) := by decide +kernel
theorem dX11_alone_32 : decode cX11_alone 32 = .ok (.getfield 53, 3) := by decide +kernel
theorem dX11_alone_35 : decode cX11_alone 35 = .ok (.getfield 210, 3) := by decide +kernel
theorem dX11_alone_38 : decode cX11_alone 38 = .ok (.if_icmp .ge 61, 3) := by decide +kernel
theorem dX11_alone_41 : decode cX11_alone 41 = .ok (.aload_n 0, 1) := by decide +kernel
theorem dX11_alone_42 : decode cX11_alone 42 = .ok (.aload_n 0, 1) := by decide +kernel
theorem dX11_alone_43 : decode cX11_alone 43 = .ok (.getfield 53, 3) := by decide +kernel
theorem dX11_alone_46 : decode cX11_alone 46 = .ok (.getfield 250, 3) := by decide +kernel
theorem dX11_alone_49 : decode cX11_alone 49 = .ok (.iload 4, 2) := by decide +kernel
theorem dX11_alone_51 : decode cX11_alone 51 = .ok (.iaload, 1) := by decide +kernel
theorem dX11_alone_52 : decode cX11_alone 52 = .ok (.iload_n 1, 1) := by decide +kernel
theorem dX11_alone_53 : decode cX11_alone 53 = .ok (.iconst 0, 1) := by decide +kernel
theorem dX11_alone_54 : decode cX11_alone 54 = .ok (.invokevirtual 253, 3) := by decide +kernel
theorem dX11_alone_57 : decode cX11_alone 57 = .ok (.ifCond .eq 36, 3) := by decide +kernel
theorem dX11_alone_60 : decode cX11_alone 60 = .ok (.aload_n 0, 1) := by decide +kernel
theorem dX11_alone_61 : decode cX11_alone 61 = .ok (.getfield 74, 3) := by decide +kernel
theorem dX11_alone_64 : decode cX11_alone 64 = .ok (.aload_n 0, 1) := by decide +kernel
theorem dX11_alone_65 : decode cX11_alone 65 = .ok (.getfield 53, 3) := by decide +kernel
theorem dX11_alone_68 : decode cX11_alone 68 = .ok (.getfield 257, 3) := by decide +kernel
theorem dX11_alone_71 : decode cX11_alone 71 = .ok (.iload 4, 2) := by decide +kernel
theorem dX11_alone_73 : decode cX11_alone 73 = .ok (.iaload, 1) := by decide +kernel
theorem dX11_alone_74 : decode cX11_alone 74 = .ok (.bipush 14, 2) := by decide +kernel
theorem dX11_alone_76 : decode cX11_alone 76 = .ok (.idiv, 1) := by decide +kernel
theorem dX11_alone_77 : decode cX11_alone 77 = .ok (.aload_n 0, 1) := by decide +kernel
theorem dX11_alone_78 : decode cX11_alone 78 = .ok (.getfield 53, 3) := by decide +kernel
theorem dX11_alone_81 : decode cX11_alone 81 = .ok (.getfield 257, 3) := by decide +kernel
theorem dX11_alone_84 : decode cX11_alone 84 = .ok (.iload 4, 2) := by decide +kernel
theorem dX11_alone_86 : decode cX11_alone 86 = .ok (.iaload, 1) := by decide +kernel
theorem dX11_alone_87 : decode cX11_alone 87 = .ok (.bipush 14, 2) := by decide +kernel
theorem dX11_alone_89 : decode cX11_alone 89 = .ok (.irem, 1) := by decide +kernel
theorem dX11_alone_90 : decode cX11_alone 90 = .ok (.invokevirtual 271, 3) := by decide +kernel
theorem dX11_alone_93 : decode cX11_alone 93 = .ok (.iinc 4 1, 3) := by decide +kernel
theorem dX11_alone_96 : decode cX11_alone 96 = .ok (.goto (-67), 3) := by decide +kernel
theorem dX11_alone_99 : decode cX11_alone 99 = .ok (.aload_n 0, 1) := by decide +kernel
theorem dX11_alone_100 : decode cX11_alone 100 = .ok (.getfield 74, 3) := by decide +kernel
theorem dX11_alone_103 : decode cX11_alone 103 = .ok (.invokevirtual 275, 3) := by decide +kernel
theorem dX11_alone_106 : decode cX11_alone 106 = .ok (.ireturn, 1) := by decide +kernel
set_option maxRecDepth 20000 in
theorem ggX11_striking_X11_isYear : GoodIn wsX11_striking wsX11_isYear := goodIn_r _ [8] (by decide +kernel) (by decide +kernel)
set_option maxRecDepth 20000 in
theorem gX11_striking_X11_isYear : GoodIn wsX11_striking (va_wsS RX11 219 yX11_isYear wsX11_isYear) := goodIn_app (goodIn_of _ (by decide +kernel)) ggX11_striking_X11_isYear
set_option maxRecDepth 20000 in
theorem ggX11_striking_X11_isDegree : GoodIn wsX11_striking wsX11_isDegree := goodIn_r _ [11] (by decide +kernel) (by decide +kernel)
set_option maxRecDepth 20000 in
theorem gX11_striking_X11_isDegree : GoodIn wsX11_striking (va_wsS RX11 180 yX11_isDegree wsX11_isDegree) := goodIn_app (goodIn_of _ (by decide +kernel)) ggX11_striking_X11_isDegree
set_option maxRecDepth 20000 in
theorem ggX11_striking_X11_isKnown : GoodIn wsX11_striking wsX11_isKnown := goodIn_r _ [15, 16, 17, 195, 196, 197, 198, 199, 200, 201, 202, 203, 204, 205, 206, 207, 208, 209, 210, 219, 220, 221, 222, 223, 224, 225] (by decide +kernel) (by decide +kernel)
set_option maxRecDepth 20000 in
theorem gX11_striking_X11_isKnown : GoodIn wsX11_striking (wsV RX11 152 RX11 yX11_isKnown wsX11_isKnown) := goodIn_app (goodIn_of _ (by decide +kernel)) ggX11_striking_X11_isKnown
set_option maxRecDepth 20000 in
theorem ggX11_striking_X11_lookAt : GoodIn wsX11_striking wsX11_lookAt := goodIn_r _ [21, 2, 22, 16, 3, 23, 24, 25, 26, 27, 28, 29, 30, 31, 32, 33, 34, 35, 36, 37, 38, 39, 40, 41, 42, 43, 44, 45, 46, 47, 48, 49, 50, 51, 52, 53, 54, 55, 56, 57, 58, 59, 60, 61, 62, 63, 64, 65, 66, 67, 68, 69, 70, 71, 72, 73, 74, 75, 76, 77, 78, 79, 80, 81, 82, 83, 84, 85, 86, 87, 88, 89, 90, 91, 92, 93, 94, 95, 96, 97, 98, 99, 100, 101, 102, 103, 104, 105, 106, 107, 108, 109, 110, 111, 112, 113, 114, 115, 116, 117, 118, 119, 120, 121, 122, 123, 124, 125, 126, 127, 128, 129, 130, 131, 132, 133, 134, 135, 136, 137, 138, 139, 140, 141, 142, 143, 144, 145, 146, 195, 196, 197, 198, 199, 200, 201, 202, 203, 204, 205, 206, 207, 208, 209, 210, 226, 227, 228, 229, 230, 231, 232, 233, 234, 235, 236, 237, 238, 239, 240, 241, 242, 243, 244, 245, 246, 247, 248, 249, 250, 251, 252, 219, 220, 221, 222, 223, 224, 225, 253, 254, 255, 256, 257, 258, 259, 260, 261, 262, 263] (by decide +kernel) (by decide +kernel)
set_option maxRecDepth 20000 in
theorem gX11_striking_X11_lookAt : GoodIn wsX11_striking (wsV RX11 243 RX11 yX11_lookAt wsX11_lookAt) := goodIn_app (goodIn_of _ (by decide +kernel)) ggX11_striking_X11_lookAt
set_option maxRecDepth 20000 in
theorem ggX11_striking_X10_tellAfter : GoodIn wsX11_striking wsX10_tellAfter := goodIn_r _ [151, 152, 153, 154, 155, 156, 157, 158, 159, 160, 150, 161, 162, 163, 164, 165, 166, 167, 168, 169, 170, 171, 172, 120, 173, 123, 125, 124, 174, 175, 89, 176, 91, 77, 78, 79, 93, 85, 86, 177, 178, 179, 180, 181, 182, 183, 184, 185, 186, 187, 188, 189, 190, 191, 192, 193, 194, 211, 212, 213, 214, 215, 216, 217, 218, 260, 261, 262, 263, 242, 243, 244, 245, 246, 247, 248, 249, 250, 251, 252] (by decide +kernel) (by decide +kernel)
set_option maxRecDepth 20000 in
theorem gX11_striking_X10_tellAfter : GoodIn wsX11_striking (wsV RX11 278 RX10 yX10_tellAfter wsX10_tellAfter) := goodIn_app (goodIn_of _ (by decide +kernel)) ggX11_striking_X10_tellAfter
theorem dX11_striking_0 : decode cX11_striking 0 = .ok (.iload_n 1, 1) := by decide +kernel
theorem dX11_striking_1 : decode cX11_striking 1 = .ok (.invokestatic 219, 3) := by decide +kernel
theorem dX11_striking_4 : decode cX11_striking 4 = .ok (.ifCond .eq 18, 3) := by decide +kernel
theorem dX11_striking_7 : decode cX11_striking 7 = .ok (.iload_n 2, 1) := by decide +kernel
theorem dX11_striking_8 : decode cX11_striking 8 = .ok (.invokestatic 180, 3) := by decide +kernel
theorem dX11_striking_11 : decode cX11_striking 11 = .ok (.ifCond .eq 11, 3) := by decide +kernel
theorem dX11_striking_14 : decode cX11_striking 14 = .ok (.aload_n 0, 1) := by decide +kernel
theorem dX11_striking_15 : decode cX11_striking 15 = .ok (.iload_n 3, 1) := by decide +kernel
theorem dX11_striking_16 : decode cX11_striking 16 = .ok (.invokevirtual 152, 3) := by decide +kernel
theorem dX11_striking_19 : decode cX11_striking 19 = .ok (.ifCond .ne 5, 3) := by decide +kernel
theorem dX11_striking_22 : decode cX11_striking 22 = .ok (.iconst (-1), 1) := by decide +kernel
theorem dX11_striking_23 : decode cX11_striking 23 = .ok (.ireturn, 1) := by decide +kernel
theorem dX11_striking_24 : decode cX11_striking 24 = .ok (.aload_n 0, 1) := by decide +kernel
theorem dX11_striking_25 : decode cX11_striking 25 = .ok (.iload_n 1, 1) := by decide +kernel
theorem dX11_striking_26 : decode cX11_striking 26 = .ok (.iload_n 3, 1) := by decide +kernel
theorem dX11_striking_27 : decode cX11_striking 27 = .ok (.iconst (-1), 1) := by decide +kernel
theorem dX11_striking_28 : decode cX11_striking 28 = .ok (.invokevirtual 243, 3) := by decide +kernel
theorem dX11_striking_31 : decode cX11_striking 31 = .ok (.aload_n 0, 1) := by decide +kernel
theorem dX11_striking_32 : decode cX11_striking 32 = .ok (.getfield 67, 3) := by decide +kernel
theorem dX11_striking_35 : decode cX11_striking 35 = .ok (.aload_n 0, 1) := by decide +kernel
theorem dX11_striking_36 : decode cX11_striking 36 = .ok (.getfield 53, 3) := by decide +kernel
theorem dX11_striking_39 : decode cX11_striking 39 = .ok (.aload_n 0, 1) := by decide +kernel
theorem dX11_striking_40 : decode cX11_striking 40 = .ok (.getfield 60, 3) := by decide +kernel
theorem dX11_striking_43 : decode cX11_striking 43 = .ok (.invokevirtual 278, 3) := by decide +kernel
theorem dX11_striking_46 : decode cX11_striking 46 = .ok (.aload_n 0, 1) := by decide +kernel
theorem dX11_striking_47 : decode cX11_striking 47 = .ok (.getfield 67, 3) := by decide +kernel
theorem dX11_striking_50 : decode cX11_striking 50 = .ok (.getfield 282, 3) := by decide +kernel
theorem dX11_striking_53 : decode cX11_striking 53 = .ok (.iload_n 2, 1) := by decide +kernel
theorem dX11_striking_54 : decode cX11_striking 54 = .ok (.iaload, 1) := by decide +kernel
theorem dX11_striking_55 : decode cX11_striking 55 = .ok (.ireturn, 1) := by decide +kernel
set_option maxRecDepth 20000 in
theorem ggX11_price_X11_isYear : GoodIn wsX11_price wsX11_isYear := goodIn_r _ [8] (by decide +kernel) (by decide +kernel)
set_option maxRecDepth 20000 in
theorem gX11_price_X11_isYear : GoodIn wsX11_price (va_wsS RX11 219 yX11_isYear wsX11_isYear) := goodIn_app (goodIn_of _ (by decide +kernel)) ggX11_price_X11_isYear
set_option maxRecDepth 20000 in
theorem ggX11_price_X11_isKnown : GoodIn wsX11_price wsX11_isKnown := goodIn_r _ [12, 13, 14, 192, 193, 194, 195, 196, 197, 198, 199, 200, 201, 202, 203, 204, 205, 206, 207, 216, 217, 218, 219, 220, 221, 222] (by decide +kernel) (by decide +kernel)
set_option maxRecDepth 20000 in
theorem gX11_price_X11_isKnown : GoodIn wsX11_price (wsV RX11 152 RX11 yX11_isKnown wsX11_isKnown) := goodIn_app (goodIn_of _ (by decide +kernel)) ggX11_price_X11_isKnown
set_option maxRecDepth 20000 in
theorem ggX11_price_X11_lookAt : GoodIn wsX11_price wsX11_lookAt := goodIn_r _ [18, 2, 19, 13, 3, 20, 21, 22, 23, 24, 25, 26, 27, 28, 29, 30, 31, 32, 33, 34, 35, 36, 37, 38, 39, 40, 41, 42, 43, 44, 45, 46, 47, 48, 49, 50, 51, 52, 53, 54, 55, 56, 57, 58, 59, 60, 61, 62, 63, 64, 65, 66, 67, 68, 69, 70, 71, 72, 73, 74, 75, 76, 77, 78, 79, 80, 81, 82, 83, 84, 85, 86, 87, 88, 89, 90, 91, 92, 93, 94, 95, 96, 97, 98, 99, 100, 101, 102, 103, 104, 105, 106, 107, 108, 109, 110, 111, 112, 113, 114, 115, 116, 117, 118, 119, 120, 121, 122, 123, 124, 125, 126, 127, 128, 129, 130, 131, 132, 133, 134, 135, 136, 137, 138, 139, 140, 141, 142, 143, 192, 193, 194, 195, 196, 197, 198, 199, 200, 201, 202, 203, 204, 205, 206, 207, 223, 224, 225, 226, 227, 228, 229, 230, 231, 232, 233, 234, 235, 236, 237, 238, 239, 240, 241, 242, 243, 244, 245, 246, 247, 248, 249, 216, 217, 218, 219, 220, 221, 222, 250, 251, 252, 253, 254, 255, 256, 257, 258, 259, 260] (by decide +kernel) (by decide +kernel)
set_option maxRecDepth 20000 in
theorem gX11_price_X11_lookAt : GoodIn wsX11_price (wsV RX11 243 RX11 yX11_lookAt wsX11_lookAt) := goodIn_app (goodIn_of _ (by decide +kernel)) ggX11_price_X11_lookAt
set_option maxRecDepth 20000 in
theorem ggX11_price_X10_tellAfter : GoodIn wsX11_price wsX10_tellAfter := goodIn_r _ [148, 149, 150, 151, 152, 153, 154, 155, 156, 157, 147, 158, 159, 160, 161, 162, 163, 164, 165, 166, 167, 168, 169, 117, 170, 120, 122, 121, 171, 172, 86, 173, 88, 74, 75, 76, 90, 82, 83, 174, 175, 176, 177, 178, 179, 180, 181, 182, 183, 184, 185, 186, 187, 188, 189, 190, 191, 208, 209, 210, 211, 212, 213, 214, 215, 257, 258, 259, 260, 239, 240, 241, 242, 243, 244, 245, 246, 247, 248, 249] (by decide +kernel) (by decide +kernel)
set_option maxRecDepth 20000 in
theorem gX11_price_X10_tellAfter : GoodIn wsX11_price (wsV RX11 278 RX10 yX10_tellAfter wsX10_tellAfter) := goodIn_app (goodIn_of _ (by decide +kernel)) ggX11_price_X10_tellAfter
theorem dX11_price_0 : decode cX11_price 0 = .ok (.iload_n 1, 1) := by decide +kernel
theorem dX11_price_1 : decode cX11_price 1 = .ok (.invokestatic 219, 3) := by decide +kernel
theorem dX11_price_4 : decode cX11_price 4 = .ok (.ifCond .eq 11, 3) := by decide +kernel
theorem dX11_price_7 : decode cX11_price 7 = .ok (.aload_n 0, 1) := by decide +kernel
theorem dX11_price_8 : decode cX11_price 8 = .ok (.iload_n 2, 1) := by decide +kernel
theorem dX11_price_9 : decode cX11_price 9 = .ok (.invokevirtual 152, 3) := by decide +kernel
theorem dX11_price_12 : decode cX11_price 12 = .ok (.ifCond .ne 5, 3) := by decide +kernel
theorem dX11_price_15 : decode cX11_price 15 = .ok (.iconst (-1), 1) := by decide +kernel
theorem dX11_price_16 : decode cX11_price 16 = .ok (.ireturn, 1) := by decide +kernel
theorem dX11_price_17 : decode cX11_price 17 = .ok (.aload_n 0, 1) := by decide +kernel
theorem dX11_price_18 : decode cX11_price 18 = .ok (.iload_n 1, 1) := by decide +kernel
theorem dX11_price_19 : decode cX11_price 19 = .ok (.iload_n 2, 1) := by decide +kernel
theorem dX11_price_20 : decode cX11_price 20 = .ok (.iconst (-1), 1) := by decide +kernel
theorem dX11_price_21 : decode cX11_price 21 = .ok (.invokevirtual 243, 3) := by decide +kernel
theorem dX11_price_24 : decode cX11_price 24 = .ok (.aload_n 0, 1) := by decide +kernel
theorem dX11_price_25 : decode cX11_price 25 = .ok (.getfield 67, 3) := by decide +kernel
theorem dX11_price_28 : decode cX11_price 28 = .ok (.aload_n 0, 1) := by decide +kernel
theorem dX11_price_29 : decode cX11_price 29 = .ok (.getfield 53, 3) := by decide +kernel
theorem dX11_price_32 : decode cX11_price 32 = .ok (.aload_n 0, 1) := by decide +kernel
theorem dX11_price_33 : decode cX11_price 33 = .ok (.getfield 60, 3) := by decide +kernel
theorem dX11_price_36 : decode cX11_price 36 = .ok (.invokevirtual 278, 3) := by decide +kernel
theorem dX11_price_39 : decode cX11_price 39 = .ok (.iconst 0, 1) := by decide +kernel
theorem dX11_price_40 : decode cX11_price 40 = .ok (.istore_n 3, 1) := by decide +kernel
theorem dX11_price_41 : decode cX11_price 41 = .ok (.iconst 0, 1) := by decide +kernel
theorem dX11_price_42 : decode cX11_price 42 = .ok (.istore 4, 2) := by decide +kernel
theorem dX11_price_44 : decode cX11_price 44 = .ok (.iload 4, 2) := by decide +kernel
theorem dX11_price_46 : decode cX11_price 46 = .ok (.sipush 360, 3) := by decide +kernel
theorem dX11_price_49 : decode cX11_price 49 = .ok (.if_icmp .ge 34, 3) := by decide +kernel
theorem dX11_price_52 : decode cX11_price 52 = .ok (.aload_n 0, 1) := by decide +kernel
theorem dX11_price_53 : decode cX11_price 53 = .ok (.getfield 67, 3) := by decide +kernel
theorem dX11_price_56 : decode cX11_price 56 = .ok (.getfield 282, 3) := by decide +kernel
theorem dX11_price_59 : decode cX11_price 59 = .ok (.iload 4, 2) := by decide +kernel
theorem dX11_price_61 : decode cX11_price 61 = .ok (.iaload, 1) := by decide +kernel
theorem dX11_price_62 : decode cX11_price 62 = .ok (.aload_n 0, 1) := by decide +kernel
theorem dX11_price_63 : decode cX11_price 63 = .ok (.getfield 67, 3) := by decide +kernel
theorem dX11_price_66 : decode cX11_price 66 = .ok (.getfield 282, 3) := by decide +kernel
theorem dX11_price_69 : decode cX11_price 69 = .ok (.iconst 0, 1) := by decide +kernel
theorem dX11_price_70 : decode cX11_price 70 = .ok (.iaload, 1) := by decide +kernel
theorem dX11_price_71 : decode cX11_price 71 = .ok (.if_icmp .gt 6, 3) := by decide +kernel
theorem dX11_price_74 : decode cX11_price 74 = .ok (.iinc 3 1, 3) := by decide +kernel
theorem dX11_price_77 : decode cX11_price 77 = .ok (.iinc 4 1, 3) := by decide +kernel
theorem dX11_price_80 : decode cX11_price 80 = .ok (.goto (-36), 3) := by decide +kernel
theorem dX11_price_83 : decode cX11_price 83 = .ok (.iload_n 3, 1) := by decide +kernel
theorem dX11_price_84 : decode cX11_price 84 = .ok (.ireturn, 1) := by decide +kernel
set_option maxRecDepth 20000 in
theorem ggX11_story_X11_isAsked : GoodIn wsX11_story wsX11_isAsked := goodIn_r _ [10, 1, 11, 12, 13, 9, 14, 15, 16, 17, 18, 19, 20, 212, 213, 214, 215, 216, 217, 218, 219, 220, 221, 222, 223, 224, 225, 226, 227, 228, 229, 230, 231, 232, 233, 234, 235, 236, 237, 238, 239, 240, 241, 242, 243, 255, 256, 257, 258, 259, 260, 261] (by decide +kernel) (by decide +kernel)
set_option maxRecDepth 20000 in
theorem gX11_story_X11_isAsked : GoodIn wsX11_story (wsV RX11 239 RX11 yX11_isAsked wsX11_isAsked) := goodIn_app (goodIn_of _ (by decide +kernel)) ggX11_story_X11_isAsked
set_option maxRecDepth 20000 in
theorem ggX11_story_X11_lookAt : GoodIn wsX11_story wsX11_lookAt := goodIn_r _ [24, 3, 1, 19, 25, 26, 27, 28, 29, 30, 31, 32, 33, 34, 35, 36, 37, 38, 39, 40, 41, 42, 43, 44, 45, 46, 47, 48, 49, 50, 51, 52, 53, 54, 55, 56, 57, 58, 59, 60, 61, 62, 63, 64, 65, 66, 67, 68, 69, 70, 71, 72, 73, 74, 75, 76, 77, 78, 79, 80, 81, 82, 83, 84, 85, 86, 87, 88, 89, 90, 91, 92, 93, 94, 95, 96, 97, 98, 99, 100, 101, 102, 103, 104, 105, 106, 107, 108, 109, 110, 111, 112, 113, 114, 115, 116, 117, 118, 119, 120, 121, 122, 123, 124, 125, 126, 127, 128, 129, 130, 131, 132, 133, 134, 135, 136, 137, 138, 139, 140, 141, 142, 143, 144, 145, 146, 147, 148, 149, 212, 213, 214, 215, 216, 217, 218, 219, 220, 221, 222, 223, 224, 225, 226, 227, 228, 229, 230, 231, 232, 233, 234, 235, 236, 237, 238, 239, 240, 241, 242, 243, 244, 245, 246, 247, 248, 249, 250, 251, 252, 253, 254, 255, 256, 257, 258, 259, 260, 261, 262, 263, 264, 265, 266, 267, 268, 269, 270, 271, 272] (by decide +kernel) (by decide +kernel)
set_option maxRecDepth 20000 in
theorem gX11_story_X11_lookAt : GoodIn wsX11_story (wsV RX11 243 RX11 yX11_lookAt wsX11_lookAt) := goodIn_app (goodIn_of _ (by decide +kernel)) ggX11_story_X11_lookAt
set_option maxRecDepth 20000 in
theorem ggX11_story_X11_hitsNow : GoodIn wsX11_story wsX11_hitsNow := goodIn_r _ [153, 154, 155, 156, 9, 157, 3, 4, 158, 159, 160, 92, 161, 162, 163, 164, 165, 25, 1, 166, 167, 168, 169, 123, 170, 126, 128, 127, 171, 172, 173, 94, 80, 81, 82, 96, 88, 89, 212, 213, 214, 215, 216, 217, 218, 219, 220, 221, 222, 223, 224, 225, 226, 227, 244, 245, 246, 247, 248, 249, 250, 251, 252, 253, 254, 228, 229, 230, 231, 232, 233, 234, 235, 236, 237, 238, 239, 240, 241, 242, 243, 269, 270, 271, 272] (by decide +kernel) (by decide +kernel)
set_option maxRecDepth 20000 in
theorem gX11_story_X11_hitsNow : GoodIn wsX11_story (wsV RX11 288 RX11 yX11_hitsNow wsX11_hitsNow) := goodIn_app (goodIn_of _ (by decide +kernel)) ggX11_story_X11_hitsNow
set_option maxRecDepth 20000 in
theorem ggX11_story_X11_turnAll : GoodIn wsX11_story wsX11_turnAll := goodIn_r _ [177, 5, 3, 25, 1, 166, 21, 22, 23, 9, 24, 19, 26, 27, 28, 29, 30, 31, 32, 33, 34, 35, 36, 37, 38, 39, 40, 41, 42, 43, 44, 45, 46, 47, 48, 49, 50, 51, 52, 53, 54, 55, 56, 57, 58, 59, 60, 61, 62, 63, 64, 65, 66, 67, 68, 69, 70, 71, 72, 73, 74, 75, 76, 77, 78, 79, 80, 81, 82, 83, 84, 85, 86, 87, 88, 89, 90, 91, 92, 93, 94, 95, 96, 97, 98, 99, 100, 101, 102, 103, 104, 105, 106, 107, 108, 109, 110, 111, 112, 113, 114, 115, 116, 117, 118, 119, 120, 121, 122, 123, 124, 125, 126, 127, 128, 129, 130, 131, 132, 133, 134, 135, 136, 137, 138, 139, 140, 141, 142, 143, 144, 145, 146, 147, 148, 149, 178, 179, 180, 181, 182, 183, 184, 185, 186, 187, 188, 189, 190, 191, 192, 193, 194, 195, 168, 169, 170, 171, 172, 173, 196, 197, 198, 199, 200, 201, 202, 203, 204, 205, 206, 207, 212, 213, 214, 215, 216, 217, 218, 219, 220, 221, 222, 223, 224, 225, 226, 227, 228, 229, 230, 231, 232, 233, 234, 235, 236, 237, 238, 239, 240, 241, 242, 243, 244, 245, 246, 247, 248, 249, 250, 251, 252, 253, 254, 255, 256, 257, 258, 259, 260, 261, 262, 263, 264, 265, 266, 267, 268, 269, 270, 271, 272, 273, 274, 275, 276, 277, 278, 279, 280] (by decide +kernel) (by decide +kernel)
set_option maxRecDepth 20000 in
theorem gX11_story_X11_turnAll : GoodIn wsX11_story (wsV RX11 260 RX11 yX11_turnAll wsX11_turnAll) := goodIn_app (goodIn_of _ (by decide +kernel)) ggX11_story_X11_turnAll
set_option maxRecDepth 20000 in
theorem ggX11_story_X10_asManyAsUnturned : GoodIn wsX11_story wsX10_asManyAsUnturned := goodIn_r _ [211, 200, 273, 274, 275, 276, 277, 278, 279, 280] (by decide +kernel) (by decide +kernel)
set_option maxRecDepth 20000 in
theorem gX11_story_X10_asManyAsUnturned : GoodIn wsX11_story (wsV RX11 264 RX10 yX10_asManyAsUnturned wsX10_asManyAsUnturned) := goodIn_app (goodIn_of _ (by decide +kernel)) ggX11_story_X10_asManyAsUnturned
theorem dX11_story_0 : decode cX11_story 0 = .ok (.iload_n 1, 1) := by decide +kernel
theorem dX11_story_1 : decode cX11_story 1 = .ok (.ifCond .lt 25, 3) := by decide +kernel
theorem dX11_story_4 : decode cX11_story 4 = .ok (.iload_n 1, 1) := by decide +kernel
theorem dX11_story_5 : decode cX11_story 5 = .ok (.aload_n 0, 1) := by decide +kernel
theorem dX11_story_6 : decode cX11_story 6 = .ok (.getfield 19, 3) := by decide +kernel
theorem dX11_story_9 : decode cX11_story 9 = .ok (.getfield 285, 3) := by decide +kernel
theorem dX11_story_12 : decode cX11_story 12 = .ok (.if_icmp .ge 14, 3) := by decide +kernel
theorem dX11_story_15 : decode cX11_story 15 = .ok (.aload_n 0, 1) := by decide +kernel
theorem dX11_story_16 : decode cX11_story 16 = .ok (.iload_n 2, 1) := by decide +kernel
theorem dX11_story_17 : decode cX11_story 17 = .ok (.iload_n 3, 1) := by decide +kernel
theorem dX11_story_18 : decode cX11_story 18 = .ok (.iload 4, 2) := by decide +kernel
theorem dX11_story_20 : decode cX11_story 20 = .ok (.invokevirtual 239, 3) := by decide +kernel
theorem dX11_story_23 : decode cX11_story 23 = .ok (.ifCond .ne 5, 3) := by decide +kernel
theorem dX11_story_26 : decode cX11_story 26 = .ok (.iconst (-1), 1) := by decide +kernel
theorem dX11_story_27 : decode cX11_story 27 = .ok (.ireturn, 1) := by decide +kernel
theorem dX11_story_28 : decode cX11_story 28 = .ok (.iload 5, 2) := by decide +kernel
theorem dX11_story_30 : decode cX11_story 30 = .ok (.tableswitch 73 0 2 #[26, 42, 56], 26) := by decide +kernel
theorem dX11_story_56 : decode cX11_story 56 = .ok (.aload_n 0, 1) := by decide +kernel
theorem dX11_story_57 : decode cX11_story 57 = .ok (.iload_n 3, 1) := by decide +kernel
theorem dX11_story_58 : decode cX11_story 58 = .ok (.iload 4, 2) := by decide +kernel
theorem dX11_story_60 : decode cX11_story 60 = .ok (.iload_n 1, 1) := by decide +kernel
theorem dX11_story_61 : decode cX11_story 61 = .ok (.invokevirtual 243, 3) := by decide +kernel
theorem dX11_story_64 : decode cX11_story 64 = .ok (.aload_n 0, 1) := by decide +kernel
theorem dX11_story_65 : decode cX11_story 65 = .ok (.getfield 53, 3) := by decide +kernel
theorem dX11_story_68 : decode cX11_story 68 = .ok (.getfield 210, 3) := by decide +kernel
theorem dX11_story_71 : decode cX11_story 71 = .ok (.ireturn, 1) := by decide +kernel
theorem dX11_story_72 : decode cX11_story 72 = .ok (.aload_n 0, 1) := by decide +kernel
theorem dX11_story_73 : decode cX11_story 73 = .ok (.iload_n 3, 1) := by decide +kernel
theorem dX11_story_74 : decode cX11_story 74 = .ok (.iload 4, 2) := by decide +kernel
theorem dX11_story_76 : decode cX11_story 76 = .ok (.iload_n 1, 1) := by decide +kernel
theorem dX11_story_77 : decode cX11_story 77 = .ok (.invokevirtual 243, 3) := by decide +kernel
theorem dX11_story_80 : decode cX11_story 80 = .ok (.aload_n 0, 1) := by decide +kernel
theorem dX11_story_81 : decode cX11_story 81 = .ok (.iload_n 2, 1) := by decide +kernel
theorem dX11_story_82 : decode cX11_story 82 = .ok (.invokevirtual 288, 3) := by decide +kernel
theorem dX11_story_85 : decode cX11_story 85 = .ok (.ireturn, 1) := by decide +kernel
theorem dX11_story_86 : decode cX11_story 86 = .ok (.aload_n 0, 1) := by decide +kernel
theorem dX11_story_87 : decode cX11_story 87 = .ok (.iload_n 2, 1) := by decide +kernel
theorem dX11_story_88 : decode cX11_story 88 = .ok (.iload_n 3, 1) := by decide +kernel
theorem dX11_story_89 : decode cX11_story 89 = .ok (.iload 4, 2) := by decide +kernel
theorem dX11_story_91 : decode cX11_story 91 = .ok (.iload_n 1, 1) := by decide +kernel
theorem dX11_story_92 : decode cX11_story 92 = .ok (.invokevirtual 260, 3) := by decide +kernel
theorem dX11_story_95 : decode cX11_story 95 = .ok (.aload_n 0, 1) := by decide +kernel
theorem dX11_story_96 : decode cX11_story 96 = .ok (.getfield 67, 3) := by decide +kernel
theorem dX11_story_99 : decode cX11_story 99 = .ok (.invokevirtual 264, 3) := by decide +kernel
theorem dX11_story_102 : decode cX11_story 102 = .ok (.ireturn, 1) := by decide +kernel
theorem dX11_story_103 : decode cX11_story 103 = .ok (.iconst (-1), 1) := by decide +kernel
theorem dX11_story_104 : decode cX11_story 104 = .ok (.ireturn, 1) := by decide +kernel
set_option maxRecDepth 20000 in
theorem ggX11_otherwise_X11_isAsked : GoodIn wsX11_otherwise wsX11_isAsked := goodIn_r _ [10, 11, 12, 13, 14, 9, 15, 16, 17, 18, 19, 20, 21, 167, 168, 169, 170, 171, 172, 173, 174, 175, 176, 177, 178, 179, 180, 181, 182, 194, 195, 196, 197, 198, 199, 200, 201, 202, 203, 204, 205, 206, 207, 208, 209, 210, 211, 212, 213, 214, 215, 216] (by decide +kernel) (by decide +kernel)
set_option maxRecDepth 20000 in
theorem gX11_otherwise_X11_isAsked : GoodIn wsX11_otherwise (wsV RX11 239 RX11 yX11_isAsked wsX11_isAsked) := goodIn_app (goodIn_of _ (by decide +kernel)) ggX11_otherwise_X11_isAsked
set_option maxRecDepth 20000 in
theorem ggX11_otherwise_X11_isKnown : GoodIn wsX11_otherwise wsX11_isKnown := goodIn_r _ [19, 20, 21, 167, 168, 169, 170, 171, 172, 173, 174, 175, 176, 177, 178, 179, 180, 181, 182, 210, 211, 212, 213, 214, 215, 216] (by decide +kernel) (by decide +kernel)
