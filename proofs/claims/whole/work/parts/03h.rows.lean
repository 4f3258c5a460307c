set_option maxRecDepth 20000 in
theorem gX12_tellSky_X12_isSign : GoodIn wsX12_tellSky (wsV RX12 343 RX12 yX12_isSign wsX12_isSign) := goodIn_app (goodIn_of _ (by decide +kernel)) ggX12_tellSky_X12_isSign
set_option maxRecDepth 20000 in
theorem ggX12_tellSky_X12_expr : GoodIn wsX12_tellSky wsX12_expr := goodIn_r _ [56, 7, 5, 57, 33, 15, 44, 49, 50, 51, 11, 52, 8, 9, 10, 12, 13, 14, 16, 17, 18, 19, 20, 58, 59, 60, 61, 62, 63, 64, 65, 66, 67, 68, 69, 70, 71, 72, 73, 74, 75, 76, 77, 78, 79, 80, 81, 82, 83, 84, 85, 86, 87, 88, 89, 90, 91, 92, 93, 94, 95, 96, 97, 98, 99, 100, 101, 102, 103, 104, 105, 106, 107, 108, 109, 110, 111, 112, 113, 114, 115, 116, 117, 118, 119, 120, 121, 122, 123, 124, 125, 126, 127, 128, 129, 130, 131, 132, 133, 134, 135, 136, 137, 138, 139, 140, 141, 142, 143, 144, 145, 146, 147, 148, 149, 150, 151, 152, 153, 154, 155, 156, 157, 158, 159] (by decide +kernel) (by decide +kernel)
set_option maxRecDepth 20000 in
theorem gX12_tellSky_X12_expr : GoodIn wsX12_tellSky (wsV RX12 361 RX12 yX12_expr wsX12_expr) := goodIn_app (goodIn_of _ (by decide +kernel)) ggX12_tellSky_X12_expr
theorem dX12_tellSky_0 : decode cX12_tellSky 0 = .ok (.aload_n 0, 1) := by decide +kernel
theorem dX12_tellSky_1 : decode cX12_tellSky 1 = .ok (.getfield 76, 3) := by decide +kernel
theorem dX12_tellSky_4 : decode cX12_tellSky 4 = .ok (.iconst 1, 1) := by decide +kernel
theorem dX12_tellSky_5 : decode cX12_tellSky 5 = .ok (.iaload, 1) := by decide +kernel
theorem dX12_tellSky_6 : decode cX12_tellSky 6 = .ok (.iconst 5, 1) := by decide +kernel
theorem dX12_tellSky_7 : decode cX12_tellSky 7 = .ok (.if_icmp .ne 9, 3) := by decide +kernel
theorem dX12_tellSky_10 : decode cX12_tellSky 10 = .ok (.aload_n 0, 1) := by decide +kernel
theorem dX12_tellSky_11 : decode cX12_tellSky 11 = .ok (.iconst 2, 1) := by decide +kernel
theorem dX12_tellSky_12 : decode cX12_tellSky 12 = .ok (.invokevirtual 314, 3) := by decide +kernel
theorem dX12_tellSky_15 : decode cX12_tellSky 15 = .ok (.ireturn, 1) := by decide +kernel
theorem dX12_tellSky_16 : decode cX12_tellSky 16 = .ok (.iconst 5, 1) := by decide +kernel
theorem dX12_tellSky_17 : decode cX12_tellSky 17 = .ok (.aload_n 0, 1) := by decide +kernel
theorem dX12_tellSky_18 : decode cX12_tellSky 18 = .ok (.getfield 76, 3) := by decide +kernel
theorem dX12_tellSky_21 : decode cX12_tellSky 21 = .ok (.iconst 1, 1) := by decide +kernel
theorem dX12_tellSky_22 : decode cX12_tellSky 22 = .ok (.iaload, 1) := by decide +kernel
theorem dX12_tellSky_23 : decode cX12_tellSky 23 = .ok (.iadd, 1) := by decide +kernel
theorem dX12_tellSky_24 : decode cX12_tellSky 24 = .ok (.istore_n 1, 1) := by decide +kernel
theorem dX12_tellSky_25 : decode cX12_tellSky 25 = .ok (.aload_n 0, 1) := by decide +kernel
theorem dX12_tellSky_26 : decode cX12_tellSky 26 = .ok (.invokevirtual 317, 3) := by decide +kernel
theorem dX12_tellSky_29 : decode cX12_tellSky 29 = .ok (.ifCond .eq 11, 3) := by decide +kernel
theorem dX12_tellSky_32 : decode cX12_tellSky 32 = .ok (.aload_n 0, 1) := by decide +kernel
theorem dX12_tellSky_33 : decode cX12_tellSky 33 = .ok (.iconst (-1), 1) := by decide +kernel
theorem dX12_tellSky_34 : decode cX12_tellSky 34 = .ok (.invokevirtual 367, 3) := by decide +kernel
theorem dX12_tellSky_37 : decode cX12_tellSky 37 = .ok (.ifCond .ne 5, 3) := by decide +kernel
theorem dX12_tellSky_40 : decode cX12_tellSky 40 = .ok (.iconst 0, 1) := by decide +kernel
theorem dX12_tellSky_41 : decode cX12_tellSky 41 = .ok (.ireturn, 1) := by decide +kernel
theorem dX12_tellSky_42 : decode cX12_tellSky 42 = .ok (.aload_n 0, 1) := by decide +kernel
theorem dX12_tellSky_43 : decode cX12_tellSky 43 = .ok (.getfield 79, 3) := by decide +kernel
theorem dX12_tellSky_46 : decode cX12_tellSky 46 = .ok (.iload_n 1, 1) := by decide +kernel
theorem dX12_tellSky_47 : decode cX12_tellSky 47 = .ok (.iconst 0, 1) := by decide +kernel
theorem dX12_tellSky_48 : decode cX12_tellSky 48 = .ok (.iastore, 1) := by decide +kernel
theorem dX12_tellSky_49 : decode cX12_tellSky 49 = .ok (.aload_n 0, 1) := by decide +kernel
theorem dX12_tellSky_50 : decode cX12_tellSky 50 = .ok (.iconst 5, 1) := by decide +kernel
theorem dX12_tellSky_51 : decode cX12_tellSky 51 = .ok (.invokevirtual 358, 3) := by decide +kernel
theorem dX12_tellSky_54 : decode cX12_tellSky 54 = .ok (.ifCond .eq 32, 3) := by decide +kernel
theorem dX12_tellSky_57 : decode cX12_tellSky 57 = .ok (.aload_n 0, 1) := by decide +kernel
theorem dX12_tellSky_58 : decode cX12_tellSky 58 = .ok (.invokevirtual 317, 3) := by decide +kernel
theorem dX12_tellSky_61 : decode cX12_tellSky 61 = .ok (.ifCond .eq 13, 3) := by decide +kernel
theorem dX12_tellSky_64 : decode cX12_tellSky 64 = .ok (.aload_n 0, 1) := by decide +kernel
theorem dX12_tellSky_65 : decode cX12_tellSky 65 = .ok (.iconst 0, 1) := by decide +kernel
theorem dX12_tellSky_66 : decode cX12_tellSky 66 = .ok (.bipush 20, 2) := by decide +kernel
theorem dX12_tellSky_68 : decode cX12_tellSky 68 = .ok (.invokevirtual 369, 3) := by decide +kernel
theorem dX12_tellSky_71 : decode cX12_tellSky 71 = .ok (.ifCond .ne 5, 3) := by decide +kernel
theorem dX12_tellSky_74 : decode cX12_tellSky 74 = .ok (.iconst 0, 1) := by decide +kernel
theorem dX12_tellSky_75 : decode cX12_tellSky 75 = .ok (.ireturn, 1) := by decide +kernel
theorem dX12_tellSky_76 : decode cX12_tellSky 76 = .ok (.aload_n 0, 1) := by decide +kernel
theorem dX12_tellSky_77 : decode cX12_tellSky 77 = .ok (.getfield 79, 3) := by decide +kernel
theorem dX12_tellSky_80 : decode cX12_tellSky 80 = .ok (.iload_n 1, 1) := by decide +kernel
theorem dX12_tellSky_81 : decode cX12_tellSky 81 = .ok (.aload_n 0, 1) := by decide +kernel
theorem dX12_tellSky_82 : decode cX12_tellSky 82 = .ok (.getfield 324, 3) := by decide +kernel
theorem dX12_tellSky_85 : decode cX12_tellSky 85 = .ok (.iastore, 1) := by decide +kernel
theorem dX12_tellSky_86 : decode cX12_tellSky 86 = .ok (.aload_n 0, 1) := by decide +kernel
theorem dX12_tellSky_87 : decode cX12_tellSky 87 = .ok (.bipush 61, 2) := by decide +kernel
theorem dX12_tellSky_89 : decode cX12_tellSky 89 = .ok (.invokevirtual 343, 3) := by decide +kernel
theorem dX12_tellSky_92 : decode cX12_tellSky 92 = .ok (.ifCond .ne 9, 3) := by decide +kernel
theorem dX12_tellSky_95 : decode cX12_tellSky 95 = .ok (.aload_n 0, 1) := by decide +kernel
theorem dX12_tellSky_96 : decode cX12_tellSky 96 = .ok (.iconst 1, 1) := by decide +kernel
theorem dX12_tellSky_97 : decode cX12_tellSky 97 = .ok (.invokevirtual 314, 3) := by decide +kernel
theorem dX12_tellSky_100 : decode cX12_tellSky 100 = .ok (.ireturn, 1) := by decide +kernel
theorem dX12_tellSky_101 : decode cX12_tellSky 101 = .ok (.aload_n 0, 1) := by decide +kernel
theorem dX12_tellSky_102 : decode cX12_tellSky 102 = .ok (.invokevirtual 317, 3) := by decide +kernel
theorem dX12_tellSky_105 : decode cX12_tellSky 105 = .ok (.ifCond .eq 10, 3) := by decide +kernel
theorem dX12_tellSky_108 : decode cX12_tellSky 108 = .ok (.aload_n 0, 1) := by decide +kernel
theorem dX12_tellSky_109 : decode cX12_tellSky 109 = .ok (.invokevirtual 361, 3) := by decide +kernel
theorem dX12_tellSky_112 : decode cX12_tellSky 112 = .ok (.ifCond .ne 5, 3) := by decide +kernel
theorem dX12_tellSky_115 : decode cX12_tellSky 115 = .ok (.iconst 0, 1) := by decide +kernel
theorem dX12_tellSky_116 : decode cX12_tellSky 116 = .ok (.ireturn, 1) := by decide +kernel
theorem dX12_tellSky_117 : decode cX12_tellSky 117 = .ok (.aload_n 0, 1) := by decide +kernel
theorem dX12_tellSky_118 : decode cX12_tellSky 118 = .ok (.getfield 82, 3) := by decide +kernel
theorem dX12_tellSky_121 : decode cX12_tellSky 121 = .ok (.iload_n 1, 1) := by decide +kernel
theorem dX12_tellSky_122 : decode cX12_tellSky 122 = .ok (.aload_n 0, 1) := by decide +kernel
theorem dX12_tellSky_123 : decode cX12_tellSky 123 = .ok (.getfield 340, 3) := by decide +kernel
theorem dX12_tellSky_126 : decode cX12_tellSky 126 = .ok (.iastore, 1) := by decide +kernel
theorem dX12_tellSky_127 : decode cX12_tellSky 127 = .ok (.aload_n 0, 1) := by decide +kernel
theorem dX12_tellSky_128 : decode cX12_tellSky 128 = .ok (.getfield 85, 3) := by decide +kernel
theorem dX12_tellSky_131 : decode cX12_tellSky 131 = .ok (.iload_n 1, 1) := by decide +kernel
theorem dX12_tellSky_132 : decode cX12_tellSky 132 = .ok (.aload_n 0, 1) := by decide +kernel
theorem dX12_tellSky_133 : decode cX12_tellSky 133 = .ok (.getfield 97, 3) := by decide +kernel
theorem dX12_tellSky_136 : decode cX12_tellSky 136 = .ok (.iconst 1, 1) := by decide +kernel
theorem dX12_tellSky_137 : decode cX12_tellSky 137 = .ok (.iaload, 1) := by decide +kernel
theorem dX12_tellSky_138 : decode cX12_tellSky 138 = .ok (.iastore, 1) := by decide +kernel
theorem dX12_tellSky_139 : decode cX12_tellSky 139 = .ok (.aload_n 0, 1) := by decide +kernel
theorem dX12_tellSky_140 : decode cX12_tellSky 140 = .ok (.getfield 76, 3) := by decide +kernel
theorem dX12_tellSky_143 : decode cX12_tellSky 143 = .ok (.iconst 1, 1) := by decide +kernel
theorem dX12_tellSky_144 : decode cX12_tellSky 144 = .ok (.dup2, 1) := by decide +kernel
theorem dX12_tellSky_145 : decode cX12_tellSky 145 = .ok (.iaload, 1) := by decide +kernel
theorem dX12_tellSky_146 : decode cX12_tellSky 146 = .ok (.iconst 1, 1) := by decide +kernel
theorem dX12_tellSky_147 : decode cX12_tellSky 147 = .ok (.iadd, 1) := by decide +kernel
theorem dX12_tellSky_148 : decode cX12_tellSky 148 = .ok (.iastore, 1) := by decide +kernel
theorem dX12_tellSky_149 : decode cX12_tellSky 149 = .ok (.iconst 1, 1) := by decide +kernel
theorem dX12_tellSky_150 : decode cX12_tellSky 150 = .ok (.ireturn, 1) := by decide +kernel
set_option maxRecDepth 20000 in
theorem ggX12_tellRule_X12_wrong : GoodIn wsX12_tellRule wsX12_wrong := goodIn_r _ [10, 11, 12, 13, 14, 67, 68, 69, 70, 71, 72, 73, 74, 75, 76, 77, 78, 79, 80, 81, 82, 83, 84, 85, 86, 87, 88, 89, 90, 91, 92, 93, 94, 95, 96, 97, 98, 99, 100, 101, 102, 103, 104, 105, 106, 107, 108, 109, 110, 111, 112, 113, 114, 115, 116, 117, 118, 119, 120, 121, 122, 123, 124, 125, 126, 127, 128, 129, 130, 131, 132, 133, 134, 135, 136, 137, 138, 139, 140, 141, 142, 143, 144, 145, 146, 147] (by decide +kernel) (by decide +kernel)
set_option maxRecDepth 20000 in
theorem gX12_tellRule_X12_wrong : GoodIn wsX12_tellRule (wsV RX12 314 RX12 yX12_wrong wsX12_wrong) := goodIn_app (goodIn_of _ (by decide +kernel)) ggX12_tellRule_X12_wrong
set_option maxRecDepth 20000 in
theorem ggX12_tellRule_X12_pass : GoodIn wsX12_tellRule wsX12_pass := goodIn_r _ [18, 13, 6, 7, 8, 9, 10, 11, 12, 14, 67, 68, 69, 70, 71, 72, 73, 74, 75, 76, 77, 78, 79, 80, 81, 82, 83, 84, 85, 86, 87, 88, 89, 90, 91, 92, 93, 94, 95, 96, 97, 98, 99, 100, 101, 102, 103, 104, 105, 106, 107, 108, 109, 110, 111, 112, 113, 114, 115, 116, 117, 118, 119, 120, 121, 122, 123, 124, 125, 126, 127, 128, 129, 130, 131, 132, 133, 134, 135, 136, 137, 138, 139, 140, 141, 142, 143, 144, 145, 146, 147] (by decide +kernel) (by decide +kernel)
set_option maxRecDepth 20000 in
theorem gX12_tellRule_X12_pass : GoodIn wsX12_tellRule (wsV RX12 317 RX12 yX12_pass wsX12_pass) := goodIn_app (goodIn_of _ (by decide +kernel)) ggX12_tellRule_X12_pass
set_option maxRecDepth 20000 in
theorem ggX12_tellRule_X12_isWord : GoodIn wsX12_tellRule wsX12_isWord := goodIn_r _ [22, 23, 13, 24, 67, 68, 69, 70, 71, 72, 73, 74, 75, 76, 77, 78, 79, 80, 81, 82, 83, 84, 85, 86, 87, 88, 89, 90, 91, 92, 93, 94, 95, 96, 97, 98, 99, 100, 101, 102, 103, 104, 105, 106, 107, 108, 109, 110, 111, 112, 113, 114, 115, 116, 117, 118, 119, 120, 121, 122, 123, 124, 125, 126, 127, 128, 129, 130, 131, 132, 133, 134, 135, 136, 137, 138, 139, 140, 141, 142, 143, 144, 145, 146, 147] (by decide +kernel) (by decide +kernel)
set_option maxRecDepth 20000 in
theorem gX12_tellRule_X12_isWord : GoodIn wsX12_tellRule (wsV RX12 358 RX12 yX12_isWord wsX12_isWord) := goodIn_app (goodIn_of _ (by decide +kernel)) ggX12_tellRule_X12_isWord
set_option maxRecDepth 20000 in
theorem ggX12_tellRule_X12_cond : GoodIn wsX12_tellRule wsX12_cond := goodIn_r _ [28, 5, 3, 29, 30, 31, 32, 33, 24, 13, 34, 35, 36, 19, 20, 21, 9, 22, 23, 15, 16, 17, 18, 6, 7, 8, 10, 11, 12, 14, 37, 38, 39, 40, 41, 42, 43, 44, 45, 46, 47, 48, 49, 50, 51, 52, 53, 54, 55, 56, 57, 58, 59, 60, 61, 62, 63, 64, 65, 66, 67, 68, 69, 70, 71, 72, 73, 74, 75, 76, 77, 78, 79, 80, 81, 82, 83, 84, 85, 86, 87, 88, 89, 90, 91, 92, 93, 94, 95, 96, 97, 98, 99, 100, 101, 102, 103, 104, 105, 106, 107, 108, 109, 110, 111, 112, 113, 114, 115, 116, 117, 118, 119, 120, 121, 122, 123, 124, 125, 126, 127, 128, 129, 130, 131, 132, 133, 134, 135, 136, 137, 138, 139, 140, 141, 142, 143, 144, 145, 146, 147] (by decide +kernel) (by decide +kernel)
set_option maxRecDepth 20000 in
theorem gX12_tellRule_X12_cond : GoodIn wsX12_tellRule (wsV RX12 376 RX12 yX12_cond wsX12_cond) := goodIn_app (goodIn_of _ (by decide +kernel)) ggX12_tellRule_X12_cond
theorem dX12_tellRule_0 : decode cX12_tellRule 0 = .ok (.aload_n 0, 1) := by decide +kernel
theorem dX12_tellRule_1 : decode cX12_tellRule 1 = .ok (.getfield 88, 3) := by decide +kernel
theorem dX12_tellRule_4 : decode cX12_tellRule 4 = .ok (.iconst 1, 1) := by decide +kernel
theorem dX12_tellRule_5 : decode cX12_tellRule 5 = .ok (.iaload, 1) := by decide +kernel
theorem dX12_tellRule_6 : decode cX12_tellRule 6 = .ok (.bipush 6, 2) := by decide +kernel
theorem dX12_tellRule_8 : decode cX12_tellRule 8 = .ok (.if_icmp .ne 9, 3) := by decide +kernel
theorem dX12_tellRule_11 : decode cX12_tellRule 11 = .ok (.aload_n 0, 1) := by decide +kernel
theorem dX12_tellRule_12 : decode cX12_tellRule 12 = .ok (.iconst 2, 1) := by decide +kernel
theorem dX12_tellRule_13 : decode cX12_tellRule 13 = .ok (.invokevirtual 314, 3) := by decide +kernel
theorem dX12_tellRule_16 : decode cX12_tellRule 16 = .ok (.ireturn, 1) := by decide +kernel
theorem dX12_tellRule_17 : decode cX12_tellRule 17 = .ok (.aload_n 0, 1) := by decide +kernel
theorem dX12_tellRule_18 : decode cX12_tellRule 18 = .ok (.invokevirtual 317, 3) := by decide +kernel
theorem dX12_tellRule_21 : decode cX12_tellRule 21 = .ok (.ifCond .ne 5, 3) := by decide +kernel
theorem dX12_tellRule_24 : decode cX12_tellRule 24 = .ok (.iconst 0, 1) := by decide +kernel
theorem dX12_tellRule_25 : decode cX12_tellRule 25 = .ok (.ireturn, 1) := by decide +kernel
theorem dX12_tellRule_26 : decode cX12_tellRule 26 = .ok (.aload_n 0, 1) := by decide +kernel
theorem dX12_tellRule_27 : decode cX12_tellRule 27 = .ok (.bipush 8, 2) := by decide +kernel
theorem dX12_tellRule_29 : decode cX12_tellRule 29 = .ok (.invokevirtual 358, 3) := by decide +kernel
theorem dX12_tellRule_32 : decode cX12_tellRule 32 = .ok (.ifCond .ne 9, 3) := by decide +kernel
theorem dX12_tellRule_35 : decode cX12_tellRule 35 = .ok (.aload_n 0, 1) := by decide +kernel
theorem dX12_tellRule_36 : decode cX12_tellRule 36 = .ok (.iconst 1, 1) := by decide +kernel
theorem dX12_tellRule_37 : decode cX12_tellRule 37 = .ok (.invokevirtual 314, 3) := by decide +kernel
theorem dX12_tellRule_40 : decode cX12_tellRule 40 = .ok (.ireturn, 1) := by decide +kernel
theorem dX12_tellRule_41 : decode cX12_tellRule 41 = .ok (.aload_n 0, 1) := by decide +kernel
theorem dX12_tellRule_42 : decode cX12_tellRule 42 = .ok (.invokevirtual 317, 3) := by decide +kernel
theorem dX12_tellRule_45 : decode cX12_tellRule 45 = .ok (.ifCond .eq 10, 3) := by decide +kernel
theorem dX12_tellRule_48 : decode cX12_tellRule 48 = .ok (.aload_n 0, 1) := by decide +kernel
theorem dX12_tellRule_49 : decode cX12_tellRule 49 = .ok (.invokevirtual 376, 3) := by decide +kernel
theorem dX12_tellRule_52 : decode cX12_tellRule 52 = .ok (.ifCond .ne 5, 3) := by decide +kernel
theorem dX12_tellRule_55 : decode cX12_tellRule 55 = .ok (.iconst 0, 1) := by decide +kernel
theorem dX12_tellRule_56 : decode cX12_tellRule 56 = .ok (.ireturn, 1) := by decide +kernel
theorem dX12_tellRule_57 : decode cX12_tellRule 57 = .ok (.aload_n 0, 1) := by decide +kernel
theorem dX12_tellRule_58 : decode cX12_tellRule 58 = .ok (.getfield 91, 3) := by decide +kernel
theorem dX12_tellRule_61 : decode cX12_tellRule 61 = .ok (.bipush 6, 2) := by decide +kernel
theorem dX12_tellRule_63 : decode cX12_tellRule 63 = .ok (.aload_n 0, 1) := by decide +kernel
theorem dX12_tellRule_64 : decode cX12_tellRule 64 = .ok (.getfield 88, 3) := by decide +kernel
theorem dX12_tellRule_67 : decode cX12_tellRule 67 = .ok (.iconst 1, 1) := by decide +kernel
theorem dX12_tellRule_68 : decode cX12_tellRule 68 = .ok (.iaload, 1) := by decide +kernel
theorem dX12_tellRule_69 : decode cX12_tellRule 69 = .ok (.iadd, 1) := by decide +kernel
theorem dX12_tellRule_70 : decode cX12_tellRule 70 = .ok (.aload_n 0, 1) := by decide +kernel
theorem dX12_tellRule_71 : decode cX12_tellRule 71 = .ok (.getfield 355, 3) := by decide +kernel
theorem dX12_tellRule_74 : decode cX12_tellRule 74 = .ok (.iastore, 1) := by decide +kernel
theorem dX12_tellRule_75 : decode cX12_tellRule 75 = .ok (.aload_n 0, 1) := by decide +kernel
theorem dX12_tellRule_76 : decode cX12_tellRule 76 = .ok (.getfield 94, 3) := by decide +kernel
theorem dX12_tellRule_79 : decode cX12_tellRule 79 = .ok (.bipush 6, 2) := by decide +kernel
theorem dX12_tellRule_81 : decode cX12_tellRule 81 = .ok (.aload_n 0, 1) := by decide +kernel
theorem dX12_tellRule_82 : decode cX12_tellRule 82 = .ok (.getfield 88, 3) := by decide +kernel
theorem dX12_tellRule_85 : decode cX12_tellRule 85 = .ok (.iconst 1, 1) := by decide +kernel
theorem dX12_tellRule_86 : decode cX12_tellRule 86 = .ok (.iaload, 1) := by decide +kernel
theorem dX12_tellRule_87 : decode cX12_tellRule 87 = .ok (.iadd, 1) := by decide +kernel
theorem dX12_tellRule_88 : decode cX12_tellRule 88 = .ok (.aload_n 0, 1) := by decide +kernel
theorem dX12_tellRule_89 : decode cX12_tellRule 89 = .ok (.getfield 106, 3) := by decide +kernel
theorem dX12_tellRule_92 : decode cX12_tellRule 92 = .ok (.iconst 1, 1) := by decide +kernel
theorem dX12_tellRule_93 : decode cX12_tellRule 93 = .ok (.iaload, 1) := by decide +kernel
theorem dX12_tellRule_94 : decode cX12_tellRule 94 = .ok (.iastore, 1) := by decide +kernel
theorem dX12_tellRule_95 : decode cX12_tellRule 95 = .ok (.aload_n 0, 1) := by decide +kernel
theorem dX12_tellRule_96 : decode cX12_tellRule 96 = .ok (.getfield 88, 3) := by decide +kernel
theorem dX12_tellRule_99 : decode cX12_tellRule 99 = .ok (.iconst 1, 1) := by decide +kernel
theorem dX12_tellRule_100 : decode cX12_tellRule 100 = .ok (.dup2, 1) := by decide +kernel
theorem dX12_tellRule_101 : decode cX12_tellRule 101 = .ok (.iaload, 1) := by decide +kernel
theorem dX12_tellRule_102 : decode cX12_tellRule 102 = .ok (.iconst 1, 1) := by decide +kernel
theorem dX12_tellRule_103 : decode cX12_tellRule 103 = .ok (.iadd, 1) := by decide +kernel
theorem dX12_tellRule_104 : decode cX12_tellRule 104 = .ok (.iastore, 1) := by decide +kernel
theorem dX12_tellRule_105 : decode cX12_tellRule 105 = .ok (.iconst 1, 1) := by decide +kernel
theorem dX12_tellRule_106 : decode cX12_tellRule 106 = .ok (.ireturn, 1) := by decide +kernel
set_option maxRecDepth 20000 in
theorem ggX12_tell_X12_tellThing : GoodIn wsX12_tell wsX12_tellThing := goodIn_r _ [10, 11, 12, 5, 2, 13, 14, 15, 16, 17, 18, 19, 9, 20, 21, 22, 23, 24, 25, 26, 27, 28, 29, 30, 31, 32, 33, 34, 35, 36, 37, 38, 39, 1, 40, 41, 42, 43, 44, 45, 46, 47, 48, 49, 3, 132, 133, 134, 135, 136, 137, 138, 139, 140, 141, 142, 143, 144, 145, 146, 147, 148, 149, 150, 151, 152, 153, 154, 155, 156, 157, 158, 159, 160, 161, 162, 163, 164, 165, 166, 167, 168, 169, 170, 171, 172, 173, 174, 175, 176, 177, 178, 179, 180, 181, 182, 183, 184, 185, 186, 187, 188, 189, 190, 191, 192, 193, 194, 195, 196, 197, 198, 199, 200, 201, 202, 203, 204, 205, 206, 207, 208, 209, 210, 211, 212] (by decide +kernel) (by decide +kernel)
set_option maxRecDepth 20000 in
theorem gX12_tell_X12_tellThing : GoodIn wsX12_tell (wsV RX12 379 RX12 yX12_tellThing wsX12_tellThing) := goodIn_app (goodIn_of _ (by decide +kernel)) ggX12_tell_X12_tellThing
set_option maxRecDepth 20000 in
theorem ggX12_tell_X12_tellDoor : GoodIn wsX12_tell wsX12_tellDoor := goodIn_r _ [53, 54, 2, 55, 56, 34, 17, 18, 19, 9, 20, 21, 22, 23, 24, 25, 26, 27, 36, 37, 38, 39, 1, 57, 58, 59, 60, 32, 33, 35, 40, 41, 42, 43, 44, 45, 132, 133, 134, 135, 136, 137, 138, 139, 140, 141, 142, 143, 144, 145, 146, 147, 148, 149, 150, 151, 152, 153, 154, 155, 156, 157, 158, 159, 160, 161, 162, 163, 164, 165, 166, 167, 168, 169, 170, 171, 172, 173, 174, 175, 176, 177, 178, 179, 180, 181, 182, 183, 184, 185, 186, 187, 188, 189, 190, 191, 192, 193, 194, 195, 196, 197, 198, 199, 200, 201, 202, 203, 204, 205, 206, 207, 208, 209, 210, 211, 212] (by decide +kernel) (by decide +kernel)
set_option maxRecDepth 20000 in
theorem gX12_tell_X12_tellDoor : GoodIn wsX12_tell (wsV RX12 383 RX12 yX12_tellDoor wsX12_tellDoor) := goodIn_app (goodIn_of _ (by decide +kernel)) ggX12_tell_X12_tellDoor
set_option maxRecDepth 20000 in
theorem ggX12_tell_X12_tellHill : GoodIn wsX12_tell wsX12_tellHill := goodIn_r _ [64, 65, 66, 5, 67, 68, 17, 18, 19, 9, 20, 21, 22, 2, 23, 24, 25, 26, 27, 46, 47, 48, 49, 3, 36, 37, 38, 39, 1, 40, 41, 42, 43, 44, 45, 132, 133, 134, 135, 136, 137, 138, 139, 140, 141, 142, 143, 144, 145, 146, 147, 148, 149, 150, 151, 152, 153, 154, 155, 156, 157, 158, 159, 160, 161, 162, 163, 164, 165, 166, 167, 168, 169, 170, 171, 172, 173, 174, 175, 176, 177, 178, 179, 180, 181, 182, 183, 184, 185, 186, 187, 188, 189, 190, 191, 192, 193, 194, 195, 196, 197, 198, 199, 200, 201, 202, 203, 204, 205, 206, 207, 208, 209, 210, 211, 212] (by decide +kernel) (by decide +kernel)
set_option maxRecDepth 20000 in
theorem gX12_tell_X12_tellHill : GoodIn wsX12_tell (wsV RX12 386 RX12 yX12_tellHill wsX12_tellHill) := goodIn_app (goodIn_of _ (by decide +kernel)) ggX12_tell_X12_tellHill
set_option maxRecDepth 20000 in
theorem ggX12_tell_X12_tellSky : GoodIn wsX12_tell wsX12_tellSky := goodIn_r _ [72, 73, 74, 5, 75, 76, 77, 78, 17, 18, 19, 9, 20, 21, 22, 2, 23, 24, 25, 26, 27, 28, 29, 30, 31, 32, 33, 34, 35, 36, 37, 38, 39, 1, 40, 41, 42, 43, 44, 45, 79, 80, 81, 82, 3, 46, 47, 48, 49, 83, 84, 85, 86, 87, 88, 89, 90, 91, 92, 93, 94, 95, 96, 97, 98, 99, 100, 101, 102, 103, 104, 105, 106, 107, 108, 109, 110, 111, 112, 132, 133, 134, 135, 136, 137, 138, 139, 140, 141, 142, 143, 144, 145, 146, 147, 148, 149, 150, 151, 152, 153, 154, 155, 156, 157, 158, 159, 160, 161, 162, 163, 164, 165, 166, 167, 168, 169, 170, 171, 172, 173, 174, 175, 176, 177, 178, 179, 180, 181, 182, 183, 184, 185, 186, 187, 188, 189, 190, 191, 192, 193, 194, 195, 196, 197, 198, 199, 200, 201, 202, 203, 204, 205, 206, 207, 208, 209, 210, 211, 212] (by decide +kernel) (by decide +kernel)
set_option maxRecDepth 20000 in
theorem gX12_tell_X12_tellSky : GoodIn wsX12_tell (wsV RX12 389 RX12 yX12_tellSky wsX12_tellSky) := goodIn_app (goodIn_of _ (by decide +kernel)) ggX12_tell_X12_tellSky
set_option maxRecDepth 20000 in
theorem ggX12_tell_X12_tellRule : GoodIn wsX12_tell wsX12_tellRule := goodIn_r _ [116, 117, 118, 119, 120, 121, 17, 18, 19, 9, 20, 21, 22, 2, 23, 24, 25, 26, 27, 79, 80, 81, 82, 1, 3, 122, 123, 124, 125, 126, 76, 127, 78, 128, 129, 130, 131, 87, 88, 89, 90, 91, 83, 84, 85, 86, 92, 93, 94, 95, 96, 97, 98, 99, 100, 101, 102, 103, 104, 105, 106, 107, 108, 109, 110, 111, 112, 132, 133, 134, 135, 136, 137, 138, 139, 140, 141, 142, 143, 144, 145, 146, 147, 148, 149, 150, 151, 152, 153, 154, 155, 156, 157, 158, 159, 160, 161, 162, 163, 164, 165, 166, 167, 168, 169, 170, 171, 172, 173, 174, 175, 176, 177, 178, 179, 180, 181, 182, 183, 184, 185, 186, 187, 188, 189, 190, 191, 192, 193, 194, 195, 196, 197, 198, 199, 200, 201, 202, 203, 204, 205, 206, 207, 208, 209, 210, 211, 212] (by decide +kernel) (by decide +kernel)
set_option maxRecDepth 20000 in
theorem gX12_tell_X12_tellRule : GoodIn wsX12_tell (wsV RX12 392 RX12 yX12_tellRule wsX12_tellRule) := goodIn_app (goodIn_of _ (by decide +kernel)) ggX12_tell_X12_tellRule
set_option maxRecDepth 20000 in
theorem ggX12_tell_X12_wrong : GoodIn wsX12_tell wsX12_wrong := goodIn_r _ [20, 21, 22, 2, 23, 132, 133, 134, 135, 136, 137, 138, 139, 140, 141, 142, 143, 144, 145, 146, 147, 148, 149, 150, 151, 152, 153, 154, 155, 156, 157, 158, 159, 160, 161, 162, 163, 164, 165, 166, 167, 168, 169, 170, 171, 172, 173, 174, 175, 176, 177, 178, 179, 180, 181, 182, 183, 184, 185, 186, 187, 188, 189, 190, 191, 192, 193, 194, 195, 196, 197, 198, 199, 200, 201, 202, 203, 204, 205, 206, 207, 208, 209, 210, 211, 212] (by decide +kernel) (by decide +kernel)
set_option maxRecDepth 20000 in
theorem gX12_tell_X12_wrong : GoodIn wsX12_tell (wsV RX12 314 RX12 yX12_wrong wsX12_wrong) := goodIn_app (goodIn_of _ (by decide +kernel)) ggX12_tell_X12_wrong
set_option maxRecDepth 20000 in
theorem ggX12_tell_X12_pass : GoodIn wsX12_tell wsX12_pass := goodIn_r _ [27, 2, 17, 18, 19, 9, 20, 21, 22, 23, 132, 133, 134, 135, 136, 137, 138, 139, 140, 141, 142, 143, 144, 145, 146, 147, 148, 149, 150, 151, 152, 153, 154, 155, 156, 157, 158, 159, 160, 161, 162, 163, 164, 165, 166, 167, 168, 169, 170, 171, 172, 173, 174, 175, 176, 177, 178, 179, 180, 181, 182, 183, 184, 185, 186, 187, 188, 189, 190, 191, 192, 193, 194, 195, 196, 197, 198, 199, 200, 201, 202, 203, 204, 205, 206, 207, 208, 209, 210, 211, 212] (by decide +kernel) (by decide +kernel)
set_option maxRecDepth 20000 in
theorem gX12_tell_X12_pass : GoodIn wsX12_tell (wsV RX12 317 RX12 yX12_pass wsX12_pass) := goodIn_app (goodIn_of _ (by decide +kernel)) ggX12_tell_X12_pass
set_option maxRecDepth 20000 in
theorem ggX12_tell_X12_takesInt : GoodIn wsX12_tell wsX12_takesInt := goodIn_r _ [49, 2, 3, 5, 36, 37, 38, 9, 39, 1, 24, 25, 26, 27, 17, 18, 19, 20, 21, 22, 23, 40, 41, 42, 43, 44, 45, 132, 133, 134, 135, 136, 137, 138, 139, 140, 141, 142, 143, 144, 145, 146, 147, 148, 149, 150, 151, 152, 153, 154, 155, 156, 157, 158, 159, 160, 161, 162, 163, 164, 165, 166, 167, 168, 169, 170, 171, 172, 173, 174, 175, 176, 177, 178, 179, 180, 181, 182, 183, 184, 185, 186, 187, 188, 189, 190, 191, 192, 193, 194, 195, 196, 197, 198, 199, 200, 201, 202, 203, 204, 205, 206, 207, 208, 209, 210, 211, 212] (by decide +kernel) (by decide +kernel)
set_option maxRecDepth 20000 in
theorem gX12_tell_X12_takesInt : GoodIn wsX12_tell (wsV RX12 369 RX12 yX12_takesInt wsX12_takesInt) := goodIn_app (goodIn_of _ (by decide +kernel)) ggX12_tell_X12_takesInt
theorem dX12_tell_0 : decode cX12_tell 0 = .ok (.aload_n 0, 1) := by decide +kernel
theorem dX12_tell_1 : decode cX12_tell 1 = .ok (.getfield 13, 3) := by decide +kernel
theorem dX12_tell_4 : decode cX12_tell 4 = .ok (.aload_n 0, 1) := by decide +kernel
theorem dX12_tell_5 : decode cX12_tell 5 = .ok (.getfield 305, 3) := by decide +kernel
theorem dX12_tell_8 : decode cX12_tell 8 = .ok (.iaload, 1) := by decide +kernel
theorem dX12_tell_9 : decode cX12_tell 9 = .ok (.iconst 3, 1) := by decide +kernel
theorem dX12_tell_10 : decode cX12_tell 10 = .ok (.if_icmp .ne 15, 3) := by decide +kernel
theorem dX12_tell_13 : decode cX12_tell 13 = .ok (.aload_n 0, 1) := by decide +kernel
theorem dX12_tell_14 : decode cX12_tell 14 = .ok (.getfield 19, 3) := by decide +kernel
theorem dX12_tell_17 : decode cX12_tell 17 = .ok (.aload_n 0, 1) := by decide +kernel
theorem dX12_tell_18 : decode cX12_tell 18 = .ok (.getfield 305, 3) := by decide +kernel
theorem dX12_tell_21 : decode cX12_tell 21 = .ok (.iaload, 1) := by decide +kernel
theorem dX12_tell_22 : decode cX12_tell 22 = .ok (.goto 4, 3) := by decide +kernel
theorem dX12_tell_25 : decode cX12_tell 25 = .ok (.iconst (-1), 1) := by decide +kernel
theorem dX12_tell_26 : decode cX12_tell 26 = .ok (.istore_n 1, 1) := by decide +kernel
theorem dX12_tell_27 : decode cX12_tell 27 = .ok (.iload_n 1, 1) := by decide +kernel
theorem dX12_tell_28 : decode cX12_tell 28 = .ok (.ifCond .eq 8, 3) := by decide +kernel
theorem dX12_tell_31 : decode cX12_tell 31 = .ok (.iload_n 1, 1) := by decide +kernel
theorem dX12_tell_32 : decode cX12_tell 32 = .ok (.iconst 1, 1) := by decide +kernel
theorem dX12_tell_33 : decode cX12_tell 33 = .ok (.if_icmp .ne 17, 3) := by decide +kernel
theorem dX12_tell_36 : decode cX12_tell 36 = .ok (.aload_n 0, 1) := by decide +kernel
theorem dX12_tell_37 : decode cX12_tell 37 = .ok (.iload_n 1, 1) := by decide +kernel
theorem dX12_tell_38 : decode cX12_tell 38 = .ok (.ifCond .ne 7, 3) := by decide +kernel
theorem dX12_tell_41 : decode cX12_tell 41 = .ok (.iconst 1, 1) := by decide +kernel
theorem dX12_tell_42 : decode cX12_tell 42 = .ok (.goto 4, 3) := by decide +kernel
theorem dX12_tell_45 : decode cX12_tell 45 = .ok (.iconst 0, 1) := by decide +kernel
theorem dX12_tell_46 : decode cX12_tell 46 = .ok (.invokevirtual 379, 3) := by decide +kernel
theorem dX12_tell_49 : decode cX12_tell 49 = .ok (.ireturn, 1) := by decide +kernel
theorem dX12_tell_50 : decode cX12_tell 50 = .ok (.iload_n 1, 1) := by decide +kernel
theorem dX12_tell_51 : decode cX12_tell 51 = .ok (.iconst 2, 1) := by decide +kernel
theorem dX12_tell_52 : decode cX12_tell 52 = .ok (.if_icmp .ne 8, 3) := by decide +kernel
theorem dX12_tell_55 : decode cX12_tell 55 = .ok (.aload_n 0, 1) := by decide +kernel
theorem dX12_tell_56 : decode cX12_tell 56 = .ok (.invokevirtual 383, 3) := by decide +kernel
theorem dX12_tell_59 : decode cX12_tell 59 = .ok (.ireturn, 1) := by decide +kernel
theorem dX12_tell_60 : decode cX12_tell 60 = .ok (.iload_n 1, 1) := by decide +kernel
theorem dX12_tell_61 : decode cX12_tell 61 = .ok (.iconst 3, 1) := by decide +kernel
theorem dX12_tell_62 : decode cX12_tell 62 = .ok (.if_icmp .ne 8, 3) := by decide +kernel
theorem dX12_tell_65 : decode cX12_tell 65 = .ok (.aload_n 0, 1) := by decide +kernel
theorem dX12_tell_66 : decode cX12_tell 66 = .ok (.invokevirtual 386, 3) := by decide +kernel
theorem dX12_tell_69 : decode cX12_tell 69 = .ok (.ireturn, 1) := by decide +kernel
theorem dX12_tell_70 : decode cX12_tell 70 = .ok (.iload_n 1, 1) := by decide +kernel
theorem dX12_tell_71 : decode cX12_tell 71 = .ok (.iconst 4, 1) := by decide +kernel
theorem dX12_tell_72 : decode cX12_tell 72 = .ok (.if_icmp .ne 8, 3) := by decide +kernel
theorem dX12_tell_75 : decode cX12_tell 75 = .ok (.aload_n 0, 1) := by decide +kernel
theorem dX12_tell_76 : decode cX12_tell 76 = .ok (.invokevirtual 389, 3) := by decide +kernel
theorem dX12_tell_79 : decode cX12_tell 79 = .ok (.ireturn, 1) := by decide +kernel
theorem dX12_tell_80 : decode cX12_tell 80 = .ok (.iload_n 1, 1) := by decide +kernel
theorem dX12_tell_81 : decode cX12_tell 81 = .ok (.bipush 7, 2) := by decide +kernel
theorem dX12_tell_83 : decode cX12_tell 83 = .ok (.if_icmp .ne 8, 3) := by decide +kernel
theorem dX12_tell_86 : decode cX12_tell 86 = .ok (.aload_n 0, 1) := by decide +kernel
theorem dX12_tell_87 : decode cX12_tell 87 = .ok (.invokevirtual 392, 3) := by decide +kernel
theorem dX12_tell_90 : decode cX12_tell 90 = .ok (.ireturn, 1) := by decide +kernel
theorem dX12_tell_91 : decode cX12_tell 91 = .ok (.iload_n 1, 1) := by decide +kernel
theorem dX12_tell_92 : decode cX12_tell 92 = .ok (.bipush 6, 2) := by decide +kernel
theorem dX12_tell_94 : decode cX12_tell 94 = .ok (.if_icmp .eq 9, 3) := by decide +kernel
theorem dX12_tell_97 : decode cX12_tell 97 = .ok (.aload_n 0, 1) := by decide +kernel
theorem dX12_tell_98 : decode cX12_tell 98 = .ok (.iconst 1, 1) := by decide +kernel
theorem dX12_tell_99 : decode cX12_tell 99 = .ok (.invokevirtual 314, 3) := by decide +kernel
theorem dX12_tell_102 : decode cX12_tell 102 = .ok (.ireturn, 1) := by decide +kernel
theorem dX12_tell_103 : decode cX12_tell 103 = .ok (.aload_n 0, 1) := by decide +kernel
theorem dX12_tell_104 : decode cX12_tell 104 = .ok (.invokevirtual 317, 3) := by decide +kernel
theorem dX12_tell_107 : decode cX12_tell 107 = .ok (.ifCond .eq 13, 3) := by decide +kernel
theorem dX12_tell_110 : decode cX12_tell 110 = .ok (.aload_n 0, 1) := by decide +kernel
theorem dX12_tell_111 : decode cX12_tell 111 = .ok (.iconst 0, 1) := by decide +kernel
theorem dX12_tell_112 : decode cX12_tell 112 = .ok (.bipush 20, 2) := by decide +kernel
theorem dX12_tell_114 : decode cX12_tell 114 = .ok (.invokevirtual 369, 3) := by decide +kernel
theorem dX12_tell_117 : decode cX12_tell 117 = .ok (.ifCond .ne 5, 3) := by decide +kernel
theorem dX12_tell_120 : decode cX12_tell 120 = .ok (.iconst 0, 1) := by decide +kernel
theorem dX12_tell_121 : decode cX12_tell 121 = .ok (.ireturn, 1) := by decide +kernel
theorem dX12_tell_122 : decode cX12_tell 122 = .ok (.aload_n 0, 1) := by decide +kernel
theorem dX12_tell_123 : decode cX12_tell 123 = .ok (.getfield 34, 3) := by decide +kernel
theorem dX12_tell_126 : decode cX12_tell 126 = .ok (.iconst 1, 1) := by decide +kernel
theorem dX12_tell_127 : decode cX12_tell 127 = .ok (.aload_n 0, 1) := by decide +kernel
theorem dX12_tell_128 : decode cX12_tell 128 = .ok (.getfield 324, 3) := by decide +kernel
theorem dX12_tell_131 : decode cX12_tell 131 = .ok (.iastore, 1) := by decide +kernel
theorem dX12_tell_132 : decode cX12_tell 132 = .ok (.iconst 1, 1) := by decide +kernel
theorem dX12_tell_133 : decode cX12_tell 133 = .ok (.ireturn, 1) := by decide +kernel
set_option maxRecDepth 20000 in
theorem ggX12_parses_X12_tell : GoodIn wsX12_parses wsX12_tell := goodIn_r _ [7, 2, 1, 8, 9, 10, 11, 12, 13, 6, 14, 15, 16, 17, 18, 19, 20, 21, 22, 23, 24, 25, 26, 27, 28, 29, 30, 31, 32, 33, 34, 35, 36, 37, 38, 39, 40, 41, 42, 43, 44, 45, 46, 47, 48, 49, 50, 51, 52, 53, 54, 55, 56, 57, 58, 59, 60, 61, 62, 63, 64, 65, 66, 67, 68, 69, 70, 71, 72, 73, 74, 75, 76, 77, 78, 79, 80, 81, 82, 83, 84, 85, 86, 87, 88, 89, 90, 91, 92, 93, 94, 95, 96, 97, 98, 99, 100, 101, 102, 103, 104, 105, 106, 107, 108, 109, 110, 111, 112, 113, 114, 115, 116, 117, 118, 119, 120, 121, 122, 123, 124, 125, 126, 127, 128, 129, 130, 131, 132, 133, 134, 135, 136, 137, 138, 139, 140, 141, 142, 143, 144, 145, 146, 147, 148, 149, 150, 151, 152, 153, 154, 155, 156, 157, 158, 159, 160, 161, 162, 163, 164, 165, 166, 167, 168, 169, 170, 171, 172, 173, 174, 175, 176, 177, 178, 179, 180, 181, 182, 183, 184, 185, 186, 187, 188, 189, 190, 191, 192, 193, 194, 195, 196, 197, 198, 199, 200, 201, 202, 203, 204, 205, 206, 207, 208, 209, 210, 211, 212, 213, 214, 215, 216] (by decide +kernel) (by decide +kernel)
set_option maxRecDepth 20000 in
theorem gX12_parses_X12_tell : GoodIn wsX12_parses (wsV RX12 395 RX12 yX12_tell wsX12_tell) := goodIn_app (goodIn_of _ (by decide +kernel)) ggX12_parses_X12_tell
set_option maxRecDepth 20000 in
theorem ggX12_parses_X12_isSign : GoodIn wsX12_parses wsX12_isSign := goodIn_r _ [90, 2, 1, 8, 136, 137, 138, 139, 140, 141, 142, 143, 144, 145, 146, 147, 148, 149, 150, 151, 152, 153, 154, 155, 156, 157, 158, 159, 160, 161, 162, 163, 164, 165, 166, 167, 168, 169, 170, 171, 172, 173, 174, 175, 176, 177, 178, 179, 180, 181, 182, 183, 184, 185, 186, 187, 188, 189, 190, 191, 192, 193, 194, 195, 196, 197, 198, 199, 200, 201, 202, 203, 204, 205, 206, 207, 208, 209, 210, 211, 212, 213, 214, 215, 216] (by decide +kernel) (by decide +kernel)
set_option maxRecDepth 20000 in
theorem gX12_parses_X12_isSign : GoodIn wsX12_parses (wsV RX12 343 RX12 yX12_isSign wsX12_isSign) := goodIn_app (goodIn_of _ (by decide +kernel)) ggX12_parses_X12_isSign
set_option maxRecDepth 20000 in
theorem ggX12_parses_X12_wrong : GoodIn wsX12_parses wsX12_wrong := goodIn_r _ [24, 25, 26, 1, 27, 136, 137, 138, 139, 140, 141, 142, 143, 144, 145, 146, 147, 148, 149, 150, 151, 152, 153, 154, 155, 156, 157, 158, 159, 160, 161, 162, 163, 164, 165, 166, 167, 168, 169, 170, 171, 172, 173, 174, 175, 176, 177, 178, 179, 180, 181, 182, 183, 184, 185, 186, 187, 188, 189, 190, 191, 192, 193, 194, 195, 196, 197, 198, 199, 200, 201, 202, 203, 204, 205, 206, 207, 208, 209, 210, 211, 212, 213, 214, 215, 216] (by decide +kernel) (by decide +kernel)
set_option maxRecDepth 20000 in
theorem gX12_parses_X12_wrong : GoodIn wsX12_parses (wsV RX12 314 RX12 yX12_wrong wsX12_wrong) := goodIn_app (goodIn_of _ (by decide +kernel)) ggX12_parses_X12_wrong
set_option maxRecDepth 20000 in
theorem ggX12_parses_X12_pass : GoodIn wsX12_parses wsX12_pass := goodIn_r _ [31, 1, 21, 22, 23, 6, 24, 25, 26, 27, 136, 137, 138, 139, 140, 141, 142, 143, 144, 145, 146, 147, 148, 149, 150, 151, 152, 153, 154, 155, 156, 157, 158, 159, 160, 161, 162, 163, 164, 165, 166, 167, 168, 169, 170, 171, 172, 173, 174, 175, 176, 177, 178, 179, 180, 181, 182, 183, 184, 185, 186, 187, 188, 189, 190, 191, 192, 193, 194, 195, 196, 197, 198, 199, 200, 201, 202, 203, 204, 205, 206, 207, 208, 209, 210, 211, 212, 213, 214, 215, 216] (by decide +kernel) (by decide +kernel)
set_option maxRecDepth 20000 in
theorem gX12_parses_X12_pass : GoodIn wsX12_parses (wsV RX12 317 RX12 yX12_pass wsX12_pass) := goodIn_app (goodIn_of _ (by decide +kernel)) ggX12_parses_X12_pass
theorem dX12_parses_0 : decode cX12_parses 0 = .ok (.aload_n 0, 1) := by decide +kernel
theorem dX12_parses_1 : decode cX12_parses 1 = .ok (.iconst 0, 1) := by decide +kernel
theorem dX12_parses_2 : decode cX12_parses 2 = .ok (.putfield 305, 3) := by decide +kernel
theorem dX12_parses_5 : decode cX12_parses 5 = .ok (.aload_n 0, 1) := by decide +kernel
theorem dX12_parses_6 : decode cX12_parses 6 = .ok (.getfield 13, 3) := by decide +kernel
theorem dX12_parses_9 : decode cX12_parses 9 = .ok (.aload_n 0, 1) := by decide +kernel
theorem dX12_parses_10 : decode cX12_parses 10 = .ok (.getfield 305, 3) := by decide +kernel
theorem dX12_parses_13 : decode cX12_parses 13 = .ok (.iaload, 1) := by decide +kernel
theorem dX12_parses_14 : decode cX12_parses 14 = .ok (.iconst 4, 1) := by decide +kernel
theorem dX12_parses_15 : decode cX12_parses 15 = .ok (.if_icmp .eq 36, 3) := by decide +kernel
theorem dX12_parses_18 : decode cX12_parses 18 = .ok (.aload_n 0, 1) := by decide +kernel
theorem dX12_parses_19 : decode cX12_parses 19 = .ok (.invokevirtual 395, 3) := by decide +kernel
theorem dX12_parses_22 : decode cX12_parses 22 = .ok (.ifCond .ne 5, 3) := by decide +kernel
theorem dX12_parses_25 : decode cX12_parses 25 = .ok (.iconst 0, 1) := by decide +kernel
theorem dX12_parses_26 : decode cX12_parses 26 = .ok (.ireturn, 1) := by decide +kernel
theorem dX12_parses_27 : decode cX12_parses 27 = .ok (.aload_n 0, 1) := by decide +kernel
theorem dX12_parses_28 : decode cX12_parses 28 = .ok (.bipush 59, 2) := by decide +kernel
theorem dX12_parses_30 : decode cX12_parses 30 = .ok (.invokevirtual 343, 3) := by decide +kernel
theorem dX12_parses_33 : decode cX12_parses 33 = .ok (.ifCond .ne 9, 3) := by decide +kernel
theorem dX12_parses_36 : decode cX12_parses 36 = .ok (.aload_n 0, 1) := by decide +kernel
theorem dX12_parses_37 : decode cX12_parses 37 = .ok (.iconst 1, 1) := by decide +kernel
theorem dX12_parses_38 : decode cX12_parses 38 = .ok (.invokevirtual 314, 3) := by decide +kernel
theorem dX12_parses_41 : decode cX12_parses 41 = .ok (.ireturn, 1) := by decide +kernel
theorem dX12_parses_42 : decode cX12_parses 42 = .ok (.aload_n 0, 1) := by decide +kernel
theorem dX12_parses_43 : decode cX12_parses 43 = .ok (.invokevirtual 317, 3) := by decide +kernel
theorem dX12_parses_46 : decode cX12_parses 46 = .ok (.ifCond .ne (-41), 3) := by decide +kernel
theorem dX12_parses_49 : decode cX12_parses 49 = .ok (.iconst 0, 1) := by decide +kernel
theorem dX12_parses_50 : decode cX12_parses 50 = .ok (.ireturn, 1) := by decide +kernel
theorem dX12_parses_51 : decode cX12_parses 51 = .ok (.iconst 1, 1) := by decide +kernel
theorem dX12_parses_52 : decode cX12_parses 52 = .ok (.ireturn, 1) := by decide +kernel
set_option maxRecDepth 20000 in
theorem ggX12_read_X12_scanAll : GoodIn wsX12_read wsX12_scanAll := goodIn_r _ [10, 11, 5, 12, 13, 14, 15, 9, 16, 17, 18, 19, 20, 21, 22, 23, 24, 25, 26, 27, 28, 29, 30, 31, 32, 33, 34, 35, 36, 37, 38, 39, 40, 41, 42, 43, 44, 45, 46, 47, 48, 49, 50, 51, 52, 53, 54, 55, 56, 57, 58, 59, 60, 61, 62, 63, 64, 65, 66, 210, 211, 212, 213, 214, 215, 216, 217, 218, 219, 220, 221, 222, 223, 224, 225, 226, 227, 228, 229, 230, 231, 232, 233, 234, 235, 236, 237, 238, 239, 240, 241, 242, 243, 244, 245, 246, 247, 248, 249, 250, 251, 252, 253, 254, 255, 256, 257, 258, 259, 260, 261, 262, 263, 264, 265, 266, 267, 268, 269, 270, 271, 272, 273, 274, 275, 276, 277, 278, 279, 280, 281, 282, 283, 284, 285, 286, 287, 288, 289, 290] (by decide +kernel) (by decide +kernel)
set_option maxRecDepth 20000 in
theorem gX12_read_X12_scanAll : GoodIn wsX12_read (wsV RX12 398 RX12 yX12_scanAll wsX12_scanAll) := goodIn_app (goodIn_of _ (by decide +kernel)) ggX12_read_X12_scanAll
set_option maxRecDepth 20000 in
theorem ggX12_read_X12_begin : GoodIn wsX12_read wsX12_begin := goodIn_r _ [70, 71, 72, 73, 74, 75, 76, 77, 78, 79, 80, 210, 211, 212, 213, 214, 215, 216, 217, 218, 219, 220, 221, 222, 223, 224, 225, 226, 227, 228, 229, 230, 231, 232, 233, 234, 235, 236, 237, 238, 239, 240, 241, 242, 243, 244, 245, 246, 247, 248, 249, 250, 251, 252, 253, 254, 255, 256, 257, 258, 259, 260, 261, 262, 263, 264, 265, 266, 267, 268, 269, 270, 271, 272, 273, 274, 275, 276, 277, 278, 279, 280, 281, 282, 283, 284, 285, 286, 287, 288, 289, 290] (by decide +kernel) (by decide +kernel)
set_option maxRecDepth 20000 in
theorem gX12_read_X12_begin : GoodIn wsX12_read (wsV RX12 218 RX12 yX12_begin wsX12_begin) := goodIn_app (goodIn_of _ (by decide +kernel)) ggX12_read_X12_begin
set_option maxRecDepth 20000 in
theorem ggX12_read_X12_parses : GoodIn wsX12_read wsX12_parses := goodIn_r _ [84, 85, 12, 86, 87, 88, 9, 89, 58, 71, 90, 91, 92, 93, 94, 72, 95, 96, 97, 98, 99, 100, 101, 102, 103, 1, 57, 2, 104, 105, 106, 107, 108, 109, 110, 111, 80, 112, 24, 113, 114, 115, 116, 117, 118, 119, 120, 121, 3, 4, 122, 123, 124, 125, 126, 127, 128, 129, 73, 130, 131, 132, 133, 134, 135, 136, 137, 138, 139, 74, 140, 141, 142, 143, 144, 145, 146, 75, 147, 148, 149, 150, 77, 151, 152, 153, 154, 155, 156, 157, 158, 159, 160, 161, 162, 163, 164, 165, 166, 167, 168, 169, 170, 171, 172, 173, 174, 175, 176, 177, 178, 179, 180, 181, 182, 183, 184, 185, 186, 187, 188, 76, 189, 190, 191, 78, 192, 193, 194, 195, 196, 197, 198, 199, 200, 201, 210, 211, 212, 213, 214, 215, 216, 217, 218, 219, 220, 221, 222, 223, 224, 225, 226, 227, 228, 229, 230, 231, 232, 233, 234, 235, 236, 237, 238, 239, 240, 241, 242, 243, 244, 245, 246, 247, 248, 249, 250, 251, 252, 253, 254, 255, 256, 257, 258, 259, 260, 261, 262, 263, 264, 265, 266, 267, 268, 269, 270, 271, 272, 273, 274, 275, 276, 277, 278, 279, 280, 281, 282, 283, 284, 285, 286, 287, 288, 289, 290] (by decide +kernel) (by decide +kernel)
set_option maxRecDepth 20000 in
theorem gX12_read_X12_parses : GoodIn wsX12_read (wsV RX12 401 RX12 yX12_parses wsX12_parses) := goodIn_app (goodIn_of _ (by decide +kernel)) ggX12_read_X12_parses
set_option maxRecDepth 20000 in
theorem ggX12_read_X12_copy : GoodIn wsX12_read wsX12_copy := goodIn_r _ [205, 71, 72, 73, 74, 75, 76, 77, 78, 79, 98, 95, 96, 97, 99, 130, 131, 140, 141, 142, 147, 148, 150, 189, 191, 176, 177, 200, 198, 196, 197, 199, 201, 206, 207, 208, 209, 210, 211, 212, 213, 214, 215, 216, 217, 218, 219, 220, 221, 222, 223, 224, 225, 226, 227, 228, 229, 230, 231, 232, 233, 234, 235, 236, 237, 238, 239, 240, 241, 242, 243, 244, 245, 246, 247, 248, 249, 250, 251, 252, 253, 254, 255, 256, 257, 258, 259, 260, 261, 262, 263, 264, 265, 266, 267, 268, 269, 270, 271, 272, 273, 274, 275, 276, 277, 278, 279, 280, 281, 282, 283, 284, 285, 286, 287, 288, 289, 290] (by decide +kernel) (by decide +kernel)
set_option maxRecDepth 20000 in
theorem gX12_read_X12_copy : GoodIn wsX12_read (wsV RX12 404 RX12 yX12_copy wsX12_copy) := goodIn_app (goodIn_of _ (by decide +kernel)) ggX12_read_X12_copy
theorem dX12_read_0 : decode cX12_read 0 = .ok (.aload_n 0, 1) := by decide +kernel
theorem dX12_read_1 : decode cX12_read 1 = .ok (.invokevirtual 398, 3) := by decide +kernel
theorem dX12_read_4 : decode cX12_read 4 = .ok (.aload_n 0, 1) := by decide +kernel
theorem dX12_read_5 : decode cX12_read 5 = .ok (.iconst 0, 1) := by decide +kernel
theorem dX12_read_6 : decode cX12_read 6 = .ok (.putfield 302, 3) := by decide +kernel
theorem dX12_read_9 : decode cX12_read 9 = .ok (.aload_n 0, 1) := by decide +kernel
theorem dX12_read_10 : decode cX12_read 10 = .ok (.iconst (-1), 1) := by decide +kernel
theorem dX12_read_11 : decode cX12_read 11 = .ok (.putfield 26, 3) := by decide +kernel
theorem dX12_read_14 : decode cX12_read 14 = .ok (.aload_n 0, 1) := by decide +kernel
theorem dX12_read_15 : decode cX12_read 15 = .ok (.iconst 0, 1) := by decide +kernel
theorem dX12_read_16 : decode cX12_read 16 = .ok (.putfield 308, 3) := by decide +kernel
theorem dX12_read_19 : decode cX12_read 19 = .ok (.aload_n 0, 1) := by decide +kernel
theorem dX12_read_20 : decode cX12_read 20 = .ok (.iconst 1, 1) := by decide +kernel
theorem dX12_read_21 : decode cX12_read 21 = .ok (.invokevirtual 218, 3) := by decide +kernel
theorem dX12_read_24 : decode cX12_read 24 = .ok (.aload_n 0, 1) := by decide +kernel
theorem dX12_read_25 : decode cX12_read 25 = .ok (.invokevirtual 401, 3) := by decide +kernel
theorem dX12_read_28 : decode cX12_read 28 = .ok (.ifCond .eq 26, 3) := by decide +kernel
theorem dX12_read_31 : decode cX12_read 31 = .ok (.aload_n 0, 1) := by decide +kernel
theorem dX12_read_32 : decode cX12_read 32 = .ok (.getfield 308, 3) := by decide +kernel
theorem dX12_read_35 : decode cX12_read 35 = .ok (.ifCond .eq 19, 3) := by decide +kernel
theorem dX12_read_38 : decode cX12_read 38 = .ok (.aload_n 0, 1) := by decide +kernel
theorem dX12_read_39 : decode cX12_read 39 = .ok (.aload_n 0, 1) := by decide +kernel
theorem dX12_read_40 : decode cX12_read 40 = .ok (.getfield 308, 3) := by decide +kernel
theorem dX12_read_43 : decode cX12_read 43 = .ok (.putfield 302, 3) := by decide +kernel
theorem dX12_read_46 : decode cX12_read 46 = .ok (.aload_n 0, 1) := by decide +kernel
theorem dX12_read_47 : decode cX12_read 47 = .ok (.aload_n 0, 1) := by decide +kernel
theorem dX12_read_48 : decode cX12_read 48 = .ok (.getfield 311, 3) := by decide +kernel
theorem dX12_read_51 : decode cX12_read 51 = .ok (.putfield 26, 3) := by decide +kernel
theorem dX12_read_54 : decode cX12_read 54 = .ok (.aload_n 0, 1) := by decide +kernel
theorem dX12_read_55 : decode cX12_read 55 = .ok (.iconst 0, 1) := by decide +kernel
theorem dX12_read_56 : decode cX12_read 56 = .ok (.putfield 222, 3) := by decide +kernel
theorem dX12_read_59 : decode cX12_read 59 = .ok (.aload_n 0, 1) := by decide +kernel
theorem dX12_read_60 : decode cX12_read 60 = .ok (.getfield 302, 3) := by decide +kernel
theorem dX12_read_63 : decode cX12_read 63 = .ok (.ifCond .ne 9, 3) := by decide +kernel
theorem dX12_read_66 : decode cX12_read 66 = .ok (.aload_n 0, 1) := by decide +kernel
theorem dX12_read_67 : decode cX12_read 67 = .ok (.iconst 1, 1) := by decide +kernel
theorem dX12_read_68 : decode cX12_read 68 = .ok (.iconst 0, 1) := by decide +kernel
theorem dX12_read_69 : decode cX12_read 69 = .ok (.invokevirtual 404, 3) := by decide +kernel
theorem dX12_read_72 : decode cX12_read 72 = .ok (.aload_n 0, 1) := by decide +kernel
theorem dX12_read_73 : decode cX12_read 73 = .ok (.getfield 302, 3) := by decide +kernel
theorem dX12_read_76 : decode cX12_read 76 = .ok (.ireturn, 1) := by decide +kernel
theorem dX12_place_0 : decode cX12_place 0 = .ok (.aload_n 0, 1) := by decide +kernel
theorem dX12_place_1 : decode cX12_place 1 = .ok (.getfield 26, 3) := by decide +kernel
theorem dX12_place_4 : decode cX12_place 4 = .ok (.ireturn, 1) := by decide +kernel
set_option maxRecDepth 20000 in
theorem ggX12_hold_X12_copy : GoodIn wsX12_hold wsX12_copy := goodIn_r _ [6, 7, 8, 9, 10, 11, 12, 13, 14, 15, 16, 17, 18, 19, 20, 21, 22, 23, 24, 25, 26, 27, 28, 29, 30, 31, 32, 33, 34, 35, 36, 37, 38, 39, 40, 41, 42, 43, 44, 45, 46, 47, 48, 49, 50, 51, 52, 53, 54, 55, 56, 57, 58, 59, 60, 61, 62, 63, 64, 65, 66, 67, 68, 69, 70, 71, 72, 73, 74, 75, 76, 77, 78, 79, 80, 81, 82, 83, 84, 85, 86, 87, 88, 89, 90, 91, 92, 93, 94, 95, 96, 97, 98, 99, 100, 101, 102, 103, 104, 105, 106, 107, 108, 109, 110, 111, 112, 113, 114, 115, 116, 117, 118, 119, 120, 121, 122, 123] (by decide +kernel) (by decide +kernel)
set_option maxRecDepth 20000 in
theorem gX12_hold_X12_copy : GoodIn wsX12_hold (wsV RX12 404 RX12 yX12_copy wsX12_copy) := goodIn_app (goodIn_of _ (by decide +kernel)) ggX12_hold_X12_copy
theorem dX12_hold_0 : decode cX12_hold 0 = .ok (.iload_n 1, 1) := by decide +kernel
theorem dX12_hold_1 : decode cX12_hold 1 = .ok (.ifCond .lt 8, 3) := by decide +kernel
theorem dX12_hold_4 : decode cX12_hold 4 = .ok (.iload_n 1, 1) := by decide +kernel
theorem dX12_hold_5 : decode cX12_hold 5 = .ok (.iconst 2, 1) := by decide +kernel
theorem dX12_hold_6 : decode cX12_hold 6 = .ok (.if_icmp .le 5, 3) := by decide +kernel
theorem dX12_hold_9 : decode cX12_hold 9 = .ok (.iconst 0, 1) := by decide +kernel
theorem dX12_hold_10 : decode cX12_hold 10 = .ok (.ireturn, 1) := by decide +kernel
theorem dX12_hold_11 : decode cX12_hold 11 = .ok (.aload_n 0, 1) := by decide +kernel
theorem dX12_hold_12 : decode cX12_hold 12 = .ok (.iconst 0, 1) := by decide +kernel
theorem dX12_hold_13 : decode cX12_hold 13 = .ok (.iconst 2, 1) := by decide +kernel
theorem dX12_hold_14 : decode cX12_hold 14 = .ok (.iload_n 1, 1) := by decide +kernel
theorem dX12_hold_15 : decode cX12_hold 15 = .ok (.iadd, 1) := by decide +kernel
theorem dX12_hold_16 : decode cX12_hold 16 = .ok (.invokevirtual 404, 3) := by decide +kernel
theorem dX12_hold_19 : decode cX12_hold 19 = .ok (.aload_n 0, 1) := by decide +kernel
theorem dX12_hold_20 : decode cX12_hold 20 = .ok (.getfield 30, 3) := by decide +kernel
theorem dX12_hold_23 : decode cX12_hold 23 = .ok (.iconst 2, 1) := by decide +kernel
theorem dX12_hold_24 : decode cX12_hold 24 = .ok (.iload_n 1, 1) := by decide +kernel
theorem dX12_hold_25 : decode cX12_hold 25 = .ok (.iadd, 1) := by decide +kernel
theorem dX12_hold_26 : decode cX12_hold 26 = .ok (.iconst 1, 1) := by decide +kernel
theorem dX12_hold_27 : decode cX12_hold 27 = .ok (.bastore, 1) := by decide +kernel
theorem dX12_hold_28 : decode cX12_hold 28 = .ok (.iconst 1, 1) := by decide +kernel
theorem dX12_hold_29 : decode cX12_hold 29 = .ok (.ireturn, 1) := by decide +kernel
set_option maxRecDepth 20000 in
theorem ggX12_again_X12_copy : GoodIn wsX12_again wsX12_copy := goodIn_r _ [6, 7, 8, 9, 10, 11, 12, 13, 14, 15, 16, 17, 18, 19, 20, 21, 22, 23, 24, 25, 26, 27, 28, 29, 30, 31, 32, 33, 34, 35, 36, 37, 38, 39, 40, 41, 42, 43, 44, 45, 46, 47, 48, 49, 50, 51, 52, 53, 54, 55, 56, 57, 58, 59, 60, 61, 62, 63, 64, 65, 66, 67, 68, 69, 70, 71, 72, 73, 74, 75, 76, 77, 78, 79, 80, 81, 82, 83, 84, 85, 86, 87, 88, 89, 90, 91, 92, 93, 94, 95, 96, 97, 98, 99, 100, 101, 102, 103, 104, 105, 106, 107, 108, 109, 110, 111, 112, 113, 114, 115, 116, 117, 118, 119, 120, 121, 122, 123] (by decide +kernel) (by decide +kernel)
set_option maxRecDepth 20000 in
theorem gX12_again_X12_copy : GoodIn wsX12_again (wsV RX12 404 RX12 yX12_copy wsX12_copy) := goodIn_app (goodIn_of _ (by decide +kernel)) ggX12_again_X12_copy
theorem dX12_again_0 : decode cX12_again 0 = .ok (.iload_n 1, 1) := by decide +kernel
theorem dX12_again_1 : decode cX12_again 1 = .ok (.ifCond .lt 19, 3) := by decide +kernel
theorem dX12_again_4 : decode cX12_again 4 = .ok (.iload_n 1, 1) := by decide +kernel
theorem dX12_again_5 : decode cX12_again 5 = .ok (.iconst 2, 1) := by decide +kernel
theorem dX12_again_6 : decode cX12_again 6 = .ok (.if_icmp .gt 14, 3) := by decide +kernel
theorem dX12_again_9 : decode cX12_again 9 = .ok (.aload_n 0, 1) := by decide +kernel
theorem dX12_again_10 : decode cX12_again 10 = .ok (.getfield 30, 3) := by decide +kernel
theorem dX12_again_13 : decode cX12_again 13 = .ok (.iconst 2, 1) := by decide +kernel
theorem dX12_again_14 : decode cX12_again 14 = .ok (.iload_n 1, 1) := by decide +kernel
theorem dX12_again_15 : decode cX12_again 15 = .ok (.iadd, 1) := by decide +kernel
theorem dX12_again_16 : decode cX12_again 16 = .ok (.baload, 1) := by decide +kernel
theorem dX12_again_17 : decode cX12_again 17 = .ok (.ifCond .ne 5, 3) := by decide +kernel
theorem dX12_again_20 : decode cX12_again 20 = .ok (.iconst 0, 1) := by decide +kernel
theorem dX12_again_21 : decode cX12_again 21 = .ok (.ireturn, 1) := by decide +kernel
theorem dX12_again_22 : decode cX12_again 22 = .ok (.aload_n 0, 1) := by decide +kernel
theorem dX12_again_23 : decode cX12_again 23 = .ok (.iconst 2, 1) := by decide +kernel
theorem dX12_again_24 : decode cX12_again 24 = .ok (.iload_n 1, 1) := by decide +kernel
theorem dX12_again_25 : decode cX12_again 25 = .ok (.iadd, 1) := by decide +kernel
theorem dX12_again_26 : decode cX12_again 26 = .ok (.iconst 0, 1) := by decide +kernel
theorem dX12_again_27 : decode cX12_again 27 = .ok (.invokevirtual 404, 3) := by decide +kernel
theorem dX12_again_30 : decode cX12_again 30 = .ok (.iconst 1, 1) := by decide +kernel
theorem dX12_again_31 : decode cX12_again 31 = .ok (.ireturn, 1) := by decide +kernel
theorem dX12_isIn_0 : decode cX12_isIn 0 = .ok (.iload_n 0, 1) := by decide +kernel
theorem dX12_isIn_1 : decode cX12_isIn 1 = .ok (.iload_n 1, 1) := by decide +kernel
theorem dX12_isIn_2 : decode cX12_isIn 2 = .ok (.if_icmp .lt 12, 3) := by decide +kernel
theorem dX12_isIn_5 : decode cX12_isIn 5 = .ok (.iload_n 0, 1) := by decide +kernel
theorem dX12_isIn_6 : decode cX12_isIn 6 = .ok (.iload_n 2, 1) := by decide +kernel
theorem dX12_isIn_7 : decode cX12_isIn 7 = .ok (.if_icmp .gt 7, 3) := by decide +kernel
theorem dX12_isIn_10 : decode cX12_isIn 10 = .ok (.iconst 1, 1) := by decide +kernel
theorem dX12_isIn_11 : decode cX12_isIn 11 = .ok (.goto 4, 3) := by decide +kernel
theorem dX12_isIn_14 : decode cX12_isIn 14 = .ok (.iconst 0, 1) := by decide +kernel
theorem dX12_isIn_15 : decode cX12_isIn 15 = .ok (.ireturn, 1) := by decide +kernel
theorem dX12_fact_0 : decode cX12_fact 0 = .ok (.aload_n 0, 1) := by decide +kernel
theorem dX12_fact_1 : decode cX12_fact 1 = .ok (.getfield 127, 3) := by decide +kernel
theorem dX12_fact_4 : decode cX12_fact 4 = .ok (.iconst 0, 1) := by decide +kernel
theorem dX12_fact_5 : decode cX12_fact 5 = .ok (.iaload, 1) := by decide +kernel
theorem dX12_fact_6 : decode cX12_fact 6 = .ok (.bipush 60, 2) := by decide +kernel
theorem dX12_fact_8 : decode cX12_fact 8 = .ok (.if_icmp .ne 5, 3) := by decide +kernel
theorem dX12_fact_11 : decode cX12_fact 11 = .ok (.iconst (-1), 1) := by decide +kernel
theorem dX12_fact_12 : decode cX12_fact 12 = .ok (.ireturn, 1) := by decide +kernel
theorem dX12_fact_13 : decode cX12_fact 13 = .ok (.aload_n 0, 1) := by decide +kernel
theorem dX12_fact_14 : decode cX12_fact 14 = .ok (.getfield 127, 3) := by decide +kernel
theorem dX12_fact_17 : decode cX12_fact 17 = .ok (.iconst 0, 1) := by decide +kernel
theorem dX12_fact_18 : decode cX12_fact 18 = .ok (.iaload, 1) := by decide +kernel
theorem dX12_fact_19 : decode cX12_fact 19 = .ok (.istore 5, 2) := by decide +kernel
theorem dX12_fact_21 : decode cX12_fact 21 = .ok (.aload_n 0, 1) := by decide +kernel
theorem dX12_fact_22 : decode cX12_fact 22 = .ok (.getfield 130, 3) := by decide +kernel
theorem dX12_fact_25 : decode cX12_fact 25 = .ok (.iload 5, 2) := by decide +kernel
theorem dX12_fact_27 : decode cX12_fact 27 = .ok (.iload_n 1, 1) := by decide +kernel
theorem dX12_fact_28 : decode cX12_fact 28 = .ok (.iastore, 1) := by decide +kernel
theorem dX12_fact_29 : decode cX12_fact 29 = .ok (.aload_n 0, 1) := by decide +kernel
theorem dX12_fact_30 : decode cX12_fact 30 = .ok (.getfield 133, 3) := by decide +kernel
theorem dX12_fact_33 : decode cX12_fact 33 = .ok (.iload 5, 2) := by decide +kernel
theorem dX12_fact_35 : decode cX12_fact 35 = .ok (.iload_n 2, 1) := by decide +kernel
theorem dX12_fact_36 : decode cX12_fact 36 = .ok (.iastore, 1) := by decide +kernel
theorem dX12_fact_37 : decode cX12_fact 37 = .ok (.aload_n 0, 1) := by decide +kernel
theorem dX12_fact_38 : decode cX12_fact 38 = .ok (.getfield 136, 3) := by decide +kernel
theorem dX12_fact_41 : decode cX12_fact 41 = .ok (.iload 5, 2) := by decide +kernel
theorem dX12_fact_43 : decode cX12_fact 43 = .ok (.iload_n 3, 1) := by decide +kernel
theorem dX12_fact_44 : decode cX12_fact 44 = .ok (.iastore, 1) := by decide +kernel
theorem dX12_fact_45 : decode cX12_fact 45 = .ok (.aload_n 0, 1) := by decide +kernel
theorem dX12_fact_46 : decode cX12_fact 46 = .ok (.getfield 139, 3) := by decide +kernel
theorem dX12_fact_49 : decode cX12_fact 49 = .ok (.iload 5, 2) := by decide +kernel
theorem dX12_fact_51 : decode cX12_fact 51 = .ok (.iload 4, 2) := by decide +kernel
theorem dX12_fact_53 : decode cX12_fact 53 = .ok (.iastore, 1) := by decide +kernel
theorem dX12_fact_54 : decode cX12_fact 54 = .ok (.aload_n 0, 1) := by decide +kernel
theorem dX12_fact_55 : decode cX12_fact 55 = .ok (.getfield 127, 3) := by decide +kernel
theorem dX12_fact_58 : decode cX12_fact 58 = .ok (.iconst 0, 1) := by decide +kernel
theorem dX12_fact_59 : decode cX12_fact 59 = .ok (.dup2, 1) := by decide +kernel
theorem dX12_fact_60 : decode cX12_fact 60 = .ok (.iaload, 1) := by decide +kernel
theorem dX12_fact_61 : decode cX12_fact 61 = .ok (.iconst 1, 1) := by decide +kernel
theorem dX12_fact_62 : decode cX12_fact 62 = .ok (.iadd, 1) := by decide +kernel
theorem dX12_fact_63 : decode cX12_fact 63 = .ok (.iastore, 1) := by decide +kernel
theorem dX12_fact_64 : decode cX12_fact 64 = .ok (.iload 5, 2) := by decide +kernel
theorem dX12_fact_66 : decode cX12_fact 66 = .ok (.ireturn, 1) := by decide +kernel
theorem dX12_isThing_0 : decode cX12_isThing 0 = .ok (.iload_n 1, 1) := by decide +kernel
theorem dX12_isThing_1 : decode cX12_isThing 1 = .ok (.ifCond .lt 17, 3) := by decide +kernel
theorem dX12_isThing_4 : decode cX12_isThing 4 = .ok (.iload_n 1, 1) := by decide +kernel
theorem dX12_isThing_5 : decode cX12_isThing 5 = .ok (.aload_n 0, 1) := by decide +kernel
theorem dX12_isThing_6 : decode cX12_isThing 6 = .ok (.getfield 37, 3) := by decide +kernel
theorem dX12_isThing_9 : decode cX12_isThing 9 = .ok (.iconst 0, 1) := by decide +kernel
theorem dX12_isThing_10 : decode cX12_isThing 10 = .ok (.iaload, 1) := by decide +kernel
theorem dX12_isThing_11 : decode cX12_isThing 11 = .ok (.if_icmp .ge 7, 3) := by decide +kernel
theorem dX12_isThing_14 : decode cX12_isThing 14 = .ok (.iconst 1, 1) := by decide +kernel
theorem dX12_isThing_15 : decode cX12_isThing 15 = .ok (.goto 4, 3) := by decide +kernel
theorem dX12_isThing_18 : decode cX12_isThing 18 = .ok (.iconst 0, 1) := by decide +kernel
theorem dX12_isThing_19 : decode cX12_isThing 19 = .ok (.ireturn, 1) := by decide +kernel
set_option maxRecDepth 20000 in
theorem ggX12_found_X12_isIn : GoodIn wsX12_found wsX12_isIn := goodIn_r _ [11] (by decide +kernel) (by decide +kernel)
set_option maxRecDepth 20000 in
theorem gX12_found_X12_isIn : GoodIn wsX12_found (va_wsS RX12 407 yX12_isIn wsX12_isIn) := goodIn_app (goodIn_of _ (by decide +kernel)) ggX12_found_X12_isIn
set_option maxRecDepth 20000 in
theorem ggX12_found_X12_fact : GoodIn wsX12_found wsX12_fact := goodIn_r _ [15, 2, 16, 17, 18, 19, 20, 21, 22, 23, 24, 25, 26, 27, 28, 29, 30, 31, 32, 33, 34, 35, 36, 37, 38, 39, 40, 41, 42, 43, 44, 45, 46, 47, 48, 49, 50, 51, 52, 53, 54, 55, 56, 57, 58, 59, 60, 61, 62, 63, 64, 65, 66, 67, 68, 69, 70, 71, 72, 73, 74, 75, 76, 77, 78, 79, 80, 81, 82, 83, 84, 85, 86, 87, 88, 89, 90, 91, 92, 93, 94, 95, 96, 97, 98, 99, 100] (by decide +kernel) (by decide +kernel)
set_option maxRecDepth 20000 in
theorem gX12_found_X12_fact : GoodIn wsX12_found (wsV RX12 411 RX12 yX12_fact wsX12_fact) := goodIn_app (goodIn_of _ (by decide +kernel)) ggX12_found_X12_fact
theorem dX12_found_0 : decode cX12_found 0 = .ok (.aload_n 0, 1) := by decide +kernel
theorem dX12_found_1 : decode cX12_found 1 = .ok (.getfield 37, 3) := by decide +kernel
theorem dX12_found_4 : decode cX12_found 4 = .ok (.iconst 0, 1) := by decide +kernel
theorem dX12_found_5 : decode cX12_found 5 = .ok (.iaload, 1) := by decide +kernel
theorem dX12_found_6 : decode cX12_found 6 = .ok (.bipush 14, 2) := by decide +kernel
theorem dX12_found_8 : decode cX12_found 8 = .ok (.if_icmp .eq 47, 3) := by decide +kernel
theorem dX12_found_11 : decode cX12_found 11 = .ok (.aload_n 0, 1) := by decide +kernel
theorem dX12_found_12 : decode cX12_found 12 = .ok (.getfield 127, 3) := by decide +kernel
theorem dX12_found_15 : decode cX12_found 15 = .ok (.iconst 0, 1) := by decide +kernel
theorem dX12_found_16 : decode cX12_found 16 = .ok (.iaload, 1) := by decide +kernel
theorem dX12_found_17 : decode cX12_found 17 = .ok (.bipush 60, 2) := by decide +kernel
theorem dX12_found_19 : decode cX12_found 19 = .ok (.if_icmp .eq 36, 3) := by decide +kernel
theorem dX12_found_22 : decode cX12_found 22 = .ok (.iload_n 1, 1) := by decide +kernel
theorem dX12_found_23 : decode cX12_found 23 = .ok (.iconst 0, 1) := by decide +kernel
theorem dX12_found_24 : decode cX12_found 24 = .ok (.sipush 999, 3) := by decide +kernel
theorem dX12_found_27 : decode cX12_found 27 = .ok (.invokestatic 407, 3) := by decide +kernel
theorem dX12_found_30 : decode cX12_found 30 = .ok (.ifCond .eq 25, 3) := by decide +kernel
theorem dX12_found_33 : decode cX12_found 33 = .ok (.iload_n 2, 1) := by decide +kernel
theorem dX12_found_34 : decode cX12_found 34 = .ok (.iconst 0, 1) := by decide +kernel
theorem dX12_found_35 : decode cX12_found 35 = .ok (.sipush 999, 3) := by decide +kernel
theorem dX12_found_38 : decode cX12_found 38 = .ok (.invokestatic 407, 3) := by decide +kernel
theorem dX12_found_41 : decode cX12_found 41 = .ok (.ifCond .eq 14, 3) := by decide +kernel
theorem dX12_found_44 : decode cX12_found 44 = .ok (.iload_n 3, 1) := by decide +kernel
theorem dX12_found_45 : decode cX12_found 45 = .ok (.iconst 0, 1) := by decide +kernel
theorem dX12_found_46 : decode cX12_found 46 = .ok (.sipush 9999, 3) := by decide +kernel
theorem dX12_found_49 : decode cX12_found 49 = .ok (.invokestatic 407, 3) := by decide +kernel
theorem dX12_found_52 : decode cX12_found 52 = .ok (.ifCond .ne 5, 3) := by decide +kernel
theorem dX12_found_55 : decode cX12_found 55 = .ok (.iconst (-1), 1) := by decide +kernel
theorem dX12_found_56 : decode cX12_found 56 = .ok (.ireturn, 1) := by decide +kernel
theorem dX12_found_57 : decode cX12_found 57 = .ok (.aload_n 0, 1) := by decide +kernel
theorem dX12_found_58 : decode cX12_found 58 = .ok (.getfield 37, 3) := by decide +kernel
theorem dX12_found_61 : decode cX12_found 61 = .ok (.iconst 0, 1) := by decide +kernel
theorem dX12_found_62 : decode cX12_found 62 = .ok (.iaload, 1) := by decide +kernel
theorem dX12_found_63 : decode cX12_found 63 = .ok (.istore 4, 2) := by decide +kernel
theorem dX12_found_65 : decode cX12_found 65 = .ok (.aload_n 0, 1) := by decide +kernel
theorem dX12_found_66 : decode cX12_found 66 = .ok (.getfield 52, 3) := by decide +kernel
theorem dX12_found_69 : decode cX12_found 69 = .ok (.iload 4, 2) := by decide +kernel
theorem dX12_found_71 : decode cX12_found 71 = .ok (.aload_n 0, 1) := by decide +kernel
theorem dX12_found_72 : decode cX12_found 72 = .ok (.iconst 0, 1) := by decide +kernel
theorem dX12_found_73 : decode cX12_found 73 = .ok (.iload 4, 2) := by decide +kernel
theorem dX12_found_75 : decode cX12_found 75 = .ok (.iload_n 1, 1) := by decide +kernel
theorem dX12_found_76 : decode cX12_found 76 = .ok (.iload_n 2, 1) := by decide +kernel
theorem dX12_found_77 : decode cX12_found 77 = .ok (.invokevirtual 411, 3) := by decide +kernel
theorem dX12_found_80 : decode cX12_found 80 = .ok (.iastore, 1) := by decide +kernel
theorem dX12_found_81 : decode cX12_found 81 = .ok (.aload_n 0, 1) := by decide +kernel
theorem dX12_found_82 : decode cX12_found 82 = .ok (.getfield 40, 3) := by decide +kernel
theorem dX12_found_85 : decode cX12_found 85 = .ok (.iload 4, 2) := by decide +kernel
theorem dX12_found_87 : decode cX12_found 87 = .ok (.iconst 0, 1) := by decide +kernel
theorem dX12_found_88 : decode cX12_found 88 = .ok (.bastore, 1) := by decide +kernel
theorem dX12_found_89 : decode cX12_found 89 = .ok (.aload_n 0, 1) := by decide +kernel
theorem dX12_found_90 : decode cX12_found 90 = .ok (.getfield 43, 3) := by decide +kernel
theorem dX12_found_93 : decode cX12_found 93 = .ok (.iload 4, 2) := by decide +kernel
theorem dX12_found_95 : decode cX12_found 95 = .ok (.iload_n 1, 1) := by decide +kernel
theorem dX12_found_96 : decode cX12_found 96 = .ok (.iastore, 1) := by decide +kernel
theorem dX12_found_97 : decode cX12_found 97 = .ok (.aload_n 0, 1) := by decide +kernel
theorem dX12_found_98 : decode cX12_found 98 = .ok (.getfield 46, 3) := by decide +kernel
theorem dX12_found_101 : decode cX12_found 101 = .ok (.iload 4, 2) := by decide +kernel
theorem dX12_found_103 : decode cX12_found 103 = .ok (.iload_n 2, 1) := by decide +kernel
theorem dX12_found_104 : decode cX12_found 104 = .ok (.iastore, 1) := by decide +kernel
theorem dX12_found_105 : decode cX12_found 105 = .ok (.aload_n 0, 1) := by decide +kernel
theorem dX12_found_106 : decode cX12_found 106 = .ok (.getfield 49, 3) := by decide +kernel
theorem dX12_found_109 : decode cX12_found 109 = .ok (.iload 4, 2) := by decide +kernel
theorem dX12_found_111 : decode cX12_found 111 = .ok (.iload_n 3, 1) := by decide +kernel
theorem dX12_found_112 : decode cX12_found 112 = .ok (.iastore, 1) := by decide +kernel
theorem dX12_found_113 : decode cX12_found 113 = .ok (.aload_n 0, 1) := by decide +kernel
theorem dX12_found_114 : decode cX12_found 114 = .ok (.getfield 37, 3) := by decide +kernel
theorem dX12_found_117 : decode cX12_found 117 = .ok (.iconst 0, 1) := by decide +kernel
theorem dX12_found_118 : decode cX12_found 118 = .ok (.dup2, 1) := by decide +kernel
theorem dX12_found_119 : decode cX12_found 119 = .ok (.iaload, 1) := by decide +kernel
theorem dX12_found_120 : decode cX12_found 120 = .ok (.iconst 1, 1) := by decide +kernel
theorem dX12_found_121 : decode cX12_found 121 = .ok (.iadd, 1) := by decide +kernel
theorem dX12_found_122 : decode cX12_found 122 = .ok (.iastore, 1) := by decide +kernel
theorem dX12_found_123 : decode cX12_found 123 = .ok (.iload 4, 2) := by decide +kernel
theorem dX12_found_125 : decode cX12_found 125 = .ok (.ireturn, 1) := by decide +kernel
set_option maxRecDepth 20000 in
theorem ggX12_move_X12_isThing : GoodIn wsX12_move wsX12_isThing := goodIn_r _ [5, 6, 19, 20, 21, 22, 23, 24, 25, 26, 27, 28, 29, 30, 31, 32, 33, 34, 35, 36, 37, 38, 39, 40, 41, 42, 43, 44, 45, 46, 47, 48, 49, 50, 51, 52, 53, 54, 55, 56, 57, 58, 59, 60, 61, 62, 63, 64, 65, 66, 67, 68, 69, 70, 71, 72, 73, 74, 75, 76, 77, 78, 79, 80, 81, 82, 83, 84, 85, 86, 87, 88, 89, 90, 91, 92, 93, 94, 95, 96, 97, 98, 99] (by decide +kernel) (by decide +kernel)
set_option maxRecDepth 20000 in
theorem gX12_move_X12_isThing : GoodIn wsX12_move (wsV RX12 415 RX12 yX12_isThing wsX12_isThing) := goodIn_app (goodIn_of _ (by decide +kernel)) ggX12_move_X12_isThing
set_option maxRecDepth 20000 in
theorem ggX12_move_X12_isIn : GoodIn wsX12_move wsX12_isIn := goodIn_r _ [9] (by decide +kernel) (by decide +kernel)
set_option maxRecDepth 20000 in
theorem gX12_move_X12_isIn : GoodIn wsX12_move (va_wsS RX12 407 yX12_isIn wsX12_isIn) := goodIn_app (goodIn_of _ (by decide +kernel)) ggX12_move_X12_isIn
set_option maxRecDepth 20000 in
theorem ggX12_move_X12_fact : GoodIn wsX12_move wsX12_fact := goodIn_r _ [13, 14, 15, 16, 17, 18, 19, 20, 21, 22, 23, 24, 25, 26, 27, 28, 29, 30, 31, 32, 33, 34, 35, 36, 37, 38, 39, 40, 41, 42, 43, 44, 45, 46, 47, 48, 49, 50, 51, 52, 53, 54, 55, 56, 57, 58, 59, 60, 61, 62, 63, 64, 65, 66, 67, 68, 69, 70, 71, 72, 73, 74, 75, 76, 77, 78, 79, 80, 81, 82, 83, 84, 85, 86, 87, 88, 89, 90, 91, 92, 93, 94, 95, 96, 97, 98, 99] (by decide +kernel) (by decide +kernel)
set_option maxRecDepth 20000 in
theorem gX12_move_X12_fact : GoodIn wsX12_move (wsV RX12 411 RX12 yX12_fact wsX12_fact) := goodIn_app (goodIn_of _ (by decide +kernel)) ggX12_move_X12_fact
theorem dX12_move_0 : decode cX12_move 0 = .ok (.aload_n 0, 1) := by decide +kernel
theorem dX12_move_1 : decode cX12_move 1 = .ok (.iload_n 1, 1) := by decide +kernel
theorem dX12_move_2 : decode cX12_move 2 = .ok (.invokevirtual 415, 3) := by decide +kernel
theorem dX12_move_5 : decode cX12_move 5 = .ok (.ifCond .eq 36, 3) := by decide +kernel
theorem dX12_move_8 : decode cX12_move 8 = .ok (.iload_n 2, 1) := by decide +kernel
theorem dX12_move_9 : decode cX12_move 9 = .ok (.iconst 0, 1) := by decide +kernel
theorem dX12_move_10 : decode cX12_move 10 = .ok (.sipush 999, 3) := by decide +kernel
theorem dX12_move_13 : decode cX12_move 13 = .ok (.invokestatic 407, 3) := by decide +kernel
theorem dX12_move_16 : decode cX12_move 16 = .ok (.ifCond .eq 25, 3) := by decide +kernel
theorem dX12_move_19 : decode cX12_move 19 = .ok (.iload_n 3, 1) := by decide +kernel
theorem dX12_move_20 : decode cX12_move 20 = .ok (.iconst 0, 1) := by decide +kernel
theorem dX12_move_21 : decode cX12_move 21 = .ok (.sipush 999, 3) := by decide +kernel
theorem dX12_move_24 : decode cX12_move 24 = .ok (.invokestatic 407, 3) := by decide +kernel
theorem dX12_move_27 : decode cX12_move 27 = .ok (.ifCond .eq 14, 3) := by decide +kernel
theorem dX12_move_30 : decode cX12_move 30 = .ok (.aload_n 0, 1) := by decide +kernel
theorem dX12_move_31 : decode cX12_move 31 = .ok (.iconst 1, 1) := by decide +kernel
theorem dX12_move_32 : decode cX12_move 32 = .ok (.iload_n 1, 1) := by decide +kernel
theorem dX12_move_33 : decode cX12_move 33 = .ok (.iload_n 2, 1) := by decide +kernel
theorem dX12_move_34 : decode cX12_move 34 = .ok (.iload_n 3, 1) := by decide +kernel
theorem dX12_move_35 : decode cX12_move 35 = .ok (.invokevirtual 411, 3) := by decide +kernel
theorem dX12_move_38 : decode cX12_move 38 = .ok (.goto 4, 3) := by decide +kernel
theorem dX12_move_41 : decode cX12_move 41 = .ok (.iconst (-1), 1) := by decide +kernel
theorem dX12_move_42 : decode cX12_move 42 = .ok (.ireturn, 1) := by decide +kernel
set_option maxRecDepth 20000 in
theorem ggX12_gone_X12_isThing : GoodIn wsX12_gone wsX12_isThing := goodIn_r _ [5, 6, 16, 17, 18, 19, 20, 21, 22, 23, 24, 25, 26, 27, 28, 29, 30, 31, 32, 33, 34, 35, 36, 37, 38, 39, 40, 41, 42, 43, 44, 45, 46, 47, 48, 49, 50, 51, 52, 53, 54, 55, 56, 57, 58, 59, 60, 61, 62, 63, 64, 65, 66, 67, 68, 69, 70, 71, 72, 73, 74, 75, 76, 77, 78, 79, 80, 81, 82, 83, 84, 85, 86, 87, 88, 89, 90, 91, 92, 93, 94, 95, 96] (by decide +kernel) (by decide +kernel)
set_option maxRecDepth 20000 in
theorem gX12_gone_X12_isThing : GoodIn wsX12_gone (wsV RX12 415 RX12 yX12_isThing wsX12_isThing) := goodIn_app (goodIn_of _ (by decide +kernel)) ggX12_gone_X12_isThing
set_option maxRecDepth 20000 in
theorem ggX12_gone_X12_fact : GoodIn wsX12_gone wsX12_fact := goodIn_r _ [10, 11, 12, 13, 14, 15, 16, 17, 18, 19, 20, 21, 22, 23, 24, 25, 26, 27, 28, 29, 30, 31, 32, 33, 34, 35, 36, 37, 38, 39, 40, 41, 42, 43, 44, 45, 46, 47, 48, 49, 50, 51, 52, 53, 54, 55, 56, 57, 58, 59, 60, 61, 62, 63, 64, 65, 66, 67, 68, 69, 70, 71, 72, 73, 74, 75, 76, 77, 78, 79, 80, 81, 82, 83, 84, 85, 86, 87, 88, 89, 90, 91, 92, 93, 94, 95, 96] (by decide +kernel) (by decide +kernel)
set_option maxRecDepth 20000 in
theorem gX12_gone_X12_fact : GoodIn wsX12_gone (wsV RX12 411 RX12 yX12_fact wsX12_fact) := goodIn_app (goodIn_of _ (by decide +kernel)) ggX12_gone_X12_fact
theorem dX12_gone_0 : decode cX12_gone 0 = .ok (.aload_n 0, 1) := by decide +kernel
theorem dX12_gone_1 : decode cX12_gone 1 = .ok (.iload_n 1, 1) := by decide +kernel
theorem dX12_gone_2 : decode cX12_gone 2 = .ok (.invokevirtual 415, 3) := by decide +kernel
theorem dX12_gone_5 : decode cX12_gone 5 = .ok (.ifCond .eq 14, 3) := by decide +kernel
theorem dX12_gone_8 : decode cX12_gone 8 = .ok (.aload_n 0, 1) := by decide +kernel
theorem dX12_gone_9 : decode cX12_gone 9 = .ok (.iconst 2, 1) := by decide +kernel
theorem dX12_gone_10 : decode cX12_gone 10 = .ok (.iload_n 1, 1) := by decide +kernel
theorem dX12_gone_11 : decode cX12_gone 11 = .ok (.iconst 0, 1) := by decide +kernel
theorem dX12_gone_12 : decode cX12_gone 12 = .ok (.iconst 0, 1) := by decide +kernel
theorem dX12_gone_13 : decode cX12_gone 13 = .ok (.invokevirtual 411, 3) := by decide +kernel
theorem dX12_gone_16 : decode cX12_gone 16 = .ok (.goto 4, 3) := by decide +kernel
theorem dX12_gone_19 : decode cX12_gone 19 = .ok (.iconst (-1), 1) := by decide +kernel
theorem dX12_gone_20 : decode cX12_gone 20 = .ok (.ireturn, 1) := by decide +kernel
set_option maxRecDepth 20000 in
theorem ggX12_date_X12_isThing : GoodIn wsX12_date wsX12_isThing := goodIn_r _ [5, 6, 19, 20, 21, 22, 23, 24, 25, 26, 27, 28, 29, 30, 31, 32, 33, 34, 35, 36, 37, 38, 39, 40, 41, 42, 43, 44, 45, 46, 47, 48, 49, 50, 51, 52, 53, 54, 55, 56, 57, 58, 59, 60, 61, 62, 63, 64, 65, 66, 67, 68, 69, 70, 71, 72, 73, 74, 75, 76, 77, 78, 79, 80, 81, 82, 83, 84, 85, 86, 87, 88, 89, 90, 91, 92, 93, 94, 95, 96, 97, 98, 99] (by decide +kernel) (by decide +kernel)
set_option maxRecDepth 20000 in
theorem gX12_date_X12_isThing : GoodIn wsX12_date (wsV RX12 415 RX12 yX12_isThing wsX12_isThing) := goodIn_app (goodIn_of _ (by decide +kernel)) ggX12_date_X12_isThing
set_option maxRecDepth 20000 in
theorem ggX12_date_X12_isIn : GoodIn wsX12_date wsX12_isIn := goodIn_r _ [9] (by decide +kernel) (by decide +kernel)
set_option maxRecDepth 20000 in
theorem gX12_date_X12_isIn : GoodIn wsX12_date (va_wsS RX12 407 yX12_isIn wsX12_isIn) := goodIn_app (goodIn_of _ (by decide +kernel)) ggX12_date_X12_isIn
set_option maxRecDepth 20000 in
theorem ggX12_date_X12_fact : GoodIn wsX12_date wsX12_fact := goodIn_r _ [13, 14, 15, 16, 17, 18, 19, 20, 21, 22, 23, 24, 25, 26, 27, 28, 29, 30, 31, 32, 33, 34, 35, 36, 37, 38, 39, 40, 41, 42, 43, 44, 45, 46, 47, 48, 49, 50, 51, 52, 53, 54, 55, 56, 57, 58, 59, 60, 61, 62, 63, 64, 65, 66, 67, 68, 69, 70, 71, 72, 73, 74, 75, 76, 77, 78, 79, 80, 81, 82, 83, 84, 85, 86, 87, 88, 89, 90, 91, 92, 93, 94, 95, 96, 97, 98, 99] (by decide +kernel) (by decide +kernel)
set_option maxRecDepth 20000 in
theorem gX12_date_X12_fact : GoodIn wsX12_date (wsV RX12 411 RX12 yX12_fact wsX12_fact) := goodIn_app (goodIn_of _ (by decide +kernel)) ggX12_date_X12_fact
theorem dX12_date_0 : decode cX12_date 0 = .ok (.aload_n 0, 1) := by decide +kernel
theorem dX12_date_1 : decode cX12_date 1 = .ok (.iload_n 1, 1) := by decide +kernel
theorem dX12_date_2 : decode cX12_date 2 = .ok (.invokevirtual 415, 3) := by decide +kernel
theorem dX12_date_5 : decode cX12_date 5 = .ok (.ifCond .eq 25, 3) := by decide +kernel
theorem dX12_date_8 : decode cX12_date 8 = .ok (.iload_n 2, 1) := by decide +kernel
theorem dX12_date_9 : decode cX12_date 9 = .ok (.iconst 0, 1) := by decide +kernel
theorem dX12_date_10 : decode cX12_date 10 = .ok (.sipush 9999, 3) := by decide +kernel
theorem dX12_date_13 : decode cX12_date 13 = .ok (.invokestatic 407, 3) := by decide +kernel
theorem dX12_date_16 : decode cX12_date 16 = .ok (.ifCond .eq 14, 3) := by decide +kernel
theorem dX12_date_19 : decode cX12_date 19 = .ok (.aload_n 0, 1) := by decide +kernel
theorem dX12_date_20 : decode cX12_date 20 = .ok (.iconst 3, 1) := by decide +kernel
theorem dX12_date_21 : decode cX12_date 21 = .ok (.iload_n 1, 1) := by decide +kernel
theorem dX12_date_22 : decode cX12_date 22 = .ok (.iload_n 2, 1) := by decide +kernel
theorem dX12_date_23 : decode cX12_date 23 = .ok (.iconst 0, 1) := by decide +kernel
theorem dX12_date_24 : decode cX12_date 24 = .ok (.invokevirtual 411, 3) := by decide +kernel
theorem dX12_date_27 : decode cX12_date 27 = .ok (.goto 4, 3) := by decide +kernel
theorem dX12_date_30 : decode cX12_date 30 = .ok (.iconst (-1), 1) := by decide +kernel
theorem dX12_date_31 : decode cX12_date 31 = .ok (.ireturn, 1) := by decide +kernel
set_option maxRecDepth 20000 in
theorem ggX12_annul_X12_isIn : GoodIn wsX12_annul wsX12_isIn := goodIn_r _ [6] (by decide +kernel) (by decide +kernel)
set_option maxRecDepth 20000 in
theorem gX12_annul_X12_isIn : GoodIn wsX12_annul (va_wsS RX12 407 yX12_isIn wsX12_isIn) := goodIn_app (goodIn_of _ (by decide +kernel)) ggX12_annul_X12_isIn
set_option maxRecDepth 20000 in
theorem ggX12_annul_X12_fact : GoodIn wsX12_annul wsX12_fact := goodIn_r _ [10, 1, 2, 11, 12, 13, 14, 15, 16, 17, 18, 19, 20, 21, 22, 23, 24, 25, 26, 27, 28, 29, 30, 31, 32, 33, 34, 35, 36, 37, 38, 39, 40, 41, 42, 43, 44, 45, 46, 47, 48, 49, 50, 51, 52, 53, 54, 55, 56, 57, 58, 59, 60, 61, 62, 63, 64, 65, 66, 67, 68, 69, 70, 71, 72, 73, 74, 75, 76, 77, 78, 79, 80, 81, 82, 83, 84, 85, 86, 87, 88, 89, 90, 91, 92, 93, 94] (by decide +kernel) (by decide +kernel)
set_option maxRecDepth 20000 in
theorem gX12_annul_X12_fact : GoodIn wsX12_annul (wsV RX12 411 RX12 yX12_fact wsX12_fact) := goodIn_app (goodIn_of _ (by decide +kernel)) ggX12_annul_X12_fact
theorem dX12_annul_0 : decode cX12_annul 0 = .ok (.iload_n 1, 1) := by decide +kernel
theorem dX12_annul_1 : decode cX12_annul 1 = .ok (.iconst 0, 1) := by decide +kernel
theorem dX12_annul_2 : decode cX12_annul 2 = .ok (.aload_n 0, 1) := by decide +kernel
theorem dX12_annul_3 : decode cX12_annul 3 = .ok (.getfield 127, 3) := by decide +kernel
theorem dX12_annul_6 : decode cX12_annul 6 = .ok (.iconst 0, 1) := by decide +kernel
theorem dX12_annul_7 : decode cX12_annul 7 = .ok (.iaload, 1) := by decide +kernel
theorem dX12_annul_8 : decode cX12_annul 8 = .ok (.iconst 1, 1) := by decide +kernel
theorem dX12_annul_9 : decode cX12_annul 9 = .ok (.isub, 1) := by decide +kernel
theorem dX12_annul_10 : decode cX12_annul 10 = .ok (.invokestatic 407, 3) := by decide +kernel
theorem dX12_annul_13 : decode cX12_annul 13 = .ok (.ifCond .eq 24, 3) := by decide +kernel
theorem dX12_annul_16 : decode cX12_annul 16 = .ok (.aload_n 0, 1) := by decide +kernel
theorem dX12_annul_17 : decode cX12_annul 17 = .ok (.getfield 130, 3) := by decide +kernel
theorem dX12_annul_20 : decode cX12_annul 20 = .ok (.iload_n 1, 1) := by decide +kernel
theorem dX12_annul_21 : decode cX12_annul 21 = .ok (.iaload, 1) := by decide +kernel
theorem dX12_annul_22 : decode cX12_annul 22 = .ok (.iconst 4, 1) := by decide +kernel
theorem dX12_annul_23 : decode cX12_annul 23 = .ok (.if_icmp .eq 14, 3) := by decide +kernel
theorem dX12_annul_26 : decode cX12_annul 26 = .ok (.aload_n 0, 1) := by decide +kernel
theorem dX12_annul_27 : decode cX12_annul 27 = .ok (.iconst 4, 1) := by decide +kernel
theorem dX12_annul_28 : decode cX12_annul 28 = .ok (.iconst (-1), 1) := by decide +kernel
theorem dX12_annul_29 : decode cX12_annul 29 = .ok (.iload_n 1, 1) := by decide +kernel
theorem dX12_annul_30 : decode cX12_annul 30 = .ok (.iconst 0, 1) := by decide +kernel
theorem dX12_annul_31 : decode cX12_annul 31 = .ok (.invokevirtual 411, 3) := by decide +kernel
theorem dX12_annul_34 : decode cX12_annul 34 = .ok (.goto 4, 3) := by decide +kernel
theorem dX12_annul_37 : decode cX12_annul 37 = .ok (.iconst (-1), 1) := by decide +kernel
theorem dX12_annul_38 : decode cX12_annul 38 = .ok (.ireturn, 1) := by decide +kernel
theorem dX12_isKnown_0 : decode cX12_isKnown 0 = .ok (.iload_n 1, 1) := by decide +kernel
theorem dX12_isKnown_1 : decode cX12_isKnown 1 = .ok (.ifCond .lt 17, 3) := by decide +kernel
theorem dX12_isKnown_4 : decode cX12_isKnown 4 = .ok (.iload_n 1, 1) := by decide +kernel
theorem dX12_isKnown_5 : decode cX12_isKnown 5 = .ok (.aload_n 0, 1) := by decide +kernel
theorem dX12_isKnown_6 : decode cX12_isKnown 6 = .ok (.getfield 127, 3) := by decide +kernel
theorem dX12_isKnown_9 : decode cX12_isKnown 9 = .ok (.iconst 0, 1) := by decide +kernel
theorem dX12_isKnown_10 : decode cX12_isKnown 10 = .ok (.iaload, 1) := by decide +kernel
theorem dX12_isKnown_11 : decode cX12_isKnown 11 = .ok (.if_icmp .gt 7, 3) := by decide +kernel
theorem dX12_isKnown_14 : decode cX12_isKnown 14 = .ok (.iconst 1, 1) := by decide +kernel
theorem dX12_isKnown_15 : decode cX12_isKnown 15 = .ok (.goto 4, 3) := by decide +kernel
theorem dX12_isKnown_18 : decode cX12_isKnown 18 = .ok (.iconst 0, 1) := by decide +kernel
theorem dX12_isKnown_19 : decode cX12_isKnown 19 = .ok (.ireturn, 1) := by decide +kernel
theorem dX12_isLive_0 : decode cX12_isLive 0 = .ok (.iload_n 1, 1) := by decide +kernel
theorem dX12_isLive_1 : decode cX12_isLive 1 = .ok (.iload_n 2, 1) := by decide +kernel
theorem dX12_isLive_2 : decode cX12_isLive 2 = .ok (.if_icmp .lt 5, 3) := by decide +kernel
theorem dX12_isLive_5 : decode cX12_isLive 5 = .ok (.iconst 0, 1) := by decide +kernel
theorem dX12_isLive_6 : decode cX12_isLive 6 = .ok (.ireturn, 1) := by decide +kernel
theorem dX12_isLive_7 : decode cX12_isLive 7 = .ok (.iload_n 1, 1) := by decide +kernel
theorem dX12_isLive_8 : decode cX12_isLive 8 = .ok (.iconst 1, 1) := by decide +kernel
theorem dX12_isLive_9 : decode cX12_isLive 9 = .ok (.iadd, 1) := by decide +kernel
theorem dX12_isLive_10 : decode cX12_isLive 10 = .ok (.istore_n 3, 1) := by decide +kernel
theorem dX12_isLive_11 : decode cX12_isLive 11 = .ok (.iload_n 3, 1) := by decide +kernel
theorem dX12_isLive_12 : decode cX12_isLive 12 = .ok (.iload_n 2, 1) := by decide +kernel
theorem dX12_isLive_13 : decode cX12_isLive 13 = .ok (.if_icmp .ge 31, 3) := by decide +kernel
theorem dX12_isLive_16 : decode cX12_isLive 16 = .ok (.aload_n 0, 1) := by decide +kernel
theorem dX12_isLive_17 : decode cX12_isLive 17 = .ok (.getfield 130, 3) := by decide +kernel
theorem dX12_isLive_20 : decode cX12_isLive 20 = .ok (.iload_n 3, 1) := by decide +kernel
theorem dX12_isLive_21 : decode cX12_isLive 21 = .ok (.iaload, 1) := by decide +kernel
theorem dX12_isLive_22 : decode cX12_isLive 22 = .ok (.iconst 4, 1) := by decide +kernel
theorem dX12_isLive_23 : decode cX12_isLive 23 = .ok (.if_icmp .ne 15, 3) := by decide +kernel
theorem dX12_isLive_26 : decode cX12_isLive 26 = .ok (.aload_n 0, 1) := by decide +kernel
theorem dX12_isLive_27 : decode cX12_isLive 27 = .ok (.getfield 136, 3) := by decide +kernel
theorem dX12_isLive_30 : decode cX12_isLive 30 = .ok (.iload_n 3, 1) := by decide +kernel
theorem dX12_isLive_31 : decode cX12_isLive 31 = .ok (.iaload, 1) := by decide +kernel
theorem dX12_isLive_32 : decode cX12_isLive 32 = .ok (.iload_n 1, 1) := by decide +kernel
theorem dX12_isLive_33 : decode cX12_isLive 33 = .ok (.if_icmp .ne 5, 3) := by decide +kernel
theorem dX12_isLive_36 : decode cX12_isLive 36 = .ok (.iconst 0, 1) := by decide +kernel
theorem dX12_isLive_37 : decode cX12_isLive 37 = .ok (.ireturn, 1) := by decide +kernel
theorem dX12_isLive_38 : decode cX12_isLive 38 = .ok (.iinc 3 1, 3) := by decide +kernel
theorem dX12_isLive_41 : decode cX12_isLive 41 = .ok (.goto (-30), 3) := by decide +kernel
theorem dX12_isLive_44 : decode cX12_isLive 44 = .ok (.iconst 1, 1) := by decide +kernel
theorem dX12_isLive_45 : decode cX12_isLive 45 = .ok (.ireturn, 1) := by decide +kernel
set_option maxRecDepth 20000 in
theorem ggX12_lastOf_X12_isLive : GoodIn wsX12_lastOf wsX12_isLive := goodIn_r _ [7, 1, 8, 9, 10, 11, 12, 13, 14, 15, 16, 17, 18, 19, 20, 21, 22, 23, 24, 25, 26, 27, 28, 29, 30, 31, 32, 33, 34, 35, 36, 37, 38, 39, 40, 41, 42, 43, 44, 45, 46, 47, 48, 49, 50, 51, 52, 53, 54, 55, 56, 57, 58, 59, 60, 61, 62, 63, 64, 65, 66, 67, 68, 69, 70, 71, 72, 73, 74, 75, 76, 77, 78, 79, 80, 81, 82, 83, 84, 85, 86, 87, 88, 89] (by decide +kernel) (by decide +kernel)
set_option maxRecDepth 20000 in
theorem gX12_lastOf_X12_isLive : GoodIn wsX12_lastOf (wsV RX12 418 RX12 yX12_isLive wsX12_isLive) := goodIn_app (goodIn_of _ (by decide +kernel)) ggX12_lastOf_X12_isLive
theorem dX12_lastOf_0 : decode cX12_lastOf 0 = .ok (.iload_n 3, 1) := by decide +kernel
theorem dX12_lastOf_1 : decode cX12_lastOf 1 = .ok (.iconst 1, 1) := by decide +kernel
theorem dX12_lastOf_2 : decode cX12_lastOf 2 = .ok (.isub, 1) := by decide +kernel
theorem dX12_lastOf_3 : decode cX12_lastOf 3 = .ok (.istore 4, 2) := by decide +kernel
theorem dX12_lastOf_5 : decode cX12_lastOf 5 = .ok (.iload 4, 2) := by decide +kernel
theorem dX12_lastOf_7 : decode cX12_lastOf 7 = .ok (.ifCond .lt 44, 3) := by decide +kernel
theorem dX12_lastOf_10 : decode cX12_lastOf 10 = .ok (.aload_n 0, 1) := by decide +kernel
theorem dX12_lastOf_11 : decode cX12_lastOf 11 = .ok (.getfield 130, 3) := by decide +kernel
theorem dX12_lastOf_14 : decode cX12_lastOf 14 = .ok (.iload 4, 2) := by decide +kernel
theorem dX12_lastOf_16 : decode cX12_lastOf 16 = .ok (.iaload, 1) := by decide +kernel
theorem dX12_lastOf_17 : decode cX12_lastOf 17 = .ok (.iload_n 2, 1) := by decide +kernel
theorem dX12_lastOf_18 : decode cX12_lastOf 18 = .ok (.if_icmp .ne 27, 3) := by decide +kernel
theorem dX12_lastOf_21 : decode cX12_lastOf 21 = .ok (.aload_n 0, 1) := by decide +kernel
theorem dX12_lastOf_22 : decode cX12_lastOf 22 = .ok (.getfield 133, 3) := by decide +kernel
theorem dX12_lastOf_25 : decode cX12_lastOf 25 = .ok (.iload 4, 2) := by decide +kernel
theorem dX12_lastOf_27 : decode cX12_lastOf 27 = .ok (.iaload, 1) := by decide +kernel
theorem dX12_lastOf_28 : decode cX12_lastOf 28 = .ok (.iload_n 1, 1) := by decide +kernel
theorem dX12_lastOf_29 : decode cX12_lastOf 29 = .ok (.if_icmp .ne 16, 3) := by decide +kernel
theorem dX12_lastOf_32 : decode cX12_lastOf 32 = .ok (.aload_n 0, 1) := by decide +kernel
theorem dX12_lastOf_33 : decode cX12_lastOf 33 = .ok (.iload 4, 2) := by decide +kernel
theorem dX12_lastOf_35 : decode cX12_lastOf 35 = .ok (.iload_n 3, 1) := by decide +kernel
theorem dX12_lastOf_36 : decode cX12_lastOf 36 = .ok (.invokevirtual 418, 3) := by decide +kernel
theorem dX12_lastOf_39 : decode cX12_lastOf 39 = .ok (.ifCond .eq 6, 3) := by decide +kernel
theorem dX12_lastOf_42 : decode cX12_lastOf 42 = .ok (.iload 4, 2) := by decide +kernel
theorem dX12_lastOf_44 : decode cX12_lastOf 44 = .ok (.ireturn, 1) := by decide +kernel
theorem dX12_lastOf_45 : decode cX12_lastOf 45 = .ok (.iinc 4 (-1), 3) := by decide +kernel
theorem dX12_lastOf_48 : decode cX12_lastOf 48 = .ok (.goto (-43), 3) := by decide +kernel
theorem dX12_lastOf_51 : decode cX12_lastOf 51 = .ok (.iconst (-1), 1) := by decide +kernel
theorem dX12_lastOf_52 : decode cX12_lastOf 52 = .ok (.ireturn, 1) := by decide +kernel
set_option maxRecDepth 20000 in
theorem ggX12_layThings_X12_lastOf : GoodIn wsX12_layThings wsX12_lastOf := goodIn_r _ [16, 17, 18, 19, 20, 21, 15, 22, 4, 23, 24, 25, 26, 27, 28, 29, 30, 31, 32, 33, 34, 35, 36, 37, 38, 39, 40, 41, 42, 43, 44, 45, 46, 47, 48, 49, 50, 51, 52, 53, 54, 55, 56, 57, 58, 59, 60, 61, 62, 63, 64, 65, 66, 67, 68, 69, 70, 71, 72, 73, 74, 75, 76, 77, 78, 79, 80, 81, 82, 83, 84, 85, 86, 87, 88, 89, 90, 91, 92, 93, 94, 95, 96, 97, 98, 99, 100, 101, 102, 103] (by decide +kernel) (by decide +kernel)
set_option maxRecDepth 20000 in
theorem gX12_layThings_X12_lastOf : GoodIn wsX12_layThings (wsV RX12 421 RX12 yX12_lastOf wsX12_lastOf) := goodIn_app (goodIn_of _ (by decide +kernel)) ggX12_layThings_X12_lastOf
set_option maxRecDepth 20000 in
theorem ggX12_layThings_X12_isLive : GoodIn wsX12_layThings wsX12_isLive := goodIn_r _ [22, 17, 4, 23, 24, 25, 26, 27, 28, 29, 30, 31, 32, 33, 34, 35, 36, 37, 38, 39, 40, 41, 42, 43, 44, 45, 46, 47, 48, 49, 50, 51, 52, 53, 54, 55, 56, 57, 58, 59, 60, 61, 62, 63, 64, 65, 66, 67, 68, 69, 70, 71, 72, 73, 74, 75, 76, 77, 78, 79, 80, 81, 82, 83, 84, 85, 86, 87, 88, 89, 90, 91, 92, 93, 94, 95, 96, 97, 98, 99, 100, 101, 102, 103] (by decide +kernel) (by decide +kernel)
set_option maxRecDepth 20000 in
theorem gX12_layThings_X12_isLive : GoodIn wsX12_layThings (wsV RX12 418 RX12 yX12_isLive wsX12_isLive) := goodIn_app (goodIn_of _ (by decide +kernel)) ggX12_layThings_X12_isLive
theorem dX12_layThings_0 : decode cX12_layThings 0 = .ok (.iconst 0, 1) := by decide +kernel
theorem dX12_layThings_1 : decode cX12_layThings 1 = .ok (.istore_n 2, 1) := by decide +kernel
theorem dX12_layThings_2 : decode cX12_layThings 2 = .ok (.iload_n 2, 1) := by decide +kernel
theorem dX12_layThings_3 : decode cX12_layThings 3 = .ok (.aload_n 0, 1) := by decide +kernel
theorem dX12_layThings_4 : decode cX12_layThings 4 = .ok (.getfield 37, 3) := by decide +kernel
theorem dX12_layThings_7 : decode cX12_layThings 7 = .ok (.iconst 0, 1) := by decide +kernel
theorem dX12_layThings_8 : decode cX12_layThings 8 = .ok (.iaload, 1) := by decide +kernel
theorem dX12_layThings_9 : decode cX12_layThings 9 = .ok (.if_icmp .ge 147, 3) := by decide +kernel
theorem dX12_layThings_12 : decode cX12_layThings 12 = .ok (.aload_n 0, 1) := by decide +kernel
theorem dX12_layThings_13 : decode cX12_layThings 13 = .ok (.iload_n 2, 1) := by decide +kernel
theorem dX12_layThings_14 : decode cX12_layThings 14 = .ok (.iconst 1, 1) := by decide +kernel
theorem dX12_layThings_15 : decode cX12_layThings 15 = .ok (.iload_n 1, 1) := by decide +kernel
theorem dX12_layThings_16 : decode cX12_layThings 16 = .ok (.invokevirtual 421, 3) := by decide +kernel
theorem dX12_layThings_19 : decode cX12_layThings 19 = .ok (.istore_n 3, 1) := by decide +kernel
theorem dX12_layThings_20 : decode cX12_layThings 20 = .ok (.aload_n 0, 1) := by decide +kernel
theorem dX12_layThings_21 : decode cX12_layThings 21 = .ok (.getfield 157, 3) := by decide +kernel
theorem dX12_layThings_24 : decode cX12_layThings 24 = .ok (.iload_n 2, 1) := by decide +kernel
theorem dX12_layThings_25 : decode cX12_layThings 25 = .ok (.iload_n 3, 1) := by decide +kernel
theorem dX12_layThings_26 : decode cX12_layThings 26 = .ok (.ifCond .ge 12, 3) := by decide +kernel
theorem dX12_layThings_29 : decode cX12_layThings 29 = .ok (.aload_n 0, 1) := by decide +kernel
theorem dX12_layThings_30 : decode cX12_layThings 30 = .ok (.getfield 43, 3) := by decide +kernel
theorem dX12_layThings_33 : decode cX12_layThings 33 = .ok (.iload_n 2, 1) := by decide +kernel
theorem dX12_layThings_34 : decode cX12_layThings 34 = .ok (.iaload, 1) := by decide +kernel
theorem dX12_layThings_35 : decode cX12_layThings 35 = .ok (.goto 9, 3) := by decide +kernel
theorem dX12_layThings_38 : decode cX12_layThings 38 = .ok (.aload_n 0, 1) := by decide +kernel
theorem dX12_layThings_39 : decode cX12_layThings 39 = .ok (.getfield 136, 3) := by decide +kernel
theorem dX12_layThings_42 : decode cX12_layThings 42 = .ok (.iload_n 3, 1) := by decide +kernel
theorem dX12_layThings_43 : decode cX12_layThings 43 = .ok (.iaload, 1) := by decide +kernel
theorem dX12_layThings_44 : decode cX12_layThings 44 = .ok (.iastore, 1) := by decide +kernel
theorem dX12_layThings_45 : decode cX12_layThings 45 = .ok (.aload_n 0, 1) := by decide +kernel
theorem dX12_layThings_46 : decode cX12_layThings 46 = .ok (.getfield 160, 3) := by decide +kernel
theorem dX12_layThings_49 : decode cX12_layThings 49 = .ok (.iload_n 2, 1) := by decide +kernel
theorem dX12_layThings_50 : decode cX12_layThings 50 = .ok (.iload_n 3, 1) := by decide +kernel
theorem dX12_layThings_51 : decode cX12_layThings 51 = .ok (.ifCond .ge 12, 3) := by decide +kernel
theorem dX12_layThings_54 : decode cX12_layThings 54 = .ok (.aload_n 0, 1) := by decide +kernel
theorem dX12_layThings_55 : decode cX12_layThings 55 = .ok (.getfield 46, 3) := by decide +kernel
theorem dX12_layThings_58 : decode cX12_layThings 58 = .ok (.iload_n 2, 1) := by decide +kernel
theorem dX12_layThings_59 : decode cX12_layThings 59 = .ok (.iaload, 1) := by decide +kernel
theorem dX12_layThings_60 : decode cX12_layThings 60 = .ok (.goto 9, 3) := by decide +kernel
theorem dX12_layThings_63 : decode cX12_layThings 63 = .ok (.aload_n 0, 1) := by decide +kernel
theorem dX12_layThings_64 : decode cX12_layThings 64 = .ok (.getfield 139, 3) := by decide +kernel
theorem dX12_layThings_67 : decode cX12_layThings 67 = .ok (.iload_n 3, 1) := by decide +kernel
theorem dX12_layThings_68 : decode cX12_layThings 68 = .ok (.iaload, 1) := by decide +kernel
theorem dX12_layThings_69 : decode cX12_layThings 69 = .ok (.iastore, 1) := by decide +kernel
theorem dX12_layThings_70 : decode cX12_layThings 70 = .ok (.aload_n 0, 1) := by decide +kernel
theorem dX12_layThings_71 : decode cX12_layThings 71 = .ok (.iload_n 2, 1) := by decide +kernel
theorem dX12_layThings_72 : decode cX12_layThings 72 = .ok (.iconst 3, 1) := by decide +kernel
theorem dX12_layThings_73 : decode cX12_layThings 73 = .ok (.iload_n 1, 1) := by decide +kernel
theorem dX12_layThings_74 : decode cX12_layThings 74 = .ok (.invokevirtual 421, 3) := by decide +kernel
theorem dX12_layThings_77 : decode cX12_layThings 77 = .ok (.istore 4, 2) := by decide +kernel
theorem dX12_layThings_79 : decode cX12_layThings 79 = .ok (.aload_n 0, 1) := by decide +kernel
theorem dX12_layThings_80 : decode cX12_layThings 80 = .ok (.getfield 163, 3) := by decide +kernel
theorem dX12_layThings_83 : decode cX12_layThings 83 = .ok (.iload_n 2, 1) := by decide +kernel
theorem dX12_layThings_84 : decode cX12_layThings 84 = .ok (.iload 4, 2) := by decide +kernel
theorem dX12_layThings_86 : decode cX12_layThings 86 = .ok (.ifCond .ge 12, 3) := by decide +kernel
theorem dX12_layThings_89 : decode cX12_layThings 89 = .ok (.aload_n 0, 1) := by decide +kernel
theorem dX12_layThings_90 : decode cX12_layThings 90 = .ok (.getfield 49, 3) := by decide +kernel
theorem dX12_layThings_93 : decode cX12_layThings 93 = .ok (.iload_n 2, 1) := by decide +kernel
theorem dX12_layThings_94 : decode cX12_layThings 94 = .ok (.iaload, 1) := by decide +kernel
theorem dX12_layThings_95 : decode cX12_layThings 95 = .ok (.goto 10, 3) := by decide +kernel
theorem dX12_layThings_98 : decode cX12_layThings 98 = .ok (.aload_n 0, 1) := by decide +kernel
theorem dX12_layThings_99 : decode cX12_layThings 99 = .ok (.getfield 136, 3) := by decide +kernel
theorem dX12_layThings_102 : decode cX12_layThings 102 = .ok (.iload 4, 2) := by decide +kernel
theorem dX12_layThings_104 : decode cX12_layThings 104 = .ok (.iaload, 1) := by decide +kernel
theorem dX12_layThings_105 : decode cX12_layThings 105 = .ok (.iastore, 1) := by decide +kernel
theorem dX12_layThings_106 : decode cX12_layThings 106 = .ok (.aload_n 0, 1) := by decide +kernel
theorem dX12_layThings_107 : decode cX12_layThings 107 = .ok (.getfield 166, 3) := by decide +kernel
theorem dX12_layThings_110 : decode cX12_layThings 110 = .ok (.iload_n 2, 1) := by decide +kernel
theorem dX12_layThings_111 : decode cX12_layThings 111 = .ok (.aload_n 0, 1) := by decide +kernel
theorem dX12_layThings_112 : decode cX12_layThings 112 = .ok (.iload_n 2, 1) := by decide +kernel
theorem dX12_layThings_113 : decode cX12_layThings 113 = .ok (.iconst 2, 1) := by decide +kernel
theorem dX12_layThings_114 : decode cX12_layThings 114 = .ok (.iload_n 1, 1) := by decide +kernel
theorem dX12_layThings_115 : decode cX12_layThings 115 = .ok (.invokevirtual 421, 3) := by decide +kernel
theorem dX12_layThings_118 : decode cX12_layThings 118 = .ok (.ifCond .ge 26, 3) := by decide +kernel
theorem dX12_layThings_121 : decode cX12_layThings 121 = .ok (.aload_n 0, 1) := by decide +kernel
theorem dX12_layThings_122 : decode cX12_layThings 122 = .ok (.getfield 52, 3) := by decide +kernel
theorem dX12_layThings_125 : decode cX12_layThings 125 = .ok (.iload_n 2, 1) := by decide +kernel
theorem dX12_layThings_126 : decode cX12_layThings 126 = .ok (.iaload, 1) := by decide +kernel
theorem dX12_layThings_127 : decode cX12_layThings 127 = .ok (.ifCond .lt 21, 3) := by decide +kernel
theorem dX12_layThings_130 : decode cX12_layThings 130 = .ok (.aload_n 0, 1) := by decide +kernel
theorem dX12_layThings_131 : decode cX12_layThings 131 = .ok (.aload_n 0, 1) := by decide +kernel
theorem dX12_layThings_132 : decode cX12_layThings 132 = .ok (.getfield 52, 3) := by decide +kernel
theorem dX12_layThings_135 : decode cX12_layThings 135 = .ok (.iload_n 2, 1) := by decide +kernel
theorem dX12_layThings_136 : decode cX12_layThings 136 = .ok (.iaload, 1) := by decide +kernel
theorem dX12_layThings_137 : decode cX12_layThings 137 = .ok (.iload_n 1, 1) := by decide +kernel
theorem dX12_layThings_138 : decode cX12_layThings 138 = .ok (.invokevirtual 418, 3) := by decide +kernel
theorem dX12_layThings_141 : decode cX12_layThings 141 = .ok (.ifCond .ne 7, 3) := by decide +kernel
theorem dX12_layThings_144 : decode cX12_layThings 144 = .ok (.iconst 1, 1) := by decide +kernel
theorem dX12_layThings_145 : decode cX12_layThings 145 = .ok (.goto 4, 3) := by decide +kernel
theorem dX12_layThings_148 : decode cX12_layThings 148 = .ok (.iconst 0, 1) := by decide +kernel
theorem dX12_layThings_149 : decode cX12_layThings 149 = .ok (.bastore, 1) := by decide +kernel
theorem dX12_layThings_150 : decode cX12_layThings 150 = .ok (.iinc 2 1, 3) := by decide +kernel
theorem dX12_layThings_153 : decode cX12_layThings 153 = .ok (.goto (-151), 3) := by decide +kernel
theorem dX12_layThings_156 : decode cX12_layThings 156 = .ok (.return_, 1) := by decide +kernel
theorem dX12_plain_0 : decode cX12_plain 0 = .ok (.iload_n 0, 1) := by decide +kernel
theorem dX12_plain_1 : decode cX12_plain 1 = .ok (.ifCond .ge 8, 3) := by decide +kernel
theorem dX12_plain_4 : decode cX12_plain 4 = .ok (.iload_n 0, 1) := by decide +kernel
theorem dX12_plain_5 : decode cX12_plain 5 = .ok (.ineg, 1) := by decide +kernel
theorem dX12_plain_6 : decode cX12_plain 6 = .ok (.goto 4, 3) := by decide +kernel
theorem dX12_plain_9 : decode cX12_plain 9 = .ok (.iload_n 0, 1) := by decide +kernel
theorem dX12_plain_10 : decode cX12_plain 10 = .ok (.ireturn, 1) := by decide +kernel
set_option maxRecDepth 20000 in
theorem ggX12_degreeOf_X12_plain : GoodIn wsX12_degreeOf wsX12_plain := goodIn_r _ [4] (by decide +kernel) (by decide +kernel)
set_option maxRecDepth 20000 in
theorem gX12_degreeOf_X12_plain : GoodIn wsX12_degreeOf (va_wsS RX12 425 yX12_plain wsX12_plain) := goodIn_app (goodIn_of _ (by decide +kernel)) ggX12_degreeOf_X12_plain
theorem dX12_degreeOf_0 : decode cX12_degreeOf 0 = .ok (.iload_n 0, 1) := by decide +kernel
theorem dX12_degreeOf_1 : decode cX12_degreeOf 1 = .ok (.invokestatic 425, 3) := by decide +kernel
theorem dX12_degreeOf_4 : decode cX12_degreeOf 4 = .ok (.istore_n 2, 1) := by decide +kernel
theorem dX12_degreeOf_5 : decode cX12_degreeOf 5 = .ok (.iload_n 1, 1) := by decide +kernel
theorem dX12_degreeOf_6 : decode cX12_degreeOf 6 = .ok (.invokestatic 425, 3) := by decide +kernel
theorem dX12_degreeOf_9 : decode cX12_degreeOf 9 = .ok (.istore_n 3, 1) := by decide +kernel
theorem dX12_degreeOf_10 : decode cX12_degreeOf 10 = .ok (.bipush 45, 2) := by decide +kernel
theorem dX12_degreeOf_12 : decode cX12_degreeOf 12 = .ok (.iload_n 2, 1) := by decide +kernel
theorem dX12_degreeOf_13 : decode cX12_degreeOf 13 = .ok (.iload_n 3, 1) := by decide +kernel
theorem dX12_degreeOf_14 : decode cX12_degreeOf 14 = .ok (.if_icmp .ge 7, 3) := by decide +kernel
theorem dX12_degreeOf_17 : decode cX12_degreeOf 17 = .ok (.iload_n 2, 1) := by decide +kernel
theorem dX12_degreeOf_18 : decode cX12_degreeOf 18 = .ok (.goto 4, 3) := by decide +kernel
theorem dX12_degreeOf_21 : decode cX12_degreeOf 21 = .ok (.iload_n 3, 1) := by decide +kernel
theorem dX12_degreeOf_22 : decode cX12_degreeOf 22 = .ok (.imul, 1) := by decide +kernel
theorem dX12_degreeOf_23 : decode cX12_degreeOf 23 = .ok (.iload_n 2, 1) := by decide +kernel
theorem dX12_degreeOf_24 : decode cX12_degreeOf 24 = .ok (.iload_n 3, 1) := by decide +kernel
theorem dX12_degreeOf_25 : decode cX12_degreeOf 25 = .ok (.if_icmp .le 7, 3) := by decide +kernel
theorem dX12_degreeOf_28 : decode cX12_degreeOf 28 = .ok (.iload_n 2, 1) := by decide +kernel
theorem dX12_degreeOf_29 : decode cX12_degreeOf 29 = .ok (.goto 4, 3) := by decide +kernel
theorem dX12_degreeOf_32 : decode cX12_degreeOf 32 = .ok (.iload_n 3, 1) := by decide +kernel
theorem dX12_degreeOf_33 : decode cX12_degreeOf 33 = .ok (.idiv, 1) := by decide +kernel
theorem dX12_degreeOf_34 : decode cX12_degreeOf 34 = .ok (.istore 4, 2) := by decide +kernel
theorem dX12_degreeOf_36 : decode cX12_degreeOf 36 = .ok (.iload_n 0, 1) := by decide +kernel
theorem dX12_degreeOf_37 : decode cX12_degreeOf 37 = .ok (.ifCond .lt 23, 3) := by decide +kernel
theorem dX12_degreeOf_40 : decode cX12_degreeOf 40 = .ok (.iload_n 1, 1) := by decide +kernel
theorem dX12_degreeOf_41 : decode cX12_degreeOf 41 = .ok (.ifCond .le 19, 3) := by decide +kernel
theorem dX12_degreeOf_44 : decode cX12_degreeOf 44 = .ok (.iload_n 2, 1) := by decide +kernel
theorem dX12_degreeOf_45 : decode cX12_degreeOf 45 = .ok (.iload_n 3, 1) := by decide +kernel
theorem dX12_degreeOf_46 : decode cX12_degreeOf 46 = .ok (.if_icmp .gt 8, 3) := by decide +kernel
theorem dX12_degreeOf_49 : decode cX12_degreeOf 49 = .ok (.iload 4, 2) := by decide +kernel
theorem dX12_degreeOf_51 : decode cX12_degreeOf 51 = .ok (.goto 8, 3) := by decide +kernel
theorem dX12_degreeOf_54 : decode cX12_degreeOf 54 = .ok (.bipush 90, 2) := by decide +kernel
theorem dX12_degreeOf_56 : decode cX12_degreeOf 56 = .ok (.iload 4, 2) := by decide +kernel
theorem dX12_degreeOf_58 : decode cX12_degreeOf 58 = .ok (.isub, 1) := by decide +kernel
theorem dX12_degreeOf_59 : decode cX12_degreeOf 59 = .ok (.ireturn, 1) := by decide +kernel
theorem dX12_degreeOf_60 : decode cX12_degreeOf 60 = .ok (.iload_n 0, 1) := by decide +kernel
theorem dX12_degreeOf_61 : decode cX12_degreeOf 61 = .ok (.ifCond .le 23, 3) := by decide +kernel
theorem dX12_degreeOf_64 : decode cX12_degreeOf 64 = .ok (.iload_n 3, 1) := by decide +kernel
theorem dX12_degreeOf_65 : decode cX12_degreeOf 65 = .ok (.iload_n 2, 1) := by decide +kernel
theorem dX12_degreeOf_66 : decode cX12_degreeOf 66 = .ok (.if_icmp .gt 11, 3) := by decide +kernel
theorem dX12_degreeOf_69 : decode cX12_degreeOf 69 = .ok (.bipush 90, 2) := by decide +kernel
theorem dX12_degreeOf_71 : decode cX12_degreeOf 71 = .ok (.iload 4, 2) := by decide +kernel
theorem dX12_degreeOf_73 : decode cX12_degreeOf 73 = .ok (.iadd, 1) := by decide +kernel
theorem dX12_degreeOf_74 : decode cX12_degreeOf 74 = .ok (.goto 9, 3) := by decide +kernel
theorem dX12_degreeOf_77 : decode cX12_degreeOf 77 = .ok (.sipush 180, 3) := by decide +kernel
theorem dX12_degreeOf_80 : decode cX12_degreeOf 80 = .ok (.iload 4, 2) := by decide +kernel
theorem dX12_degreeOf_82 : decode cX12_degreeOf 82 = .ok (.isub, 1) := by decide +kernel
theorem dX12_degreeOf_83 : decode cX12_degreeOf 83 = .ok (.ireturn, 1) := by decide +kernel
theorem dX12_degreeOf_84 : decode cX12_degreeOf 84 = .ok (.iload_n 1, 1) := by decide +kernel
theorem dX12_degreeOf_85 : decode cX12_degreeOf 85 = .ok (.ifCond .ge 24, 3) := by decide +kernel
theorem dX12_degreeOf_88 : decode cX12_degreeOf 88 = .ok (.iload_n 2, 1) := by decide +kernel
theorem dX12_degreeOf_89 : decode cX12_degreeOf 89 = .ok (.iload_n 3, 1) := by decide +kernel
theorem dX12_degreeOf_90 : decode cX12_degreeOf 90 = .ok (.if_icmp .gt 12, 3) := by decide +kernel
theorem dX12_degreeOf_93 : decode cX12_degreeOf 93 = .ok (.sipush 180, 3) := by decide +kernel
theorem dX12_degreeOf_96 : decode cX12_degreeOf 96 = .ok (.iload 4, 2) := by decide +kernel
theorem dX12_degreeOf_98 : decode cX12_degreeOf 98 = .ok (.iadd, 1) := by decide +kernel
theorem dX12_degreeOf_99 : decode cX12_degreeOf 99 = .ok (.goto 9, 3) := by decide +kernel
theorem dX12_degreeOf_102 : decode cX12_degreeOf 102 = .ok (.sipush 270, 3) := by decide +kernel
theorem dX12_degreeOf_105 : decode cX12_degreeOf 105 = .ok (.iload 4, 2) := by decide +kernel
theorem dX12_degreeOf_107 : decode cX12_degreeOf 107 = .ok (.isub, 1) := by decide +kernel
theorem dX12_degreeOf_108 : decode cX12_degreeOf 108 = .ok (.ireturn, 1) := by decide +kernel
theorem dX12_degreeOf_109 : decode cX12_degreeOf 109 = .ok (.iload_n 3, 1) := by decide +kernel
theorem dX12_degreeOf_110 : decode cX12_degreeOf 110 = .ok (.iload_n 2, 1) := by decide +kernel
theorem dX12_degreeOf_111 : decode cX12_degreeOf 111 = .ok (.if_icmp .gt 12, 3) := by decide +kernel
theorem dX12_degreeOf_114 : decode cX12_degreeOf 114 = .ok (.sipush 270, 3) := by decide +kernel
theorem dX12_degreeOf_117 : decode cX12_degreeOf 117 = .ok (.iload 4, 2) := by decide +kernel
theorem dX12_degreeOf_119 : decode cX12_degreeOf 119 = .ok (.iadd, 1) := by decide +kernel
theorem dX12_degreeOf_120 : decode cX12_degreeOf 120 = .ok (.goto 9, 3) := by decide +kernel
theorem dX12_degreeOf_123 : decode cX12_degreeOf 123 = .ok (.sipush 360, 3) := by decide +kernel
theorem dX12_degreeOf_126 : decode cX12_degreeOf 126 = .ok (.iload 4, 2) := by decide +kernel
theorem dX12_degreeOf_128 : decode cX12_degreeOf 128 = .ok (.isub, 1) := by decide +kernel
theorem dX12_degreeOf_129 : decode cX12_degreeOf 129 = .ok (.istore 5, 2) := by decide +kernel
theorem dX12_degreeOf_131 : decode cX12_degreeOf 131 = .ok (.iload 5, 2) := by decide +kernel
theorem dX12_degreeOf_133 : decode cX12_degreeOf 133 = .ok (.sipush 360, 3) := by decide +kernel
theorem dX12_degreeOf_136 : decode cX12_degreeOf 136 = .ok (.if_icmp .ne 7, 3) := by decide +kernel
theorem dX12_degreeOf_139 : decode cX12_degreeOf 139 = .ok (.iconst 0, 1) := by decide +kernel
theorem dX12_degreeOf_140 : decode cX12_degreeOf 140 = .ok (.goto 5, 3) := by decide +kernel
theorem dX12_degreeOf_143 : decode cX12_degreeOf 143 = .ok (.iload 5, 2) := by decide +kernel
theorem dX12_degreeOf_145 : decode cX12_degreeOf 145 = .ok (.ireturn, 1) := by decide +kernel
set_option maxRecDepth 20000 in
theorem ggX12_lay_X12_layThings : GoodIn wsX12_lay wsX12_layThings := goodIn_r _ [16, 2, 4, 17, 18, 5, 19, 20, 21, 22, 3, 23, 24, 25, 26, 15, 27, 28, 29, 30, 31, 32, 33, 79, 80, 81, 82, 83, 84, 85, 86, 87, 88, 89, 90, 91, 92, 93, 94, 95, 96, 97, 98, 99, 100, 101, 102, 103, 104, 105, 106, 107, 108, 109, 110, 111, 112, 113, 114, 115, 116, 117, 118, 119, 120, 121, 122, 123, 124, 125, 126, 127, 128, 129, 130, 131, 132, 133, 134, 135, 136, 137, 138, 139, 140, 141, 142, 143, 144, 145, 146, 147, 148, 149, 150, 151, 152, 153, 154, 155, 156, 157, 158, 159] (by decide +kernel) (by decide +kernel)
set_option maxRecDepth 20000 in
theorem gX12_lay_X12_layThings : GoodIn wsX12_lay (wsV RX12 428 RX12 yX12_layThings wsX12_layThings) := goodIn_app (goodIn_of _ (by decide +kernel)) ggX12_lay_X12_layThings
set_option maxRecDepth 20000 in
theorem ggX12_lay_X12_degreeOf : GoodIn wsX12_lay wsX12_degreeOf := goodIn_r _ [36, 37, 38, 15, 39] (by decide +kernel) (by decide +kernel)
set_option maxRecDepth 20000 in
theorem gX12_lay_X12_degreeOf : GoodIn wsX12_lay (va_wsS RX12 431 yX12_degreeOf wsX12_degreeOf) := goodIn_app (goodIn_of _ (by decide +kernel)) ggX12_lay_X12_degreeOf
set_option maxRecDepth 20000 in
theorem ggX12_lay_X12_plain : GoodIn wsX12_lay wsX12_plain := goodIn_r _ [39] (by decide +kernel) (by decide +kernel)
set_option maxRecDepth 20000 in
theorem gX12_lay_X12_plain : GoodIn wsX12_lay (va_wsS RX12 425 yX12_plain wsX12_plain) := goodIn_app (goodIn_of _ (by decide +kernel)) ggX12_lay_X12_plain
set_option maxRecDepth 20000 in
theorem ggX12_lay_X12_look : GoodIn wsX12_lay wsX12_look := goodIn_r _ [43, 44, 45, 46, 47, 15, 48, 21, 8, 49, 7, 37, 38, 39, 50, 51, 52, 53, 54, 55, 56, 79, 80, 81, 82, 83, 84, 85, 86, 87, 88, 89, 90, 91, 92, 93, 94, 95, 96, 97, 98, 99, 100, 101, 102, 103, 104, 105, 106, 107, 108, 109, 110, 111, 112, 113, 114, 115, 116, 117, 118, 119, 120, 121, 122, 123, 124, 125, 126, 127, 128, 129, 130, 131, 132, 133, 134, 135, 136, 137, 138, 139, 140, 141, 142, 143, 144, 145, 146, 147, 148, 149, 150, 151, 152, 153, 154, 155, 156, 157, 158, 159] (by decide +kernel) (by decide +kernel)
set_option maxRecDepth 20000 in
theorem gX12_lay_X12_look : GoodIn wsX12_lay (wsV RX12 435 RX12 yX12_look wsX12_look) := goodIn_app (goodIn_of _ (by decide +kernel)) ggX12_lay_X12_look
set_option maxRecDepth 20000 in
theorem ggX12_lay_X12_isHeld : GoodIn wsX12_lay wsX12_isHeld := goodIn_r _ [60, 61, 62, 63, 64, 15, 65, 66, 67, 68, 69, 70, 71, 72, 73, 74, 75, 76, 77, 78, 44, 79, 80, 81, 82, 83, 84, 85, 86, 87, 88, 89, 90, 91, 92, 93, 94, 95, 96, 97, 98, 99, 100, 101, 102, 103, 104, 105, 106, 107, 108, 109, 110, 111, 112, 113, 114, 115, 116, 117, 118, 119, 120, 121, 122, 123, 124, 125, 126, 127, 128, 129, 130, 131, 132, 133, 134, 135, 136, 137, 138, 139, 140, 141, 142, 143, 144, 145, 146, 147, 148, 149, 150, 151, 152, 153, 154, 155, 156, 157, 158, 159] (by decide +kernel) (by decide +kernel)
set_option maxRecDepth 20000 in
theorem gX12_lay_X12_isHeld : GoodIn wsX12_lay (wsV RX12 438 RX12 yX12_isHeld wsX12_isHeld) := goodIn_app (goodIn_of _ (by decide +kernel)) ggX12_lay_X12_isHeld
theorem dX12_lay_0 : decode cX12_lay 0 = .ok (.aload_n 0, 1) := by decide +kernel
theorem dX12_lay_1 : decode cX12_lay 1 = .ok (.iload_n 1, 1) := by decide +kernel
theorem dX12_lay_2 : decode cX12_lay 2 = .ok (.invokevirtual 428, 3) := by decide +kernel
theorem dX12_lay_5 : decode cX12_lay 5 = .ok (.iconst 0, 1) := by decide +kernel
theorem dX12_lay_6 : decode cX12_lay 6 = .ok (.istore_n 2, 1) := by decide +kernel
theorem dX12_lay_7 : decode cX12_lay 7 = .ok (.iload_n 2, 1) := by decide +kernel
theorem dX12_lay_8 : decode cX12_lay 8 = .ok (.sipush 196, 3) := by decide +kernel
theorem dX12_lay_11 : decode cX12_lay 11 = .ok (.if_icmp .ge 283, 3) := by decide +kernel
theorem dX12_lay_14 : decode cX12_lay 14 = .ok (.iload_n 2, 1) := by decide +kernel
theorem dX12_lay_15 : decode cX12_lay 15 = .ok (.bipush 14, 2) := by decide +kernel
theorem dX12_lay_17 : decode cX12_lay 17 = .ok (.idiv, 1) := by decide +kernel
theorem dX12_lay_18 : decode cX12_lay 18 = .ok (.istore_n 3, 1) := by decide +kernel
theorem dX12_lay_19 : decode cX12_lay 19 = .ok (.iload_n 2, 1) := by decide +kernel
theorem dX12_lay_20 : decode cX12_lay 20 = .ok (.bipush 14, 2) := by decide +kernel
theorem dX12_lay_22 : decode cX12_lay 22 = .ok (.irem, 1) := by decide +kernel
theorem dX12_lay_23 : decode cX12_lay 23 = .ok (.istore 4, 2) := by decide +kernel
theorem dX12_lay_25 : decode cX12_lay 25 = .ok (.aload_n 0, 1) := by decide +kernel
theorem dX12_lay_26 : decode cX12_lay 26 = .ok (.getfield 169, 3) := by decide +kernel
theorem dX12_lay_29 : decode cX12_lay 29 = .ok (.iload_n 2, 1) := by decide +kernel
theorem dX12_lay_30 : decode cX12_lay 30 = .ok (.iload_n 3, 1) := by decide +kernel
theorem dX12_lay_31 : decode cX12_lay 31 = .ok (.iload 4, 2) := by decide +kernel
theorem dX12_lay_33 : decode cX12_lay 33 = .ok (.if_icmp .eq 79, 3) := by decide +kernel
theorem dX12_lay_36 : decode cX12_lay 36 = .ok (.iload_n 3, 1) := by decide +kernel
theorem dX12_lay_37 : decode cX12_lay 37 = .ok (.aload_n 0, 1) := by decide +kernel
theorem dX12_lay_38 : decode cX12_lay 38 = .ok (.getfield 37, 3) := by decide +kernel
theorem dX12_lay_41 : decode cX12_lay 41 = .ok (.iconst 0, 1) := by decide +kernel
theorem dX12_lay_42 : decode cX12_lay 42 = .ok (.iaload, 1) := by decide +kernel
theorem dX12_lay_43 : decode cX12_lay 43 = .ok (.if_icmp .ge 69, 3) := by decide +kernel
theorem dX12_lay_46 : decode cX12_lay 46 = .ok (.iload 4, 2) := by decide +kernel
theorem dX12_lay_48 : decode cX12_lay 48 = .ok (.aload_n 0, 1) := by decide +kernel
theorem dX12_lay_49 : decode cX12_lay 49 = .ok (.getfield 37, 3) := by decide +kernel
theorem dX12_lay_52 : decode cX12_lay 52 = .ok (.iconst 0, 1) := by decide +kernel
theorem dX12_lay_53 : decode cX12_lay 53 = .ok (.iaload, 1) := by decide +kernel
theorem dX12_lay_54 : decode cX12_lay 54 = .ok (.if_icmp .ge 58, 3) := by decide +kernel
theorem dX12_lay_57 : decode cX12_lay 57 = .ok (.aload_n 0, 1) := by decide +kernel
theorem dX12_lay_58 : decode cX12_lay 58 = .ok (.getfield 166, 3) := by decide +kernel
theorem dX12_lay_61 : decode cX12_lay 61 = .ok (.iload_n 3, 1) := by decide +kernel
theorem dX12_lay_62 : decode cX12_lay 62 = .ok (.baload, 1) := by decide +kernel
theorem dX12_lay_63 : decode cX12_lay 63 = .ok (.ifCond .ne 49, 3) := by decide +kernel
theorem dX12_lay_66 : decode cX12_lay 66 = .ok (.aload_n 0, 1) := by decide +kernel
theorem dX12_lay_67 : decode cX12_lay 67 = .ok (.getfield 166, 3) := by decide +kernel
theorem dX12_lay_70 : decode cX12_lay 70 = .ok (.iload 4, 2) := by decide +kernel
theorem dX12_lay_72 : decode cX12_lay 72 = .ok (.baload, 1) := by decide +kernel
theorem dX12_lay_73 : decode cX12_lay 73 = .ok (.ifCond .ne 39, 3) := by decide +kernel
theorem dX12_lay_76 : decode cX12_lay 76 = .ok (.aload_n 0, 1) := by decide +kernel
theorem dX12_lay_77 : decode cX12_lay 77 = .ok (.getfield 157, 3) := by decide +kernel
theorem dX12_lay_80 : decode cX12_lay 80 = .ok (.iload_n 3, 1) := by decide +kernel
theorem dX12_lay_81 : decode cX12_lay 81 = .ok (.iaload, 1) := by decide +kernel
theorem dX12_lay_82 : decode cX12_lay 82 = .ok (.aload_n 0, 1) := by decide +kernel
theorem dX12_lay_83 : decode cX12_lay 83 = .ok (.getfield 157, 3) := by decide +kernel
theorem dX12_lay_86 : decode cX12_lay 86 = .ok (.iload 4, 2) := by decide +kernel
theorem dX12_lay_88 : decode cX12_lay 88 = .ok (.iaload, 1) := by decide +kernel
theorem dX12_lay_89 : decode cX12_lay 89 = .ok (.if_icmp .ne 19, 3) := by decide +kernel
theorem dX12_lay_92 : decode cX12_lay 92 = .ok (.aload_n 0, 1) := by decide +kernel
theorem dX12_lay_93 : decode cX12_lay 93 = .ok (.getfield 160, 3) := by decide +kernel
theorem dX12_lay_96 : decode cX12_lay 96 = .ok (.iload_n 3, 1) := by decide +kernel
theorem dX12_lay_97 : decode cX12_lay 97 = .ok (.iaload, 1) := by decide +kernel
theorem dX12_lay_98 : decode cX12_lay 98 = .ok (.aload_n 0, 1) := by decide +kernel
theorem dX12_lay_99 : decode cX12_lay 99 = .ok (.getfield 160, 3) := by decide +kernel
theorem dX12_lay_102 : decode cX12_lay 102 = .ok (.iload 4, 2) := by decide +kernel
theorem dX12_lay_104 : decode cX12_lay 104 = .ok (.iaload, 1) := by decide +kernel
theorem dX12_lay_105 : decode cX12_lay 105 = .ok (.if_icmp .eq 7, 3) := by decide +kernel
theorem dX12_lay_108 : decode cX12_lay 108 = .ok (.iconst 1, 1) := by decide +kernel
theorem dX12_lay_109 : decode cX12_lay 109 = .ok (.goto 4, 3) := by decide +kernel
theorem dX12_lay_112 : decode cX12_lay 112 = .ok (.iconst 0, 1) := by decide +kernel
theorem dX12_lay_113 : decode cX12_lay 113 = .ok (.bastore, 1) := by decide +kernel
theorem dX12_lay_114 : decode cX12_lay 114 = .ok (.aload_n 0, 1) := by decide +kernel
theorem dX12_lay_115 : decode cX12_lay 115 = .ok (.getfield 178, 3) := by decide +kernel
theorem dX12_lay_118 : decode cX12_lay 118 = .ok (.iload_n 2, 1) := by decide +kernel
theorem dX12_lay_119 : decode cX12_lay 119 = .ok (.iconst 0, 1) := by decide +kernel
theorem dX12_lay_120 : decode cX12_lay 120 = .ok (.bastore, 1) := by decide +kernel
theorem dX12_lay_121 : decode cX12_lay 121 = .ok (.aload_n 0, 1) := by decide +kernel
theorem dX12_lay_122 : decode cX12_lay 122 = .ok (.getfield 169, 3) := by decide +kernel
theorem dX12_lay_125 : decode cX12_lay 125 = .ok (.iload_n 2, 1) := by decide +kernel
theorem dX12_lay_126 : decode cX12_lay 126 = .ok (.baload, 1) := by decide +kernel
theorem dX12_lay_127 : decode cX12_lay 127 = .ok (.ifCond .ne 6, 3) := by decide +kernel
theorem dX12_lay_130 : decode cX12_lay 130 = .ok (.goto 158, 3) := by decide +kernel
theorem dX12_lay_133 : decode cX12_lay 133 = .ok (.aload_n 0, 1) := by decide +kernel
theorem dX12_lay_134 : decode cX12_lay 134 = .ok (.getfield 157, 3) := by decide +kernel
theorem dX12_lay_137 : decode cX12_lay 137 = .ok (.iload 4, 2) := by decide +kernel
theorem dX12_lay_139 : decode cX12_lay 139 = .ok (.iaload, 1) := by decide +kernel
theorem dX12_lay_140 : decode cX12_lay 140 = .ok (.aload_n 0, 1) := by decide +kernel
theorem dX12_lay_141 : decode cX12_lay 141 = .ok (.getfield 157, 3) := by decide +kernel
theorem dX12_lay_144 : decode cX12_lay 144 = .ok (.iload_n 3, 1) := by decide +kernel
theorem dX12_lay_145 : decode cX12_lay 145 = .ok (.iaload, 1) := by decide +kernel
theorem dX12_lay_146 : decode cX12_lay 146 = .ok (.isub, 1) := by decide +kernel
theorem dX12_lay_147 : decode cX12_lay 147 = .ok (.istore 5, 2) := by decide +kernel
theorem dX12_lay_149 : decode cX12_lay 149 = .ok (.aload_n 0, 1) := by decide +kernel
theorem dX12_lay_150 : decode cX12_lay 150 = .ok (.getfield 160, 3) := by decide +kernel
theorem dX12_lay_153 : decode cX12_lay 153 = .ok (.iload 4, 2) := by decide +kernel
theorem dX12_lay_155 : decode cX12_lay 155 = .ok (.iaload, 1) := by decide +kernel
theorem dX12_lay_156 : decode cX12_lay 156 = .ok (.aload_n 0, 1) := by decide +kernel
theorem dX12_lay_157 : decode cX12_lay 157 = .ok (.getfield 160, 3) := by decide +kernel
theorem dX12_lay_160 : decode cX12_lay 160 = .ok (.iload_n 3, 1) := by decide +kernel
theorem dX12_lay_161 : decode cX12_lay 161 = .ok (.iaload, 1) := by decide +kernel
theorem dX12_lay_162 : decode cX12_lay 162 = .ok (.isub, 1) := by decide +kernel
theorem dX12_lay_163 : decode cX12_lay 163 = .ok (.istore 6, 2) := by decide +kernel
theorem dX12_lay_165 : decode cX12_lay 165 = .ok (.aload_n 0, 1) := by decide +kernel
theorem dX12_lay_166 : decode cX12_lay 166 = .ok (.getfield 172, 3) := by decide +kernel
theorem dX12_lay_169 : decode cX12_lay 169 = .ok (.iload_n 2, 1) := by decide +kernel
theorem dX12_lay_170 : decode cX12_lay 170 = .ok (.iload 5, 2) := by decide +kernel
theorem dX12_lay_172 : decode cX12_lay 172 = .ok (.iload 6, 2) := by decide +kernel
theorem dX12_lay_174 : decode cX12_lay 174 = .ok (.invokestatic 431, 3) := by decide +kernel
theorem dX12_lay_177 : decode cX12_lay 177 = .ok (.iastore, 1) := by decide +kernel
theorem dX12_lay_178 : decode cX12_lay 178 = .ok (.aload_n 0, 1) := by decide +kernel
theorem dX12_lay_179 : decode cX12_lay 179 = .ok (.getfield 175, 3) := by decide +kernel
theorem dX12_lay_182 : decode cX12_lay 182 = .ok (.iload_n 2, 1) := by decide +kernel
theorem dX12_lay_183 : decode cX12_lay 183 = .ok (.iload 5, 2) := by decide +kernel
theorem dX12_lay_185 : decode cX12_lay 185 = .ok (.invokestatic 425, 3) := by decide +kernel
theorem dX12_lay_188 : decode cX12_lay 188 = .ok (.iload 6, 2) := by decide +kernel
theorem dX12_lay_190 : decode cX12_lay 190 = .ok (.invokestatic 425, 3) := by decide +kernel
theorem dX12_lay_193 : decode cX12_lay 193 = .ok (.if_icmp .le 11, 3) := by decide +kernel
theorem dX12_lay_196 : decode cX12_lay 196 = .ok (.iload 5, 2) := by decide +kernel
theorem dX12_lay_198 : decode cX12_lay 198 = .ok (.invokestatic 425, 3) := by decide +kernel
theorem dX12_lay_201 : decode cX12_lay 201 = .ok (.goto 8, 3) := by decide +kernel
theorem dX12_lay_204 : decode cX12_lay 204 = .ok (.iload 6, 2) := by decide +kernel
theorem dX12_lay_206 : decode cX12_lay 206 = .ok (.invokestatic 425, 3) := by decide +kernel
theorem dX12_lay_209 : decode cX12_lay 209 = .ok (.iastore, 1) := by decide +kernel
theorem dX12_lay_210 : decode cX12_lay 210 = .ok (.aload_n 0, 1) := by decide +kernel
theorem dX12_lay_211 : decode cX12_lay 211 = .ok (.getfield 178, 3) := by decide +kernel
theorem dX12_lay_214 : decode cX12_lay 214 = .ok (.iload_n 2, 1) := by decide +kernel
theorem dX12_lay_215 : decode cX12_lay 215 = .ok (.aload_n 0, 1) := by decide +kernel
theorem dX12_lay_216 : decode cX12_lay 216 = .ok (.getfield 88, 3) := by decide +kernel
theorem dX12_lay_219 : decode cX12_lay 219 = .ok (.iconst 0, 1) := by decide +kernel
theorem dX12_lay_220 : decode cX12_lay 220 = .ok (.iaload, 1) := by decide +kernel
theorem dX12_lay_221 : decode cX12_lay 221 = .ok (.ifCond .ne 7, 3) := by decide +kernel
theorem dX12_lay_224 : decode cX12_lay 224 = .ok (.iconst 1, 1) := by decide +kernel
theorem dX12_lay_225 : decode cX12_lay 225 = .ok (.goto 4, 3) := by decide +kernel
theorem dX12_lay_228 : decode cX12_lay 228 = .ok (.iconst 0, 1) := by decide +kernel
theorem dX12_lay_229 : decode cX12_lay 229 = .ok (.bastore, 1) := by decide +kernel
theorem dX12_lay_230 : decode cX12_lay 230 = .ok (.aload_n 0, 1) := by decide +kernel
theorem dX12_lay_231 : decode cX12_lay 231 = .ok (.iload_n 2, 1) := by decide +kernel
theorem dX12_lay_232 : decode cX12_lay 232 = .ok (.invokevirtual 435, 3) := by decide +kernel
theorem dX12_lay_235 : decode cX12_lay 235 = .ok (.iconst 0, 1) := by decide +kernel
theorem dX12_lay_236 : decode cX12_lay 236 = .ok (.istore 7, 2) := by decide +kernel
theorem dX12_lay_238 : decode cX12_lay 238 = .ok (.iload 7, 2) := by decide +kernel
theorem dX12_lay_240 : decode cX12_lay 240 = .ok (.aload_n 0, 1) := by decide +kernel
theorem dX12_lay_241 : decode cX12_lay 241 = .ok (.getfield 88, 3) := by decide +kernel
theorem dX12_lay_244 : decode cX12_lay 244 = .ok (.iconst 0, 1) := by decide +kernel
theorem dX12_lay_245 : decode cX12_lay 245 = .ok (.iaload, 1) := by decide +kernel
theorem dX12_lay_246 : decode cX12_lay 246 = .ok (.if_icmp .ge 42, 3) := by decide +kernel
theorem dX12_lay_249 : decode cX12_lay 249 = .ok (.aload_n 0, 1) := by decide +kernel
theorem dX12_lay_250 : decode cX12_lay 250 = .ok (.getfield 178, 3) := by decide +kernel
theorem dX12_lay_253 : decode cX12_lay 253 = .ok (.iload_n 2, 1) := by decide +kernel
theorem dX12_lay_254 : decode cX12_lay 254 = .ok (.baload, 1) := by decide +kernel
theorem dX12_lay_255 : decode cX12_lay 255 = .ok (.ifCond .ne 33, 3) := by decide +kernel
theorem dX12_lay_258 : decode cX12_lay 258 = .ok (.aload_n 0, 1) := by decide +kernel
theorem dX12_lay_259 : decode cX12_lay 259 = .ok (.getfield 178, 3) := by decide +kernel
theorem dX12_lay_262 : decode cX12_lay 262 = .ok (.iload_n 2, 1) := by decide +kernel
theorem dX12_lay_263 : decode cX12_lay 263 = .ok (.aload_n 0, 1) := by decide +kernel
theorem dX12_lay_264 : decode cX12_lay 264 = .ok (.aload_n 0, 1) := by decide +kernel
theorem dX12_lay_265 : decode cX12_lay 265 = .ok (.getfield 91, 3) := by decide +kernel
theorem dX12_lay_268 : decode cX12_lay 268 = .ok (.iload 7, 2) := by decide +kernel
theorem dX12_lay_270 : decode cX12_lay 270 = .ok (.iaload, 1) := by decide +kernel
theorem dX12_lay_271 : decode cX12_lay 271 = .ok (.aload_n 0, 1) := by decide +kernel
theorem dX12_lay_272 : decode cX12_lay 272 = .ok (.getfield 94, 3) := by decide +kernel
theorem dX12_lay_275 : decode cX12_lay 275 = .ok (.iload 7, 2) := by decide +kernel
theorem dX12_lay_277 : decode cX12_lay 277 = .ok (.iaload, 1) := by decide +kernel
theorem dX12_lay_278 : decode cX12_lay 278 = .ok (.invokevirtual 438, 3) := by decide +kernel
theorem dX12_lay_281 : decode cX12_lay 281 = .ok (.bastore, 1) := by decide +kernel
theorem dX12_lay_282 : decode cX12_lay 282 = .ok (.iinc 7 1, 3) := by decide +kernel
theorem dX12_lay_285 : decode cX12_lay 285 = .ok (.goto (-47), 3) := by decide +kernel
theorem dX12_lay_288 : decode cX12_lay 288 = .ok (.iinc 2 1, 3) := by decide +kernel
theorem dX12_lay_291 : decode cX12_lay 291 = .ok (.goto (-284), 3) := by decide +kernel
theorem dX12_lay_294 : decode cX12_lay 294 = .ok (.return_, 1) := by decide +kernel
theorem dX12_isDoor_0 : decode cX12_isDoor 0 = .ok (.iconst 0, 1) := by decide +kernel
theorem dX12_isDoor_1 : decode cX12_isDoor 1 = .ok (.istore_n 3, 1) := by decide +kernel
theorem dX12_isDoor_2 : decode cX12_isDoor 2 = .ok (.iload_n 3, 1) := by decide +kernel
theorem dX12_isDoor_3 : decode cX12_isDoor 3 = .ok (.aload_n 0, 1) := by decide +kernel
theorem dX12_isDoor_4 : decode cX12_isDoor 4 = .ok (.getfield 55, 3) := by decide +kernel
theorem dX12_isDoor_7 : decode cX12_isDoor 7 = .ok (.iconst 0, 1) := by decide +kernel
theorem dX12_isDoor_8 : decode cX12_isDoor 8 = .ok (.iaload, 1) := by decide +kernel
theorem dX12_isDoor_9 : decode cX12_isDoor 9 = .ok (.if_icmp .ge 31, 3) := by decide +kernel
theorem dX12_isDoor_12 : decode cX12_isDoor 12 = .ok (.aload_n 0, 1) := by decide +kernel
theorem dX12_isDoor_13 : decode cX12_isDoor 13 = .ok (.getfield 58, 3) := by decide +kernel
theorem dX12_isDoor_16 : decode cX12_isDoor 16 = .ok (.iload_n 3, 1) := by decide +kernel
theorem dX12_isDoor_17 : decode cX12_isDoor 17 = .ok (.iaload, 1) := by decide +kernel
theorem dX12_isDoor_18 : decode cX12_isDoor 18 = .ok (.iload_n 1, 1) := by decide +kernel
theorem dX12_isDoor_19 : decode cX12_isDoor 19 = .ok (.if_icmp .ne 15, 3) := by decide +kernel
theorem dX12_isDoor_22 : decode cX12_isDoor 22 = .ok (.aload_n 0, 1) := by decide +kernel
theorem dX12_isDoor_23 : decode cX12_isDoor 23 = .ok (.getfield 61, 3) := by decide +kernel
theorem dX12_isDoor_26 : decode cX12_isDoor 26 = .ok (.iload_n 3, 1) := by decide +kernel
theorem dX12_isDoor_27 : decode cX12_isDoor 27 = .ok (.iaload, 1) := by decide +kernel
theorem dX12_isDoor_28 : decode cX12_isDoor 28 = .ok (.iload_n 2, 1) := by decide +kernel
theorem dX12_isDoor_29 : decode cX12_isDoor 29 = .ok (.if_icmp .ne 5, 3) := by decide +kernel
theorem dX12_isDoor_32 : decode cX12_isDoor 32 = .ok (.iconst 1, 1) := by decide +kernel
theorem dX12_isDoor_33 : decode cX12_isDoor 33 = .ok (.ireturn, 1) := by decide +kernel
theorem dX12_isDoor_34 : decode cX12_isDoor 34 = .ok (.iinc 3 1, 3) := by decide +kernel
theorem dX12_isDoor_37 : decode cX12_isDoor 37 = .ok (.goto (-35), 3) := by decide +kernel
theorem dX12_isDoor_40 : decode cX12_isDoor 40 = .ok (.iconst 0, 1) := by decide +kernel
theorem dX12_isDoor_41 : decode cX12_isDoor 41 = .ok (.ireturn, 1) := by decide +kernel
set_option maxRecDepth 20000 in
theorem ggX12_look_X12_lineOf : GoodIn wsX12_look wsX12_lineOf := goodIn_r _ [6, 7, 8, 9, 10, 11, 12, 5, 13, 14, 15, 16, 17, 18, 19, 20, 21, 22, 23, 24, 25, 26, 27, 28, 29, 30, 31, 32, 33, 34, 35, 36, 37, 38, 39, 40, 41, 42, 43, 44, 45, 46, 47, 48, 49, 50, 51, 52, 53, 54, 55, 56, 57, 58, 59, 60, 61, 62, 63, 64, 65, 66, 67, 68, 69, 70, 71, 72, 73, 74, 75, 76, 77, 78, 79, 80, 81, 82, 83, 84, 85, 86, 87, 88, 89, 90, 91, 92, 93, 94, 95, 96, 97, 98, 99, 100, 101] (by decide +kernel) (by decide +kernel)
set_option maxRecDepth 20000 in
theorem gX12_look_X12_lineOf : GoodIn wsX12_look (wsV RX12 441 RX12 yX12_lineOf wsX12_lineOf) := goodIn_app (goodIn_of _ (by decide +kernel)) ggX12_look_X12_lineOf
theorem dX12_look_0 : decode cX12_look 0 = .ok (.iconst 0, 1) := by decide +kernel
theorem dX12_look_1 : decode cX12_look 1 = .ok (.istore_n 2, 1) := by decide +kernel
theorem dX12_look_2 : decode cX12_look 2 = .ok (.iload_n 2, 1) := by decide +kernel
theorem dX12_look_3 : decode cX12_look 3 = .ok (.bipush 9, 2) := by decide +kernel
theorem dX12_look_5 : decode cX12_look 5 = .ok (.if_icmp .ge 21, 3) := by decide +kernel
theorem dX12_look_8 : decode cX12_look 8 = .ok (.aload_n 0, 1) := by decide +kernel
theorem dX12_look_9 : decode cX12_look 9 = .ok (.getfield 181, 3) := by decide +kernel
theorem dX12_look_12 : decode cX12_look 12 = .ok (.iload_n 2, 1) := by decide +kernel
theorem dX12_look_13 : decode cX12_look 13 = .ok (.aload_n 0, 1) := by decide +kernel
theorem dX12_look_14 : decode cX12_look 14 = .ok (.iload_n 1, 1) := by decide +kernel
theorem dX12_look_15 : decode cX12_look 15 = .ok (.iload_n 2, 1) := by decide +kernel
theorem dX12_look_16 : decode cX12_look 16 = .ok (.invokevirtual 441, 3) := by decide +kernel
theorem dX12_look_19 : decode cX12_look 19 = .ok (.iastore, 1) := by decide +kernel
theorem dX12_look_20 : decode cX12_look 20 = .ok (.iinc 2 1, 3) := by decide +kernel
theorem dX12_look_23 : decode cX12_look 23 = .ok (.goto (-21), 3) := by decide +kernel
theorem dX12_look_26 : decode cX12_look 26 = .ok (.return_, 1) := by decide +kernel
set_option maxRecDepth 20000 in
theorem ggX12_lineOf_X12_plain : GoodIn wsX12_lineOf wsX12_plain := goodIn_r _ [8] (by decide +kernel) (by decide +kernel)
set_option maxRecDepth 20000 in
theorem gX12_lineOf_X12_plain : GoodIn wsX12_lineOf (va_wsS RX12 425 yX12_plain wsX12_plain) := goodIn_app (goodIn_of _ (by decide +kernel)) ggX12_lineOf_X12_plain
set_option maxRecDepth 20000 in
theorem ggX12_lineOf_X12_isDoor : GoodIn wsX12_lineOf wsX12_isDoor := goodIn_r _ [12, 13, 14, 15, 16, 17, 18, 19, 20, 21, 22, 23, 24, 25, 26, 27, 28, 29, 30, 31, 32, 33, 34, 35, 36, 37, 38, 39, 40, 41, 42, 43, 44, 45, 46, 47, 48, 49, 50, 51, 52, 53, 54, 55, 56, 57, 58, 59, 60, 61, 62, 63, 64, 65, 66, 67, 68, 69, 70, 71, 72, 73, 74, 75, 76, 77, 78, 79, 80, 81, 82, 83, 84, 85, 86, 87, 88, 89, 90, 91, 92, 93, 94, 95, 96] (by decide +kernel) (by decide +kernel)
set_option maxRecDepth 20000 in
theorem gX12_lineOf_X12_isDoor : GoodIn wsX12_lineOf (wsV RX12 444 RX12 yX12_isDoor wsX12_isDoor) := goodIn_app (goodIn_of _ (by decide +kernel)) ggX12_lineOf_X12_isDoor
theorem dX12_lineOf_0 : decode cX12_lineOf 0 = .ok (.iload_n 1, 1) := by decide +kernel
theorem dX12_lineOf_1 : decode cX12_lineOf 1 = .ok (.bipush 14, 2) := by decide +kernel
theorem dX12_lineOf_3 : decode cX12_lineOf 3 = .ok (.idiv, 1) := by decide +kernel
theorem dX12_lineOf_4 : decode cX12_lineOf 4 = .ok (.istore_n 3, 1) := by decide +kernel
theorem dX12_lineOf_5 : decode cX12_lineOf 5 = .ok (.iload_n 1, 1) := by decide +kernel
theorem dX12_lineOf_6 : decode cX12_lineOf 6 = .ok (.bipush 14, 2) := by decide +kernel
theorem dX12_lineOf_8 : decode cX12_lineOf 8 = .ok (.irem, 1) := by decide +kernel
theorem dX12_lineOf_9 : decode cX12_lineOf 9 = .ok (.istore 4, 2) := by decide +kernel
theorem dX12_lineOf_11 : decode cX12_lineOf 11 = .ok (.iload_n 2, 1) := by decide +kernel
theorem dX12_lineOf_12 : decode cX12_lineOf 12 = .ok (.iconst 2, 1) := by decide +kernel
theorem dX12_lineOf_13 : decode cX12_lineOf 13 = .ok (.if_icmp .ne 21, 3) := by decide +kernel
theorem dX12_lineOf_16 : decode cX12_lineOf 16 = .ok (.aload_n 0, 1) := by decide +kernel
theorem dX12_lineOf_17 : decode cX12_lineOf 17 = .ok (.getfield 163, 3) := by decide +kernel
theorem dX12_lineOf_20 : decode cX12_lineOf 20 = .ok (.iload_n 3, 1) := by decide +kernel
theorem dX12_lineOf_21 : decode cX12_lineOf 21 = .ok (.iaload, 1) := by decide +kernel
theorem dX12_lineOf_22 : decode cX12_lineOf 22 = .ok (.aload_n 0, 1) := by decide +kernel
theorem dX12_lineOf_23 : decode cX12_lineOf 23 = .ok (.getfield 163, 3) := by decide +kernel
theorem dX12_lineOf_26 : decode cX12_lineOf 26 = .ok (.iload 4, 2) := by decide +kernel
theorem dX12_lineOf_28 : decode cX12_lineOf 28 = .ok (.iaload, 1) := by decide +kernel
theorem dX12_lineOf_29 : decode cX12_lineOf 29 = .ok (.isub, 1) := by decide +kernel
theorem dX12_lineOf_30 : decode cX12_lineOf 30 = .ok (.invokestatic 425, 3) := by decide +kernel
theorem dX12_lineOf_33 : decode cX12_lineOf 33 = .ok (.ireturn, 1) := by decide +kernel
theorem dX12_lineOf_34 : decode cX12_lineOf 34 = .ok (.iload_n 2, 1) := by decide +kernel
theorem dX12_lineOf_35 : decode cX12_lineOf 35 = .ok (.iconst 3, 1) := by decide +kernel
theorem dX12_lineOf_36 : decode cX12_lineOf 36 = .ok (.if_icmp .ne 10, 3) := by decide +kernel
theorem dX12_lineOf_39 : decode cX12_lineOf 39 = .ok (.aload_n 0, 1) := by decide +kernel
theorem dX12_lineOf_40 : decode cX12_lineOf 40 = .ok (.getfield 175, 3) := by decide +kernel
theorem dX12_lineOf_43 : decode cX12_lineOf 43 = .ok (.iload_n 1, 1) := by decide +kernel
theorem dX12_lineOf_44 : decode cX12_lineOf 44 = .ok (.iaload, 1) := by decide +kernel
theorem dX12_lineOf_45 : decode cX12_lineOf 45 = .ok (.ireturn, 1) := by decide +kernel
theorem dX12_lineOf_46 : decode cX12_lineOf 46 = .ok (.iload_n 2, 1) := by decide +kernel
theorem dX12_lineOf_47 : decode cX12_lineOf 47 = .ok (.iconst 4, 1) := by decide +kernel
theorem dX12_lineOf_48 : decode cX12_lineOf 48 = .ok (.if_icmp .ne 34, 3) := by decide +kernel
theorem dX12_lineOf_51 : decode cX12_lineOf 51 = .ok (.aload_n 0, 1) := by decide +kernel
theorem dX12_lineOf_52 : decode cX12_lineOf 52 = .ok (.getfield 40, 3) := by decide +kernel
theorem dX12_lineOf_55 : decode cX12_lineOf 55 = .ok (.iload_n 3, 1) := by decide +kernel
theorem dX12_lineOf_56 : decode cX12_lineOf 56 = .ok (.baload, 1) := by decide +kernel
theorem dX12_lineOf_57 : decode cX12_lineOf 57 = .ok (.ifCond .eq 7, 3) := by decide +kernel
theorem dX12_lineOf_60 : decode cX12_lineOf 60 = .ok (.iconst 1, 1) := by decide +kernel
theorem dX12_lineOf_61 : decode cX12_lineOf 61 = .ok (.goto 4, 3) := by decide +kernel
theorem dX12_lineOf_64 : decode cX12_lineOf 64 = .ok (.iconst 0, 1) := by decide +kernel
theorem dX12_lineOf_65 : decode cX12_lineOf 65 = .ok (.aload_n 0, 1) := by decide +kernel
theorem dX12_lineOf_66 : decode cX12_lineOf 66 = .ok (.getfield 40, 3) := by decide +kernel
theorem dX12_lineOf_69 : decode cX12_lineOf 69 = .ok (.iload 4, 2) := by decide +kernel
theorem dX12_lineOf_71 : decode cX12_lineOf 71 = .ok (.baload, 1) := by decide +kernel
theorem dX12_lineOf_72 : decode cX12_lineOf 72 = .ok (.ifCond .eq 7, 3) := by decide +kernel
theorem dX12_lineOf_75 : decode cX12_lineOf 75 = .ok (.iconst 1, 1) := by decide +kernel
theorem dX12_lineOf_76 : decode cX12_lineOf 76 = .ok (.goto 4, 3) := by decide +kernel
theorem dX12_lineOf_79 : decode cX12_lineOf 79 = .ok (.iconst 0, 1) := by decide +kernel
theorem dX12_lineOf_80 : decode cX12_lineOf 80 = .ok (.iadd, 1) := by decide +kernel
theorem dX12_lineOf_81 : decode cX12_lineOf 81 = .ok (.ireturn, 1) := by decide +kernel
theorem dX12_lineOf_82 : decode cX12_lineOf 82 = .ok (.iload_n 2, 1) := by decide +kernel
theorem dX12_lineOf_83 : decode cX12_lineOf 83 = .ok (.iconst 5, 1) := by decide +kernel
theorem dX12_lineOf_84 : decode cX12_lineOf 84 = .ok (.if_icmp .ne 19, 3) := by decide +kernel
theorem dX12_lineOf_87 : decode cX12_lineOf 87 = .ok (.aload_n 0, 1) := by decide +kernel
theorem dX12_lineOf_88 : decode cX12_lineOf 88 = .ok (.iload_n 3, 1) := by decide +kernel
theorem dX12_lineOf_89 : decode cX12_lineOf 89 = .ok (.iload 4, 2) := by decide +kernel
theorem dX12_lineOf_91 : decode cX12_lineOf 91 = .ok (.invokevirtual 444, 3) := by decide +kernel
theorem dX12_lineOf_94 : decode cX12_lineOf 94 = .ok (.ifCond .eq 7, 3) := by decide +kernel
theorem dX12_lineOf_97 : decode cX12_lineOf 97 = .ok (.iconst 1, 1) := by decide +kernel
theorem dX12_lineOf_98 : decode cX12_lineOf 98 = .ok (.goto 4, 3) := by decide +kernel
theorem dX12_lineOf_101 : decode cX12_lineOf 101 = .ok (.iconst 0, 1) := by decide +kernel
theorem dX12_lineOf_102 : decode cX12_lineOf 102 = .ok (.ireturn, 1) := by decide +kernel
theorem dX12_lineOf_103 : decode cX12_lineOf 103 = .ok (.iload_n 2, 1) := by decide +kernel
theorem dX12_lineOf_104 : decode cX12_lineOf 104 = .ok (.bipush 6, 2) := by decide +kernel
theorem dX12_lineOf_106 : decode cX12_lineOf 106 = .ok (.if_icmp .ne 19, 3) := by decide +kernel
theorem dX12_lineOf_109 : decode cX12_lineOf 109 = .ok (.aload_n 0, 1) := by decide +kernel
theorem dX12_lineOf_110 : decode cX12_lineOf 110 = .ok (.iload 4, 2) := by decide +kernel
theorem dX12_lineOf_112 : decode cX12_lineOf 112 = .ok (.iload_n 3, 1) := by decide +kernel
theorem dX12_lineOf_113 : decode cX12_lineOf 113 = .ok (.invokevirtual 444, 3) := by decide +kernel
theorem dX12_lineOf_116 : decode cX12_lineOf 116 = .ok (.ifCond .eq 7, 3) := by decide +kernel
theorem dX12_lineOf_119 : decode cX12_lineOf 119 = .ok (.iconst 1, 1) := by decide +kernel
theorem dX12_lineOf_120 : decode cX12_lineOf 120 = .ok (.goto 4, 3) := by decide +kernel
theorem dX12_lineOf_123 : decode cX12_lineOf 123 = .ok (.iconst 0, 1) := by decide +kernel
theorem dX12_lineOf_124 : decode cX12_lineOf 124 = .ok (.ireturn, 1) := by decide +kernel
theorem dX12_lineOf_125 : decode cX12_lineOf 125 = .ok (.iload_n 2, 1) := by decide +kernel
theorem dX12_lineOf_126 : decode cX12_lineOf 126 = .ok (.bipush 7, 2) := by decide +kernel
theorem dX12_lineOf_128 : decode cX12_lineOf 128 = .ok (.if_icmp .ne 36, 3) := by decide +kernel
theorem dX12_lineOf_131 : decode cX12_lineOf 131 = .ok (.aload_n 0, 1) := by decide +kernel
theorem dX12_lineOf_132 : decode cX12_lineOf 132 = .ok (.getfield 163, 3) := by decide +kernel
theorem dX12_lineOf_135 : decode cX12_lineOf 135 = .ok (.iload_n 3, 1) := by decide +kernel
theorem dX12_lineOf_136 : decode cX12_lineOf 136 = .ok (.iaload, 1) := by decide +kernel
theorem dX12_lineOf_137 : decode cX12_lineOf 137 = .ok (.aload_n 0, 1) := by decide +kernel
theorem dX12_lineOf_138 : decode cX12_lineOf 138 = .ok (.getfield 163, 3) := by decide +kernel
theorem dX12_lineOf_141 : decode cX12_lineOf 141 = .ok (.iload 4, 2) := by decide +kernel
theorem dX12_lineOf_143 : decode cX12_lineOf 143 = .ok (.iaload, 1) := by decide +kernel
theorem dX12_lineOf_144 : decode cX12_lineOf 144 = .ok (.if_icmp .ge 12, 3) := by decide +kernel
theorem dX12_lineOf_147 : decode cX12_lineOf 147 = .ok (.aload_n 0, 1) := by decide +kernel
theorem dX12_lineOf_148 : decode cX12_lineOf 148 = .ok (.getfield 163, 3) := by decide +kernel
theorem dX12_lineOf_151 : decode cX12_lineOf 151 = .ok (.iload_n 3, 1) := by decide +kernel
theorem dX12_lineOf_152 : decode cX12_lineOf 152 = .ok (.iaload, 1) := by decide +kernel
theorem dX12_lineOf_153 : decode cX12_lineOf 153 = .ok (.goto 10, 3) := by decide +kernel
theorem dX12_lineOf_156 : decode cX12_lineOf 156 = .ok (.aload_n 0, 1) := by decide +kernel
theorem dX12_lineOf_157 : decode cX12_lineOf 157 = .ok (.getfield 163, 3) := by decide +kernel
theorem dX12_lineOf_160 : decode cX12_lineOf 160 = .ok (.iload 4, 2) := by decide +kernel
theorem dX12_lineOf_162 : decode cX12_lineOf 162 = .ok (.iaload, 1) := by decide +kernel
theorem dX12_lineOf_163 : decode cX12_lineOf 163 = .ok (.ireturn, 1) := by decide +kernel
theorem dX12_lineOf_164 : decode cX12_lineOf 164 = .ok (.iload_n 2, 1) := by decide +kernel
theorem dX12_lineOf_165 : decode cX12_lineOf 165 = .ok (.bipush 8, 2) := by decide +kernel
theorem dX12_lineOf_167 : decode cX12_lineOf 167 = .ok (.if_icmp .ne 12, 3) := by decide +kernel
theorem dX12_lineOf_170 : decode cX12_lineOf 170 = .ok (.aload_n 0, 1) := by decide +kernel
theorem dX12_lineOf_171 : decode cX12_lineOf 171 = .ok (.getfield 172, 3) := by decide +kernel
theorem dX12_lineOf_174 : decode cX12_lineOf 174 = .ok (.iload_n 1, 1) := by decide +kernel
theorem dX12_lineOf_175 : decode cX12_lineOf 175 = .ok (.iaload, 1) := by decide +kernel
theorem dX12_lineOf_176 : decode cX12_lineOf 176 = .ok (.goto 4, 3) := by decide +kernel
theorem dX12_lineOf_179 : decode cX12_lineOf 179 = .ok (.iconst 0, 1) := by decide +kernel
theorem dX12_lineOf_180 : decode cX12_lineOf 180 = .ok (.ireturn, 1) := by decide +kernel
theorem dX12_sum_0 : decode cX12_sum 0 = .ok (.iconst 0, 1) := by decide +kernel
theorem dX12_sum_1 : decode cX12_sum 1 = .ok (.istore_n 3, 1) := by decide +kernel
theorem dX12_sum_2 : decode cX12_sum 2 = .ok (.aload_n 0, 1) := by decide +kernel
theorem dX12_sum_3 : decode cX12_sum 3 = .ok (.iconst 0, 1) := by decide +kernel
theorem dX12_sum_4 : decode cX12_sum 4 = .ok (.putfield 447, 3) := by decide +kernel
theorem dX12_sum_7 : decode cX12_sum 7 = .ok (.iload_n 1, 1) := by decide +kernel
theorem dX12_sum_8 : decode cX12_sum 8 = .ok (.istore 4, 2) := by decide +kernel
theorem dX12_sum_10 : decode cX12_sum 10 = .ok (.iload 4, 2) := by decide +kernel
theorem dX12_sum_12 : decode cX12_sum 12 = .ok (.iload_n 2, 1) := by decide +kernel
theorem dX12_sum_13 : decode cX12_sum 13 = .ok (.if_icmp .ge 159, 3) := by decide +kernel
theorem dX12_sum_16 : decode cX12_sum 16 = .ok (.aload_n 0, 1) := by decide +kernel
theorem dX12_sum_17 : decode cX12_sum 17 = .ok (.getfield 100, 3) := by decide +kernel
theorem dX12_sum_20 : decode cX12_sum 20 = .ok (.iload 4, 2) := by decide +kernel
theorem dX12_sum_22 : decode cX12_sum 22 = .ok (.iaload, 1) := by decide +kernel
theorem dX12_sum_23 : decode cX12_sum 23 = .ok (.istore 5, 2) := by decide +kernel
theorem dX12_sum_25 : decode cX12_sum 25 = .ok (.iload 5, 2) := by decide +kernel
theorem dX12_sum_27 : decode cX12_sum 27 = .ok (.iconst 2, 1) := by decide +kernel
theorem dX12_sum_28 : decode cX12_sum 28 = .ok (.if_icmp .ge 42, 3) := by decide +kernel
theorem dX12_sum_31 : decode cX12_sum 31 = .ok (.aload_n 0, 1) := by decide +kernel
theorem dX12_sum_32 : decode cX12_sum 32 = .ok (.getfield 184, 3) := by decide +kernel
theorem dX12_sum_35 : decode cX12_sum 35 = .ok (.iload_n 3, 1) := by decide +kernel
theorem dX12_sum_36 : decode cX12_sum 36 = .ok (.iload 5, 2) := by decide +kernel
theorem dX12_sum_38 : decode cX12_sum 38 = .ok (.ifCond .ne 13, 3) := by decide +kernel
theorem dX12_sum_41 : decode cX12_sum 41 = .ok (.aload_n 0, 1) := by decide +kernel
theorem dX12_sum_42 : decode cX12_sum 42 = .ok (.getfield 103, 3) := by decide +kernel
theorem dX12_sum_45 : decode cX12_sum 45 = .ok (.iload 4, 2) := by decide +kernel
theorem dX12_sum_47 : decode cX12_sum 47 = .ok (.iaload, 1) := by decide +kernel
theorem dX12_sum_48 : decode cX12_sum 48 = .ok (.goto 15, 3) := by decide +kernel
theorem dX12_sum_51 : decode cX12_sum 51 = .ok (.aload_n 0, 1) := by decide +kernel
theorem dX12_sum_52 : decode cX12_sum 52 = .ok (.getfield 181, 3) := by decide +kernel
theorem dX12_sum_55 : decode cX12_sum 55 = .ok (.aload_n 0, 1) := by decide +kernel
theorem dX12_sum_56 : decode cX12_sum 56 = .ok (.getfield 103, 3) := by decide +kernel
theorem dX12_sum_59 : decode cX12_sum 59 = .ok (.iload 4, 2) := by decide +kernel
theorem dX12_sum_61 : decode cX12_sum 61 = .ok (.iaload, 1) := by decide +kernel
theorem dX12_sum_62 : decode cX12_sum 62 = .ok (.iaload, 1) := by decide +kernel
theorem dX12_sum_63 : decode cX12_sum 63 = .ok (.iastore, 1) := by decide +kernel
theorem dX12_sum_64 : decode cX12_sum 64 = .ok (.iinc 3 1, 3) := by decide +kernel
theorem dX12_sum_67 : decode cX12_sum 67 = .ok (.goto 99, 3) := by decide +kernel
theorem dX12_sum_70 : decode cX12_sum 70 = .ok (.aload_n 0, 1) := by decide +kernel
theorem dX12_sum_71 : decode cX12_sum 71 = .ok (.getfield 184, 3) := by decide +kernel
theorem dX12_sum_74 : decode cX12_sum 74 = .ok (.iload_n 3, 1) := by decide +kernel
theorem dX12_sum_75 : decode cX12_sum 75 = .ok (.iconst 1, 1) := by decide +kernel
theorem dX12_sum_76 : decode cX12_sum 76 = .ok (.isub, 1) := by decide +kernel
theorem dX12_sum_77 : decode cX12_sum 77 = .ok (.iaload, 1) := by decide +kernel
theorem dX12_sum_78 : decode cX12_sum 78 = .ok (.istore 6, 2) := by decide +kernel
theorem dX12_sum_80 : decode cX12_sum 80 = .ok (.aload_n 0, 1) := by decide +kernel
theorem dX12_sum_81 : decode cX12_sum 81 = .ok (.getfield 184, 3) := by decide +kernel
theorem dX12_sum_84 : decode cX12_sum 84 = .ok (.iload_n 3, 1) := by decide +kernel
theorem dX12_sum_85 : decode cX12_sum 85 = .ok (.iconst 2, 1) := by decide +kernel
theorem dX12_sum_86 : decode cX12_sum 86 = .ok (.isub, 1) := by decide +kernel
theorem dX12_sum_87 : decode cX12_sum 87 = .ok (.iaload, 1) := by decide +kernel
theorem dX12_sum_88 : decode cX12_sum 88 = .ok (.istore 7, 2) := by decide +kernel
theorem dX12_sum_90 : decode cX12_sum 90 = .ok (.iinc 3 (-1), 3) := by decide +kernel
theorem dX12_sum_93 : decode cX12_sum 93 = .ok (.iload 5, 2) := by decide +kernel
theorem dX12_sum_95 : decode cX12_sum 95 = .ok (.iconst 5, 1) := by decide +kernel
theorem dX12_sum_96 : decode cX12_sum 96 = .ok (.if_icmp .ne 15, 3) := by decide +kernel
theorem dX12_sum_99 : decode cX12_sum 99 = .ok (.iload 6, 2) := by decide +kernel
theorem dX12_sum_101 : decode cX12_sum 101 = .ok (.ifCond .ne 10, 3) := by decide +kernel
theorem dX12_sum_104 : decode cX12_sum 104 = .ok (.aload_n 0, 1) := by decide +kernel
theorem dX12_sum_105 : decode cX12_sum 105 = .ok (.iconst 1, 1) := by decide +kernel
theorem dX12_sum_106 : decode cX12_sum 106 = .ok (.putfield 447, 3) := by decide +kernel
theorem dX12_sum_109 : decode cX12_sum 109 = .ok (.iconst 0, 1) := by decide +kernel
theorem dX12_sum_110 : decode cX12_sum 110 = .ok (.ireturn, 1) := by decide +kernel
theorem dX12_sum_111 : decode cX12_sum 111 = .ok (.aload_n 0, 1) := by decide +kernel
theorem dX12_sum_112 : decode cX12_sum 112 = .ok (.getfield 184, 3) := by decide +kernel
theorem dX12_sum_115 : decode cX12_sum 115 = .ok (.iload_n 3, 1) := by decide +kernel
theorem dX12_sum_116 : decode cX12_sum 116 = .ok (.iconst 1, 1) := by decide +kernel
theorem dX12_sum_117 : decode cX12_sum 117 = .ok (.isub, 1) := by decide +kernel
theorem dX12_sum_118 : decode cX12_sum 118 = .ok (.iload 5, 2) := by decide +kernel
theorem dX12_sum_120 : decode cX12_sum 120 = .ok (.iconst 2, 1) := by decide +kernel
theorem dX12_sum_121 : decode cX12_sum 121 = .ok (.if_icmp .ne 11, 3) := by decide +kernel
theorem dX12_sum_124 : decode cX12_sum 124 = .ok (.iload 7, 2) := by decide +kernel
theorem dX12_sum_126 : decode cX12_sum 126 = .ok (.iload 6, 2) := by decide +kernel
theorem dX12_sum_128 : decode cX12_sum 128 = .ok (.iadd, 1) := by decide +kernel
theorem dX12_sum_129 : decode cX12_sum 129 = .ok (.goto 36, 3) := by decide +kernel
theorem dX12_sum_132 : decode cX12_sum 132 = .ok (.iload 5, 2) := by decide +kernel
