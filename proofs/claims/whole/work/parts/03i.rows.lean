theorem dX12_sum_134 : decode cX12_sum 134 = .ok (.iconst 3, 1) := by decide +kernel
theorem dX12_sum_135 : decode cX12_sum 135 = .ok (.if_icmp .ne 11, 3) := by decide +kernel
theorem dX12_sum_138 : decode cX12_sum 138 = .ok (.iload 7, 2) := by decide +kernel
theorem dX12_sum_140 : decode cX12_sum 140 = .ok (.iload 6, 2) := by decide +kernel
theorem dX12_sum_142 : decode cX12_sum 142 = .ok (.isub, 1) := by decide +kernel
theorem dX12_sum_143 : decode cX12_sum 143 = .ok (.goto 22, 3) := by decide +kernel
theorem dX12_sum_146 : decode cX12_sum 146 = .ok (.iload 5, 2) := by decide +kernel
theorem dX12_sum_148 : decode cX12_sum 148 = .ok (.iconst 4, 1) := by decide +kernel
theorem dX12_sum_149 : decode cX12_sum 149 = .ok (.if_icmp .ne 11, 3) := by decide +kernel
theorem dX12_sum_152 : decode cX12_sum 152 = .ok (.iload 7, 2) := by decide +kernel
theorem dX12_sum_154 : decode cX12_sum 154 = .ok (.iload 6, 2) := by decide +kernel
theorem dX12_sum_156 : decode cX12_sum 156 = .ok (.imul, 1) := by decide +kernel
theorem dX12_sum_157 : decode cX12_sum 157 = .ok (.goto 8, 3) := by decide +kernel
theorem dX12_sum_160 : decode cX12_sum 160 = .ok (.iload 7, 2) := by decide +kernel
theorem dX12_sum_162 : decode cX12_sum 162 = .ok (.iload 6, 2) := by decide +kernel
theorem dX12_sum_164 : decode cX12_sum 164 = .ok (.idiv, 1) := by decide +kernel
theorem dX12_sum_165 : decode cX12_sum 165 = .ok (.iastore, 1) := by decide +kernel
theorem dX12_sum_166 : decode cX12_sum 166 = .ok (.iinc 4 1, 3) := by decide +kernel
theorem dX12_sum_169 : decode cX12_sum 169 = .ok (.goto (-159), 3) := by decide +kernel
theorem dX12_sum_172 : decode cX12_sum 172 = .ok (.aload_n 0, 1) := by decide +kernel
theorem dX12_sum_173 : decode cX12_sum 173 = .ok (.getfield 184, 3) := by decide +kernel
theorem dX12_sum_176 : decode cX12_sum 176 = .ok (.iconst 0, 1) := by decide +kernel
theorem dX12_sum_177 : decode cX12_sum 177 = .ok (.iaload, 1) := by decide +kernel
theorem dX12_sum_178 : decode cX12_sum 178 = .ok (.ireturn, 1) := by decide +kernel
set_option maxRecDepth 20000 in
theorem ggX12_isLit_X12_sum : GoodIn wsX12_isLit wsX12_sum := goodIn_r _ [11, 3, 12, 13, 14, 15, 16, 17, 18, 19, 20, 21, 22, 23, 24, 25, 26, 27, 28, 29, 30, 31, 32, 33, 34, 35, 36, 37, 38, 39, 40, 41, 42, 43, 44, 45, 46, 47, 48, 49, 50, 51, 52, 53, 54, 55, 56, 57, 58, 59, 60, 61, 62, 63, 64, 65, 66, 67, 68, 69, 70, 71, 72, 73, 74, 75, 76, 77, 78, 79, 80, 81, 82, 83, 84, 85, 86, 87, 88, 89, 90, 91, 92, 93, 94, 95, 96] (by decide +kernel) (by decide +kernel)
set_option maxRecDepth 20000 in
theorem gX12_isLit_X12_sum : GoodIn wsX12_isLit (wsV RX12 451 RX12 yX12_sum wsX12_sum) := goodIn_app (goodIn_of _ (by decide +kernel)) ggX12_isLit_X12_sum
theorem dX12_isLit_0 : decode cX12_isLit 0 = .ok (.aload_n 0, 1) := by decide +kernel
theorem dX12_isLit_1 : decode cX12_isLit 1 = .ok (.aload_n 0, 1) := by decide +kernel
theorem dX12_isLit_2 : decode cX12_isLit 2 = .ok (.getfield 115, 3) := by decide +kernel
theorem dX12_isLit_5 : decode cX12_isLit 5 = .ok (.iload_n 1, 1) := by decide +kernel
theorem dX12_isLit_6 : decode cX12_isLit 6 = .ok (.iaload, 1) := by decide +kernel
theorem dX12_isLit_7 : decode cX12_isLit 7 = .ok (.aload_n 0, 1) := by decide +kernel
theorem dX12_isLit_8 : decode cX12_isLit 8 = .ok (.getfield 118, 3) := by decide +kernel
theorem dX12_isLit_11 : decode cX12_isLit 11 = .ok (.iload_n 1, 1) := by decide +kernel
theorem dX12_isLit_12 : decode cX12_isLit 12 = .ok (.iaload, 1) := by decide +kernel
theorem dX12_isLit_13 : decode cX12_isLit 13 = .ok (.invokevirtual 451, 3) := by decide +kernel
theorem dX12_isLit_16 : decode cX12_isLit 16 = .ok (.istore_n 2, 1) := by decide +kernel
theorem dX12_isLit_17 : decode cX12_isLit 17 = .ok (.aload_n 0, 1) := by decide +kernel
theorem dX12_isLit_18 : decode cX12_isLit 18 = .ok (.getfield 447, 3) := by decide +kernel
theorem dX12_isLit_21 : decode cX12_isLit 21 = .ok (.ifCond .eq 10, 3) := by decide +kernel
theorem dX12_isLit_24 : decode cX12_isLit 24 = .ok (.aload_n 0, 1) := by decide +kernel
theorem dX12_isLit_25 : decode cX12_isLit 25 = .ok (.getfield 109, 3) := by decide +kernel
theorem dX12_isLit_28 : decode cX12_isLit 28 = .ok (.iload_n 1, 1) := by decide +kernel
theorem dX12_isLit_29 : decode cX12_isLit 29 = .ok (.baload, 1) := by decide +kernel
theorem dX12_isLit_30 : decode cX12_isLit 30 = .ok (.ireturn, 1) := by decide +kernel
theorem dX12_isLit_31 : decode cX12_isLit 31 = .ok (.aload_n 0, 1) := by decide +kernel
theorem dX12_isLit_32 : decode cX12_isLit 32 = .ok (.aload_n 0, 1) := by decide +kernel
theorem dX12_isLit_33 : decode cX12_isLit 33 = .ok (.getfield 118, 3) := by decide +kernel
theorem dX12_isLit_36 : decode cX12_isLit 36 = .ok (.iload_n 1, 1) := by decide +kernel
theorem dX12_isLit_37 : decode cX12_isLit 37 = .ok (.iaload, 1) := by decide +kernel
theorem dX12_isLit_38 : decode cX12_isLit 38 = .ok (.aload_n 0, 1) := by decide +kernel
theorem dX12_isLit_39 : decode cX12_isLit 39 = .ok (.getfield 121, 3) := by decide +kernel
theorem dX12_isLit_42 : decode cX12_isLit 42 = .ok (.iload_n 1, 1) := by decide +kernel
theorem dX12_isLit_43 : decode cX12_isLit 43 = .ok (.iaload, 1) := by decide +kernel
theorem dX12_isLit_44 : decode cX12_isLit 44 = .ok (.invokevirtual 451, 3) := by decide +kernel
theorem dX12_isLit_47 : decode cX12_isLit 47 = .ok (.istore_n 3, 1) := by decide +kernel
theorem dX12_isLit_48 : decode cX12_isLit 48 = .ok (.aload_n 0, 1) := by decide +kernel
theorem dX12_isLit_49 : decode cX12_isLit 49 = .ok (.getfield 447, 3) := by decide +kernel
theorem dX12_isLit_52 : decode cX12_isLit 52 = .ok (.ifCond .eq 10, 3) := by decide +kernel
theorem dX12_isLit_55 : decode cX12_isLit 55 = .ok (.aload_n 0, 1) := by decide +kernel
theorem dX12_isLit_56 : decode cX12_isLit 56 = .ok (.getfield 109, 3) := by decide +kernel
theorem dX12_isLit_59 : decode cX12_isLit 59 = .ok (.iload_n 1, 1) := by decide +kernel
theorem dX12_isLit_60 : decode cX12_isLit 60 = .ok (.baload, 1) := by decide +kernel
theorem dX12_isLit_61 : decode cX12_isLit 61 = .ok (.ireturn, 1) := by decide +kernel
theorem dX12_isLit_62 : decode cX12_isLit 62 = .ok (.aload_n 0, 1) := by decide +kernel
theorem dX12_isLit_63 : decode cX12_isLit 63 = .ok (.getfield 112, 3) := by decide +kernel
theorem dX12_isLit_66 : decode cX12_isLit 66 = .ok (.iload_n 1, 1) := by decide +kernel
theorem dX12_isLit_67 : decode cX12_isLit 67 = .ok (.iaload, 1) := by decide +kernel
theorem dX12_isLit_68 : decode cX12_isLit 68 = .ok (.sipush 300, 3) := by decide +kernel
theorem dX12_isLit_71 : decode cX12_isLit 71 = .ok (.if_icmp .ne 16, 3) := by decide +kernel
theorem dX12_isLit_74 : decode cX12_isLit 74 = .ok (.iload_n 2, 1) := by decide +kernel
theorem dX12_isLit_75 : decode cX12_isLit 75 = .ok (.iload_n 3, 1) := by decide +kernel
theorem dX12_isLit_76 : decode cX12_isLit 76 = .ok (.if_icmp .ne 7, 3) := by decide +kernel
theorem dX12_isLit_79 : decode cX12_isLit 79 = .ok (.iconst 1, 1) := by decide +kernel
theorem dX12_isLit_80 : decode cX12_isLit 80 = .ok (.goto 67, 3) := by decide +kernel
theorem dX12_isLit_83 : decode cX12_isLit 83 = .ok (.iconst 0, 1) := by decide +kernel
theorem dX12_isLit_84 : decode cX12_isLit 84 = .ok (.goto 63, 3) := by decide +kernel
theorem dX12_isLit_87 : decode cX12_isLit 87 = .ok (.aload_n 0, 1) := by decide +kernel
theorem dX12_isLit_88 : decode cX12_isLit 88 = .ok (.getfield 112, 3) := by decide +kernel
theorem dX12_isLit_91 : decode cX12_isLit 91 = .ok (.iload_n 1, 1) := by decide +kernel
theorem dX12_isLit_92 : decode cX12_isLit 92 = .ok (.iaload, 1) := by decide +kernel
theorem dX12_isLit_93 : decode cX12_isLit 93 = .ok (.sipush 301, 3) := by decide +kernel
theorem dX12_isLit_96 : decode cX12_isLit 96 = .ok (.if_icmp .ne 16, 3) := by decide +kernel
theorem dX12_isLit_99 : decode cX12_isLit 99 = .ok (.iload_n 2, 1) := by decide +kernel
theorem dX12_isLit_100 : decode cX12_isLit 100 = .ok (.iload_n 3, 1) := by decide +kernel
theorem dX12_isLit_101 : decode cX12_isLit 101 = .ok (.if_icmp .eq 7, 3) := by decide +kernel
theorem dX12_isLit_104 : decode cX12_isLit 104 = .ok (.iconst 1, 1) := by decide +kernel
theorem dX12_isLit_105 : decode cX12_isLit 105 = .ok (.goto 42, 3) := by decide +kernel
theorem dX12_isLit_108 : decode cX12_isLit 108 = .ok (.iconst 0, 1) := by decide +kernel
theorem dX12_isLit_109 : decode cX12_isLit 109 = .ok (.goto 38, 3) := by decide +kernel
theorem dX12_isLit_112 : decode cX12_isLit 112 = .ok (.aload_n 0, 1) := by decide +kernel
theorem dX12_isLit_113 : decode cX12_isLit 113 = .ok (.getfield 112, 3) := by decide +kernel
theorem dX12_isLit_116 : decode cX12_isLit 116 = .ok (.iload_n 1, 1) := by decide +kernel
theorem dX12_isLit_117 : decode cX12_isLit 117 = .ok (.iaload, 1) := by decide +kernel
theorem dX12_isLit_118 : decode cX12_isLit 118 = .ok (.sipush 302, 3) := by decide +kernel
theorem dX12_isLit_121 : decode cX12_isLit 121 = .ok (.if_icmp .ne 16, 3) := by decide +kernel
theorem dX12_isLit_124 : decode cX12_isLit 124 = .ok (.iload_n 2, 1) := by decide +kernel
theorem dX12_isLit_125 : decode cX12_isLit 125 = .ok (.iload_n 3, 1) := by decide +kernel
theorem dX12_isLit_126 : decode cX12_isLit 126 = .ok (.if_icmp .gt 7, 3) := by decide +kernel
theorem dX12_isLit_129 : decode cX12_isLit 129 = .ok (.iconst 1, 1) := by decide +kernel
theorem dX12_isLit_130 : decode cX12_isLit 130 = .ok (.goto 17, 3) := by decide +kernel
theorem dX12_isLit_133 : decode cX12_isLit 133 = .ok (.iconst 0, 1) := by decide +kernel
theorem dX12_isLit_134 : decode cX12_isLit 134 = .ok (.goto 13, 3) := by decide +kernel
theorem dX12_isLit_137 : decode cX12_isLit 137 = .ok (.iload_n 2, 1) := by decide +kernel
theorem dX12_isLit_138 : decode cX12_isLit 138 = .ok (.iload_n 3, 1) := by decide +kernel
theorem dX12_isLit_139 : decode cX12_isLit 139 = .ok (.if_icmp .ge 7, 3) := by decide +kernel
theorem dX12_isLit_142 : decode cX12_isLit 142 = .ok (.iconst 1, 1) := by decide +kernel
theorem dX12_isLit_143 : decode cX12_isLit 143 = .ok (.goto 4, 3) := by decide +kernel
theorem dX12_isLit_146 : decode cX12_isLit 146 = .ok (.iconst 0, 1) := by decide +kernel
theorem dX12_isLit_147 : decode cX12_isLit 147 = .ok (.istore 4, 2) := by decide +kernel
theorem dX12_isLit_149 : decode cX12_isLit 149 = .ok (.iload 4, 2) := by decide +kernel
theorem dX12_isLit_151 : decode cX12_isLit 151 = .ok (.aload_n 0, 1) := by decide +kernel
theorem dX12_isLit_152 : decode cX12_isLit 152 = .ok (.getfield 109, 3) := by decide +kernel
theorem dX12_isLit_155 : decode cX12_isLit 155 = .ok (.iload_n 1, 1) := by decide +kernel
theorem dX12_isLit_156 : decode cX12_isLit 156 = .ok (.baload, 1) := by decide +kernel
theorem dX12_isLit_157 : decode cX12_isLit 157 = .ok (.if_icmp .eq 7, 3) := by decide +kernel
theorem dX12_isLit_160 : decode cX12_isLit 160 = .ok (.iconst 1, 1) := by decide +kernel
theorem dX12_isLit_161 : decode cX12_isLit 161 = .ok (.goto 4, 3) := by decide +kernel
theorem dX12_isLit_164 : decode cX12_isLit 164 = .ok (.iconst 0, 1) := by decide +kernel
theorem dX12_isLit_165 : decode cX12_isLit 165 = .ok (.ireturn, 1) := by decide +kernel
set_option maxRecDepth 20000 in
theorem ggX12_isHeld_X12_isLit : GoodIn wsX12_isHeld wsX12_isLit := goodIn_r _ [6, 7, 8, 9, 10, 11, 12, 13, 14, 15, 5, 16, 17, 18, 19, 20, 21, 22, 23, 24, 25, 26, 27, 28, 29, 30, 31, 32, 33, 34, 35, 36, 37, 38, 39, 40, 41, 42, 43, 44, 45, 46, 47, 48, 49, 50, 51, 52, 53, 54, 55, 56, 57, 58, 59, 60, 61, 62, 63, 64, 65, 66, 67, 68, 69, 70, 71, 72, 73, 74, 75, 76, 77, 78, 79, 80, 81, 82, 83, 84, 85, 86, 87, 88, 89, 90, 91, 92, 93, 94, 95, 96, 97, 98, 99, 100, 101] (by decide +kernel) (by decide +kernel)
set_option maxRecDepth 20000 in
theorem gX12_isHeld_X12_isLit : GoodIn wsX12_isHeld (wsV RX12 454 RX12 yX12_isLit wsX12_isLit) := goodIn_app (goodIn_of _ (by decide +kernel)) ggX12_isHeld_X12_isLit
theorem dX12_isHeld_0 : decode cX12_isHeld 0 = .ok (.iload_n 1, 1) := by decide +kernel
theorem dX12_isHeld_1 : decode cX12_isHeld 1 = .ok (.istore_n 3, 1) := by decide +kernel
theorem dX12_isHeld_2 : decode cX12_isHeld 2 = .ok (.iload_n 3, 1) := by decide +kernel
theorem dX12_isHeld_3 : decode cX12_isHeld 3 = .ok (.iload_n 2, 1) := by decide +kernel
theorem dX12_isHeld_4 : decode cX12_isHeld 4 = .ok (.if_icmp .ge 58, 3) := by decide +kernel
theorem dX12_isHeld_7 : decode cX12_isHeld 7 = .ok (.aload_n 0, 1) := by decide +kernel
theorem dX12_isHeld_8 : decode cX12_isHeld 8 = .ok (.getfield 124, 3) := by decide +kernel
theorem dX12_isHeld_11 : decode cX12_isHeld 11 = .ok (.iload_n 3, 1) := by decide +kernel
theorem dX12_isHeld_12 : decode cX12_isHeld 12 = .ok (.iaload, 1) := by decide +kernel
theorem dX12_isHeld_13 : decode cX12_isHeld 13 = .ok (.istore 4, 2) := by decide +kernel
theorem dX12_isHeld_15 : decode cX12_isHeld 15 = .ok (.iconst 1, 1) := by decide +kernel
theorem dX12_isHeld_16 : decode cX12_isHeld 16 = .ok (.istore 5, 2) := by decide +kernel
theorem dX12_isHeld_18 : decode cX12_isHeld 18 = .ok (.iload_n 3, 1) := by decide +kernel
theorem dX12_isHeld_19 : decode cX12_isHeld 19 = .ok (.iload_n 2, 1) := by decide +kernel
theorem dX12_isHeld_20 : decode cX12_isHeld 20 = .ok (.if_icmp .ge 32, 3) := by decide +kernel
theorem dX12_isHeld_23 : decode cX12_isHeld 23 = .ok (.aload_n 0, 1) := by decide +kernel
theorem dX12_isHeld_24 : decode cX12_isHeld 24 = .ok (.getfield 124, 3) := by decide +kernel
theorem dX12_isHeld_27 : decode cX12_isHeld 27 = .ok (.iload_n 3, 1) := by decide +kernel
theorem dX12_isHeld_28 : decode cX12_isHeld 28 = .ok (.iaload, 1) := by decide +kernel
theorem dX12_isHeld_29 : decode cX12_isHeld 29 = .ok (.iload 4, 2) := by decide +kernel
theorem dX12_isHeld_31 : decode cX12_isHeld 31 = .ok (.if_icmp .ne 21, 3) := by decide +kernel
theorem dX12_isHeld_34 : decode cX12_isHeld 34 = .ok (.iload 5, 2) := by decide +kernel
theorem dX12_isHeld_36 : decode cX12_isHeld 36 = .ok (.ifCond .eq 10, 3) := by decide +kernel
theorem dX12_isHeld_39 : decode cX12_isHeld 39 = .ok (.aload_n 0, 1) := by decide +kernel
theorem dX12_isHeld_40 : decode cX12_isHeld 40 = .ok (.iload_n 3, 1) := by decide +kernel
theorem dX12_isHeld_41 : decode cX12_isHeld 41 = .ok (.invokevirtual 454, 3) := by decide +kernel
theorem dX12_isHeld_44 : decode cX12_isHeld 44 = .ok (.istore 5, 2) := by decide +kernel
theorem dX12_isHeld_46 : decode cX12_isHeld 46 = .ok (.iinc 3 1, 3) := by decide +kernel
theorem dX12_isHeld_49 : decode cX12_isHeld 49 = .ok (.goto (-31), 3) := by decide +kernel
theorem dX12_isHeld_52 : decode cX12_isHeld 52 = .ok (.iload 5, 2) := by decide +kernel
theorem dX12_isHeld_54 : decode cX12_isHeld 54 = .ok (.ifCond .eq 5, 3) := by decide +kernel
theorem dX12_isHeld_57 : decode cX12_isHeld 57 = .ok (.iconst 1, 1) := by decide +kernel
theorem dX12_isHeld_58 : decode cX12_isHeld 58 = .ok (.ireturn, 1) := by decide +kernel
theorem dX12_isHeld_59 : decode cX12_isHeld 59 = .ok (.goto (-57), 3) := by decide +kernel
theorem dX12_isHeld_62 : decode cX12_isHeld 62 = .ok (.iconst 0, 1) := by decide +kernel
theorem dX12_isHeld_63 : decode cX12_isHeld 63 = .ok (.ireturn, 1) := by decide +kernel
set_option maxRecDepth 20000 in
theorem ggX12_thing_X12_isThing : GoodIn wsX12_thing wsX12_isThing := goodIn_r _ [10, 11, 40, 41, 42, 43, 44, 45, 46, 47, 48, 49, 50, 51, 52, 53, 54, 55, 56, 57, 58, 59, 60, 61, 62, 63, 64, 65, 66, 67, 68, 69, 70, 71, 72, 73, 74, 75, 76, 77, 78, 79, 80, 81, 82, 83, 84, 85, 86, 87, 88, 89, 90, 91, 92, 93, 94, 95, 96, 97, 98, 99, 100, 101, 102, 103, 104, 105, 106, 107, 108, 109, 110, 111, 112, 113, 114, 115, 116, 117, 118, 119, 120] (by decide +kernel) (by decide +kernel)
set_option maxRecDepth 20000 in
theorem gX12_thing_X12_isThing : GoodIn wsX12_thing (wsV RX12 415 RX12 yX12_isThing wsX12_isThing) := goodIn_app (goodIn_of _ (by decide +kernel)) ggX12_thing_X12_isThing
set_option maxRecDepth 20000 in
theorem ggX12_thing_X12_isIn : GoodIn wsX12_thing wsX12_isIn := goodIn_r _ [14] (by decide +kernel) (by decide +kernel)
set_option maxRecDepth 20000 in
theorem gX12_thing_X12_isIn : GoodIn wsX12_thing (va_wsS RX12 407 yX12_isIn wsX12_isIn) := goodIn_app (goodIn_of _ (by decide +kernel)) ggX12_thing_X12_isIn
set_option maxRecDepth 20000 in
theorem ggX12_thing_X12_isKnown : GoodIn wsX12_thing wsX12_isKnown := goodIn_r _ [18, 19, 40, 41, 42, 43, 44, 45, 46, 47, 48, 49, 50, 51, 52, 53, 54, 55, 56, 57, 58, 59, 60, 61, 62, 63, 64, 65, 66, 67, 68, 69, 70, 71, 72, 73, 74, 75, 76, 77, 78, 79, 80, 81, 82, 83, 84, 85, 86, 87, 88, 89, 90, 91, 92, 93, 94, 95, 96, 97, 98, 99, 100, 101, 102, 103, 104, 105, 106, 107, 108, 109, 110, 111, 112, 113, 114, 115, 116, 117, 118, 119, 120] (by decide +kernel) (by decide +kernel)
set_option maxRecDepth 20000 in
theorem gX12_thing_X12_isKnown : GoodIn wsX12_thing (wsV RX12 457 RX12 yX12_isKnown wsX12_isKnown) := goodIn_app (goodIn_of _ (by decide +kernel)) ggX12_thing_X12_isKnown
set_option maxRecDepth 20000 in
theorem ggX12_thing_X12_layThings : GoodIn wsX12_thing wsX12_layThings := goodIn_r _ [23, 11, 1, 24, 25, 2, 26, 27, 3, 28, 5, 29, 30, 31, 32, 9, 33, 34, 35, 36, 37, 38, 39, 40, 41, 42, 43, 44, 45, 46, 47, 48, 49, 50, 51, 52, 53, 54, 55, 56, 57, 58, 59, 60, 61, 62, 63, 64, 65, 66, 67, 68, 69, 70, 71, 72, 73, 74, 75, 76, 77, 78, 79, 80, 81, 82, 83, 84, 85, 86, 87, 88, 89, 90, 91, 92, 93, 94, 95, 96, 97, 98, 99, 100, 101, 102, 103, 104, 105, 106, 107, 108, 109, 110, 111, 112, 113, 114, 115, 116, 117, 118, 119, 120] (by decide +kernel) (by decide +kernel)
set_option maxRecDepth 20000 in
theorem gX12_thing_X12_layThings : GoodIn wsX12_thing (wsV RX12 428 RX12 yX12_layThings wsX12_layThings) := goodIn_app (goodIn_of _ (by decide +kernel)) ggX12_thing_X12_layThings
theorem dX12_thing_0 : decode cX12_thing 0 = .ok (.aload_n 0, 1) := by decide +kernel
theorem dX12_thing_1 : decode cX12_thing 1 = .ok (.iload_n 1, 1) := by decide +kernel
theorem dX12_thing_2 : decode cX12_thing 2 = .ok (.invokevirtual 415, 3) := by decide +kernel
theorem dX12_thing_5 : decode cX12_thing 5 = .ok (.ifCond .eq 20, 3) := by decide +kernel
theorem dX12_thing_8 : decode cX12_thing 8 = .ok (.iload_n 2, 1) := by decide +kernel
theorem dX12_thing_9 : decode cX12_thing 9 = .ok (.iconst 0, 1) := by decide +kernel
theorem dX12_thing_10 : decode cX12_thing 10 = .ok (.iconst 4, 1) := by decide +kernel
theorem dX12_thing_11 : decode cX12_thing 11 = .ok (.invokestatic 407, 3) := by decide +kernel
theorem dX12_thing_14 : decode cX12_thing 14 = .ok (.ifCond .eq 11, 3) := by decide +kernel
theorem dX12_thing_17 : decode cX12_thing 17 = .ok (.aload_n 0, 1) := by decide +kernel
theorem dX12_thing_18 : decode cX12_thing 18 = .ok (.iload_n 3, 1) := by decide +kernel
theorem dX12_thing_19 : decode cX12_thing 19 = .ok (.invokevirtual 457, 3) := by decide +kernel
theorem dX12_thing_22 : decode cX12_thing 22 = .ok (.ifCond .ne 5, 3) := by decide +kernel
theorem dX12_thing_25 : decode cX12_thing 25 = .ok (.iconst (-1), 1) := by decide +kernel
theorem dX12_thing_26 : decode cX12_thing 26 = .ok (.ireturn, 1) := by decide +kernel
theorem dX12_thing_27 : decode cX12_thing 27 = .ok (.aload_n 0, 1) := by decide +kernel
theorem dX12_thing_28 : decode cX12_thing 28 = .ok (.iload_n 3, 1) := by decide +kernel
theorem dX12_thing_29 : decode cX12_thing 29 = .ok (.invokevirtual 428, 3) := by decide +kernel
theorem dX12_thing_32 : decode cX12_thing 32 = .ok (.iload_n 2, 1) := by decide +kernel
theorem dX12_thing_33 : decode cX12_thing 33 = .ok (.ifCond .ne 12, 3) := by decide +kernel
theorem dX12_thing_36 : decode cX12_thing 36 = .ok (.aload_n 0, 1) := by decide +kernel
theorem dX12_thing_37 : decode cX12_thing 37 = .ok (.getfield 157, 3) := by decide +kernel
theorem dX12_thing_40 : decode cX12_thing 40 = .ok (.iload_n 1, 1) := by decide +kernel
theorem dX12_thing_41 : decode cX12_thing 41 = .ok (.iaload, 1) := by decide +kernel
theorem dX12_thing_42 : decode cX12_thing 42 = .ok (.goto 67, 3) := by decide +kernel
theorem dX12_thing_45 : decode cX12_thing 45 = .ok (.iload_n 2, 1) := by decide +kernel
theorem dX12_thing_46 : decode cX12_thing 46 = .ok (.iconst 1, 1) := by decide +kernel
theorem dX12_thing_47 : decode cX12_thing 47 = .ok (.if_icmp .ne 12, 3) := by decide +kernel
theorem dX12_thing_50 : decode cX12_thing 50 = .ok (.aload_n 0, 1) := by decide +kernel
theorem dX12_thing_51 : decode cX12_thing 51 = .ok (.getfield 160, 3) := by decide +kernel
theorem dX12_thing_54 : decode cX12_thing 54 = .ok (.iload_n 1, 1) := by decide +kernel
theorem dX12_thing_55 : decode cX12_thing 55 = .ok (.iaload, 1) := by decide +kernel
theorem dX12_thing_56 : decode cX12_thing 56 = .ok (.goto 53, 3) := by decide +kernel
theorem dX12_thing_59 : decode cX12_thing 59 = .ok (.iload_n 2, 1) := by decide +kernel
theorem dX12_thing_60 : decode cX12_thing 60 = .ok (.iconst 2, 1) := by decide +kernel
theorem dX12_thing_61 : decode cX12_thing 61 = .ok (.if_icmp .ne 12, 3) := by decide +kernel
theorem dX12_thing_64 : decode cX12_thing 64 = .ok (.aload_n 0, 1) := by decide +kernel
theorem dX12_thing_65 : decode cX12_thing 65 = .ok (.getfield 163, 3) := by decide +kernel
theorem dX12_thing_68 : decode cX12_thing 68 = .ok (.iload_n 1, 1) := by decide +kernel
theorem dX12_thing_69 : decode cX12_thing 69 = .ok (.iaload, 1) := by decide +kernel
theorem dX12_thing_70 : decode cX12_thing 70 = .ok (.goto 39, 3) := by decide +kernel
theorem dX12_thing_73 : decode cX12_thing 73 = .ok (.iload_n 2, 1) := by decide +kernel
theorem dX12_thing_74 : decode cX12_thing 74 = .ok (.iconst 3, 1) := by decide +kernel
theorem dX12_thing_75 : decode cX12_thing 75 = .ok (.if_icmp .ne 20, 3) := by decide +kernel
theorem dX12_thing_78 : decode cX12_thing 78 = .ok (.aload_n 0, 1) := by decide +kernel
theorem dX12_thing_79 : decode cX12_thing 79 = .ok (.getfield 40, 3) := by decide +kernel
theorem dX12_thing_82 : decode cX12_thing 82 = .ok (.iload_n 1, 1) := by decide +kernel
theorem dX12_thing_83 : decode cX12_thing 83 = .ok (.baload, 1) := by decide +kernel
theorem dX12_thing_84 : decode cX12_thing 84 = .ok (.ifCond .eq 7, 3) := by decide +kernel
theorem dX12_thing_87 : decode cX12_thing 87 = .ok (.iconst 1, 1) := by decide +kernel
theorem dX12_thing_88 : decode cX12_thing 88 = .ok (.goto 21, 3) := by decide +kernel
theorem dX12_thing_91 : decode cX12_thing 91 = .ok (.iconst 0, 1) := by decide +kernel
theorem dX12_thing_92 : decode cX12_thing 92 = .ok (.goto 17, 3) := by decide +kernel
theorem dX12_thing_95 : decode cX12_thing 95 = .ok (.aload_n 0, 1) := by decide +kernel
theorem dX12_thing_96 : decode cX12_thing 96 = .ok (.getfield 166, 3) := by decide +kernel
theorem dX12_thing_99 : decode cX12_thing 99 = .ok (.iload_n 1, 1) := by decide +kernel
theorem dX12_thing_100 : decode cX12_thing 100 = .ok (.baload, 1) := by decide +kernel
theorem dX12_thing_101 : decode cX12_thing 101 = .ok (.ifCond .eq 7, 3) := by decide +kernel
theorem dX12_thing_104 : decode cX12_thing 104 = .ok (.iconst 1, 1) := by decide +kernel
theorem dX12_thing_105 : decode cX12_thing 105 = .ok (.goto 4, 3) := by decide +kernel
theorem dX12_thing_108 : decode cX12_thing 108 = .ok (.iconst 0, 1) := by decide +kernel
theorem dX12_thing_109 : decode cX12_thing 109 = .ok (.ireturn, 1) := by decide +kernel
set_option maxRecDepth 20000 in
theorem ggX12_degree_X12_isIn : GoodIn wsX12_degree wsX12_isIn := goodIn_r _ [4] (by decide +kernel) (by decide +kernel)
set_option maxRecDepth 20000 in
theorem gX12_degree_X12_isIn : GoodIn wsX12_degree (va_wsS RX12 407 yX12_isIn wsX12_isIn) := goodIn_app (goodIn_of _ (by decide +kernel)) ggX12_degree_X12_isIn
set_option maxRecDepth 20000 in
theorem ggX12_degree_X12_degreeOf : GoodIn wsX12_degree wsX12_degreeOf := goodIn_r _ [7, 8, 9, 3, 10] (by decide +kernel) (by decide +kernel)
set_option maxRecDepth 20000 in
theorem gX12_degree_X12_degreeOf : GoodIn wsX12_degree (va_wsS RX12 431 yX12_degreeOf wsX12_degreeOf) := goodIn_app (goodIn_of _ (by decide +kernel)) ggX12_degree_X12_degreeOf
theorem dX12_degree_0 : decode cX12_degree 0 = .ok (.iload_n 1, 1) := by decide +kernel
theorem dX12_degree_1 : decode cX12_degree 1 = .ok (.sipush (-9999), 3) := by decide +kernel
theorem dX12_degree_4 : decode cX12_degree 4 = .ok (.sipush 9999, 3) := by decide +kernel
theorem dX12_degree_7 : decode cX12_degree 7 = .ok (.invokestatic 407, 3) := by decide +kernel
theorem dX12_degree_10 : decode cX12_degree 10 = .ok (.ifCond .eq 24, 3) := by decide +kernel
theorem dX12_degree_13 : decode cX12_degree 13 = .ok (.iload_n 2, 1) := by decide +kernel
theorem dX12_degree_14 : decode cX12_degree 14 = .ok (.sipush (-9999), 3) := by decide +kernel
theorem dX12_degree_17 : decode cX12_degree 17 = .ok (.sipush 9999, 3) := by decide +kernel
theorem dX12_degree_20 : decode cX12_degree 20 = .ok (.invokestatic 407, 3) := by decide +kernel
theorem dX12_degree_23 : decode cX12_degree 23 = .ok (.ifCond .eq 11, 3) := by decide +kernel
theorem dX12_degree_26 : decode cX12_degree 26 = .ok (.iload_n 1, 1) := by decide +kernel
theorem dX12_degree_27 : decode cX12_degree 27 = .ok (.ifCond .ne 11, 3) := by decide +kernel
theorem dX12_degree_30 : decode cX12_degree 30 = .ok (.iload_n 2, 1) := by decide +kernel
theorem dX12_degree_31 : decode cX12_degree 31 = .ok (.ifCond .ne 7, 3) := by decide +kernel
theorem dX12_degree_34 : decode cX12_degree 34 = .ok (.iconst (-1), 1) := by decide +kernel
theorem dX12_degree_35 : decode cX12_degree 35 = .ok (.goto 8, 3) := by decide +kernel
theorem dX12_degree_38 : decode cX12_degree 38 = .ok (.iload_n 1, 1) := by decide +kernel
theorem dX12_degree_39 : decode cX12_degree 39 = .ok (.iload_n 2, 1) := by decide +kernel
theorem dX12_degree_40 : decode cX12_degree 40 = .ok (.invokestatic 431, 3) := by decide +kernel
theorem dX12_degree_43 : decode cX12_degree 43 = .ok (.ireturn, 1) := by decide +kernel
theorem dX12_vectorOf_0 : decode cX12_vectorOf 0 = .ok (.iload_n 0, 1) := by decide +kernel
theorem dX12_vectorOf_1 : decode cX12_vectorOf 1 = .ok (.bipush 45, 2) := by decide +kernel
theorem dX12_vectorOf_3 : decode cX12_vectorOf 3 = .ok (.if_icmp .gt 14, 3) := by decide +kernel
theorem dX12_vectorOf_6 : decode cX12_vectorOf 6 = .ok (.iload_n 1, 1) := by decide +kernel
theorem dX12_vectorOf_7 : decode cX12_vectorOf 7 = .ok (.ifCond .ne 7, 3) := by decide +kernel
theorem dX12_vectorOf_10 : decode cX12_vectorOf 10 = .ok (.iload_n 0, 1) := by decide +kernel
theorem dX12_vectorOf_11 : decode cX12_vectorOf 11 = .ok (.goto 5, 3) := by decide +kernel
theorem dX12_vectorOf_14 : decode cX12_vectorOf 14 = .ok (.bipush 45, 2) := by decide +kernel
theorem dX12_vectorOf_16 : decode cX12_vectorOf 16 = .ok (.ireturn, 1) := by decide +kernel
theorem dX12_vectorOf_17 : decode cX12_vectorOf 17 = .ok (.iload_n 0, 1) := by decide +kernel
theorem dX12_vectorOf_18 : decode cX12_vectorOf 18 = .ok (.sipush 135, 3) := by decide +kernel
theorem dX12_vectorOf_21 : decode cX12_vectorOf 21 = .ok (.if_icmp .gt 17, 3) := by decide +kernel
theorem dX12_vectorOf_24 : decode cX12_vectorOf 24 = .ok (.iload_n 1, 1) := by decide +kernel
theorem dX12_vectorOf_25 : decode cX12_vectorOf 25 = .ok (.ifCond .ne 8, 3) := by decide +kernel
theorem dX12_vectorOf_28 : decode cX12_vectorOf 28 = .ok (.bipush 45, 2) := by decide +kernel
theorem dX12_vectorOf_30 : decode cX12_vectorOf 30 = .ok (.goto 7, 3) := by decide +kernel
theorem dX12_vectorOf_33 : decode cX12_vectorOf 33 = .ok (.bipush 90, 2) := by decide +kernel
theorem dX12_vectorOf_35 : decode cX12_vectorOf 35 = .ok (.iload_n 0, 1) := by decide +kernel
theorem dX12_vectorOf_36 : decode cX12_vectorOf 36 = .ok (.isub, 1) := by decide +kernel
theorem dX12_vectorOf_37 : decode cX12_vectorOf 37 = .ok (.ireturn, 1) := by decide +kernel
theorem dX12_vectorOf_38 : decode cX12_vectorOf 38 = .ok (.iload_n 0, 1) := by decide +kernel
theorem dX12_vectorOf_39 : decode cX12_vectorOf 39 = .ok (.sipush 225, 3) := by decide +kernel
theorem dX12_vectorOf_42 : decode cX12_vectorOf 42 = .ok (.if_icmp .gt 18, 3) := by decide +kernel
theorem dX12_vectorOf_45 : decode cX12_vectorOf 45 = .ok (.iload_n 1, 1) := by decide +kernel
theorem dX12_vectorOf_46 : decode cX12_vectorOf 46 = .ok (.ifCond .ne 11, 3) := by decide +kernel
theorem dX12_vectorOf_49 : decode cX12_vectorOf 49 = .ok (.sipush 180, 3) := by decide +kernel
theorem dX12_vectorOf_52 : decode cX12_vectorOf 52 = .ok (.iload_n 0, 1) := by decide +kernel
theorem dX12_vectorOf_53 : decode cX12_vectorOf 53 = .ok (.isub, 1) := by decide +kernel
theorem dX12_vectorOf_54 : decode cX12_vectorOf 54 = .ok (.goto 5, 3) := by decide +kernel
theorem dX12_vectorOf_57 : decode cX12_vectorOf 57 = .ok (.bipush (-45), 2) := by decide +kernel
theorem dX12_vectorOf_59 : decode cX12_vectorOf 59 = .ok (.ireturn, 1) := by decide +kernel
theorem dX12_vectorOf_60 : decode cX12_vectorOf 60 = .ok (.iload_n 0, 1) := by decide +kernel
theorem dX12_vectorOf_61 : decode cX12_vectorOf 61 = .ok (.sipush 315, 3) := by decide +kernel
theorem dX12_vectorOf_64 : decode cX12_vectorOf 64 = .ok (.if_icmp .gt 18, 3) := by decide +kernel
theorem dX12_vectorOf_67 : decode cX12_vectorOf 67 = .ok (.iload_n 1, 1) := by decide +kernel
theorem dX12_vectorOf_68 : decode cX12_vectorOf 68 = .ok (.ifCond .ne 8, 3) := by decide +kernel
theorem dX12_vectorOf_71 : decode cX12_vectorOf 71 = .ok (.bipush (-45), 2) := by decide +kernel
theorem dX12_vectorOf_73 : decode cX12_vectorOf 73 = .ok (.goto 8, 3) := by decide +kernel
theorem dX12_vectorOf_76 : decode cX12_vectorOf 76 = .ok (.iload_n 0, 1) := by decide +kernel
theorem dX12_vectorOf_77 : decode cX12_vectorOf 77 = .ok (.sipush 270, 3) := by decide +kernel
theorem dX12_vectorOf_80 : decode cX12_vectorOf 80 = .ok (.isub, 1) := by decide +kernel
theorem dX12_vectorOf_81 : decode cX12_vectorOf 81 = .ok (.ireturn, 1) := by decide +kernel
theorem dX12_vectorOf_82 : decode cX12_vectorOf 82 = .ok (.iload_n 1, 1) := by decide +kernel
theorem dX12_vectorOf_83 : decode cX12_vectorOf 83 = .ok (.ifCond .ne 11, 3) := by decide +kernel
theorem dX12_vectorOf_86 : decode cX12_vectorOf 86 = .ok (.iload_n 0, 1) := by decide +kernel
theorem dX12_vectorOf_87 : decode cX12_vectorOf 87 = .ok (.sipush 360, 3) := by decide +kernel
theorem dX12_vectorOf_90 : decode cX12_vectorOf 90 = .ok (.isub, 1) := by decide +kernel
theorem dX12_vectorOf_91 : decode cX12_vectorOf 91 = .ok (.goto 5, 3) := by decide +kernel
theorem dX12_vectorOf_94 : decode cX12_vectorOf 94 = .ok (.bipush 45, 2) := by decide +kernel
theorem dX12_vectorOf_96 : decode cX12_vectorOf 96 = .ok (.ireturn, 1) := by decide +kernel
set_option maxRecDepth 20000 in
theorem ggX12_vector_X12_isIn : GoodIn wsX12_vector wsX12_isIn := goodIn_r _ [4] (by decide +kernel) (by decide +kernel)
set_option maxRecDepth 20000 in
theorem gX12_vector_X12_isIn : GoodIn wsX12_vector (va_wsS RX12 407 yX12_isIn wsX12_isIn) := goodIn_app (goodIn_of _ (by decide +kernel)) ggX12_vector_X12_isIn
set_option maxRecDepth 20000 in
theorem ggX12_vector_X12_vectorOf : GoodIn wsX12_vector wsX12_vectorOf := goodIn_r _ [7] (by decide +kernel) (by decide +kernel)
set_option maxRecDepth 20000 in
theorem gX12_vector_X12_vectorOf : GoodIn wsX12_vector (va_wsS RX12 460 yX12_vectorOf wsX12_vectorOf) := goodIn_app (goodIn_of _ (by decide +kernel)) ggX12_vector_X12_vectorOf
theorem dX12_vector_0 : decode cX12_vector 0 = .ok (.iload_n 1, 1) := by decide +kernel
theorem dX12_vector_1 : decode cX12_vector 1 = .ok (.iconst 0, 1) := by decide +kernel
theorem dX12_vector_2 : decode cX12_vector 2 = .ok (.sipush 359, 3) := by decide +kernel
theorem dX12_vector_5 : decode cX12_vector 5 = .ok (.invokestatic 407, 3) := by decide +kernel
theorem dX12_vector_8 : decode cX12_vector 8 = .ok (.ifCond .eq 20, 3) := by decide +kernel
theorem dX12_vector_11 : decode cX12_vector 11 = .ok (.iload_n 2, 1) := by decide +kernel
theorem dX12_vector_12 : decode cX12_vector 12 = .ok (.iconst 0, 1) := by decide +kernel
theorem dX12_vector_13 : decode cX12_vector 13 = .ok (.iconst 1, 1) := by decide +kernel
theorem dX12_vector_14 : decode cX12_vector 14 = .ok (.invokestatic 407, 3) := by decide +kernel
theorem dX12_vector_17 : decode cX12_vector 17 = .ok (.ifCond .eq 11, 3) := by decide +kernel
theorem dX12_vector_20 : decode cX12_vector 20 = .ok (.iload_n 1, 1) := by decide +kernel
theorem dX12_vector_21 : decode cX12_vector 21 = .ok (.iload_n 2, 1) := by decide +kernel
theorem dX12_vector_22 : decode cX12_vector 22 = .ok (.invokestatic 460, 3) := by decide +kernel
theorem dX12_vector_25 : decode cX12_vector 25 = .ok (.goto 5, 3) := by decide +kernel
theorem dX12_vector_28 : decode cX12_vector 28 = .ok (.bipush (-100), 2) := by decide +kernel
theorem dX12_vector_30 : decode cX12_vector 30 = .ok (.ireturn, 1) := by decide +kernel
set_option maxRecDepth 20000 in
theorem ggX12_line_X12_isIn : GoodIn wsX12_line wsX12_isIn := goodIn_r _ [6] (by decide +kernel) (by decide +kernel)
set_option maxRecDepth 20000 in
theorem gX12_line_X12_isIn : GoodIn wsX12_line (va_wsS RX12 407 yX12_isIn wsX12_isIn) := goodIn_app (goodIn_of _ (by decide +kernel)) ggX12_line_X12_isIn
set_option maxRecDepth 20000 in
theorem ggX12_line_X12_isKnown : GoodIn wsX12_line wsX12_isKnown := goodIn_r _ [10, 11, 91, 92, 93, 94, 95, 96, 97, 98, 99, 100, 101, 102, 103, 104, 105, 106, 107, 108, 109, 110, 111, 112, 113, 114, 115, 116, 117, 118, 119, 120, 121, 122, 123, 124, 125, 126, 127, 128, 129, 130, 131, 132, 133, 134, 135, 136, 137, 138, 139, 140, 141, 142, 143, 144, 145, 146, 147, 148, 149, 150, 151, 152, 153, 154, 155, 156, 157, 158, 159, 160, 161, 162, 163, 164, 165, 166, 167, 168, 169, 170, 171] (by decide +kernel) (by decide +kernel)
set_option maxRecDepth 20000 in
theorem gX12_line_X12_isKnown : GoodIn wsX12_line (wsV RX12 457 RX12 yX12_isKnown wsX12_isKnown) := goodIn_app (goodIn_of _ (by decide +kernel)) ggX12_line_X12_isKnown
set_option maxRecDepth 20000 in
theorem ggX12_line_X12_lay : GoodIn wsX12_line wsX12_lay := goodIn_r _ [15, 1, 16, 17, 18, 19, 2, 20, 21, 22, 23, 24, 25, 26, 27, 5, 28, 29, 30, 31, 32, 33, 34, 35, 36, 37, 38, 39, 40, 41, 42, 43, 44, 45, 46, 47, 48, 49, 50, 51, 52, 53, 54, 55, 56, 57, 58, 59, 60, 61, 62, 63, 64, 65, 66, 67, 68, 69, 70, 71, 72, 73, 74, 75, 76, 77, 78, 79, 80, 81, 82, 83, 84, 85, 86, 87, 88, 89, 90, 91, 92, 93, 94, 95, 96, 97, 98, 99, 100, 101, 102, 103, 104, 105, 106, 107, 108, 109, 110, 111, 112, 113, 114, 115, 116, 117, 118, 119, 120, 121, 122, 123, 124, 125, 126, 127, 128, 129, 130, 131, 132, 133, 134, 135, 136, 137, 138, 139, 140, 141, 142, 143, 144, 145, 146, 147, 148, 149, 150, 151, 152, 153, 154, 155, 156, 157, 158, 159, 160, 161, 162, 163, 164, 165, 166, 167, 168, 169, 170, 171] (by decide +kernel) (by decide +kernel)
set_option maxRecDepth 20000 in
theorem gX12_line_X12_lay : GoodIn wsX12_line (wsV RX12 463 RX12 yX12_lay wsX12_lay) := goodIn_app (goodIn_of _ (by decide +kernel)) ggX12_line_X12_lay
set_option maxRecDepth 20000 in
theorem ggX12_line_X12_lineOf : GoodIn wsX12_line wsX12_lineOf := goodIn_r _ [60, 33, 21, 61, 20, 49, 50, 5, 51, 62, 63, 64, 65, 66, 67, 68, 91, 92, 93, 94, 95, 96, 97, 98, 99, 100, 101, 102, 103, 104, 105, 106, 107, 108, 109, 110, 111, 112, 113, 114, 115, 116, 117, 118, 119, 120, 121, 122, 123, 124, 125, 126, 127, 128, 129, 130, 131, 132, 133, 134, 135, 136, 137, 138, 139, 140, 141, 142, 143, 144, 145, 146, 147, 148, 149, 150, 151, 152, 153, 154, 155, 156, 157, 158, 159, 160, 161, 162, 163, 164, 165, 166, 167, 168, 169, 170, 171] (by decide +kernel) (by decide +kernel)
set_option maxRecDepth 20000 in
theorem gX12_line_X12_lineOf : GoodIn wsX12_line (wsV RX12 441 RX12 yX12_lineOf wsX12_lineOf) := goodIn_app (goodIn_of _ (by decide +kernel)) ggX12_line_X12_lineOf
theorem dX12_line_0 : decode cX12_line 0 = .ok (.iload_n 1, 1) := by decide +kernel
theorem dX12_line_1 : decode cX12_line 1 = .ok (.iconst 0, 1) := by decide +kernel
theorem dX12_line_2 : decode cX12_line 2 = .ok (.sipush 195, 3) := by decide +kernel
theorem dX12_line_5 : decode cX12_line 5 = .ok (.invokestatic 407, 3) := by decide +kernel
theorem dX12_line_8 : decode cX12_line 8 = .ok (.ifCond .eq 21, 3) := by decide +kernel
theorem dX12_line_11 : decode cX12_line 11 = .ok (.iload_n 2, 1) := by decide +kernel
theorem dX12_line_12 : decode cX12_line 12 = .ok (.iconst 0, 1) := by decide +kernel
theorem dX12_line_13 : decode cX12_line 13 = .ok (.bipush 7, 2) := by decide +kernel
theorem dX12_line_15 : decode cX12_line 15 = .ok (.invokestatic 407, 3) := by decide +kernel
theorem dX12_line_18 : decode cX12_line 18 = .ok (.ifCond .eq 11, 3) := by decide +kernel
theorem dX12_line_21 : decode cX12_line 21 = .ok (.aload_n 0, 1) := by decide +kernel
theorem dX12_line_22 : decode cX12_line 22 = .ok (.iload_n 3, 1) := by decide +kernel
theorem dX12_line_23 : decode cX12_line 23 = .ok (.invokevirtual 457, 3) := by decide +kernel
theorem dX12_line_26 : decode cX12_line 26 = .ok (.ifCond .ne 5, 3) := by decide +kernel
theorem dX12_line_29 : decode cX12_line 29 = .ok (.iconst (-1), 1) := by decide +kernel
theorem dX12_line_30 : decode cX12_line 30 = .ok (.ireturn, 1) := by decide +kernel
theorem dX12_line_31 : decode cX12_line 31 = .ok (.aload_n 0, 1) := by decide +kernel
theorem dX12_line_32 : decode cX12_line 32 = .ok (.iload_n 3, 1) := by decide +kernel
theorem dX12_line_33 : decode cX12_line 33 = .ok (.invokevirtual 463, 3) := by decide +kernel
theorem dX12_line_36 : decode cX12_line 36 = .ok (.aload_n 0, 1) := by decide +kernel
theorem dX12_line_37 : decode cX12_line 37 = .ok (.getfield 169, 3) := by decide +kernel
theorem dX12_line_40 : decode cX12_line 40 = .ok (.iload_n 1, 1) := by decide +kernel
theorem dX12_line_41 : decode cX12_line 41 = .ok (.baload, 1) := by decide +kernel
theorem dX12_line_42 : decode cX12_line 42 = .ok (.ifCond .ne 5, 3) := by decide +kernel
theorem dX12_line_45 : decode cX12_line 45 = .ok (.iconst (-1), 1) := by decide +kernel
theorem dX12_line_46 : decode cX12_line 46 = .ok (.ireturn, 1) := by decide +kernel
theorem dX12_line_47 : decode cX12_line 47 = .ok (.iload_n 2, 1) := by decide +kernel
theorem dX12_line_48 : decode cX12_line 48 = .ok (.bipush 7, 2) := by decide +kernel
theorem dX12_line_50 : decode cX12_line 50 = .ok (.if_icmp .ne 18, 3) := by decide +kernel
theorem dX12_line_53 : decode cX12_line 53 = .ok (.aload_n 0, 1) := by decide +kernel
theorem dX12_line_54 : decode cX12_line 54 = .ok (.getfield 178, 3) := by decide +kernel
theorem dX12_line_57 : decode cX12_line 57 = .ok (.iload_n 1, 1) := by decide +kernel
theorem dX12_line_58 : decode cX12_line 58 = .ok (.baload, 1) := by decide +kernel
theorem dX12_line_59 : decode cX12_line 59 = .ok (.ifCond .eq 7, 3) := by decide +kernel
theorem dX12_line_62 : decode cX12_line 62 = .ok (.iconst 1, 1) := by decide +kernel
theorem dX12_line_63 : decode cX12_line 63 = .ok (.goto 4, 3) := by decide +kernel
theorem dX12_line_66 : decode cX12_line 66 = .ok (.iconst 0, 1) := by decide +kernel
theorem dX12_line_67 : decode cX12_line 67 = .ok (.ireturn, 1) := by decide +kernel
theorem dX12_line_68 : decode cX12_line 68 = .ok (.aload_n 0, 1) := by decide +kernel
theorem dX12_line_69 : decode cX12_line 69 = .ok (.iload_n 1, 1) := by decide +kernel
theorem dX12_line_70 : decode cX12_line 70 = .ok (.iload_n 2, 1) := by decide +kernel
theorem dX12_line_71 : decode cX12_line 71 = .ok (.ifCond .ne 8, 3) := by decide +kernel
theorem dX12_line_74 : decode cX12_line 74 = .ok (.bipush 8, 2) := by decide +kernel
theorem dX12_line_76 : decode cX12_line 76 = .ok (.goto 6, 3) := by decide +kernel
theorem dX12_line_79 : decode cX12_line 79 = .ok (.iload_n 2, 1) := by decide +kernel
theorem dX12_line_80 : decode cX12_line 80 = .ok (.iconst 1, 1) := by decide +kernel
theorem dX12_line_81 : decode cX12_line 81 = .ok (.iadd, 1) := by decide +kernel
theorem dX12_line_82 : decode cX12_line 82 = .ok (.invokevirtual 441, 3) := by decide +kernel
theorem dX12_line_85 : decode cX12_line 85 = .ok (.ireturn, 1) := by decide +kernel
set_option maxRecDepth 20000 in
theorem ggX12_lines_X12_isKnown : GoodIn wsX12_lines wsX12_isKnown := goodIn_r _ [7, 8, 88, 89, 90, 91, 92, 93, 94, 95, 96, 97, 98, 99, 100, 101, 102, 103, 104, 105, 106, 107, 108, 109, 110, 111, 112, 113, 114, 115, 116, 117, 118, 119, 120, 121, 122, 123, 124, 125, 126, 127, 128, 129, 130, 131, 132, 133, 134, 135, 136, 137, 138, 139, 140, 141, 142, 143, 144, 145, 146, 147, 148, 149, 150, 151, 152, 153, 154, 155, 156, 157, 158, 159, 160, 161, 162, 163, 164, 165, 166, 167, 168] (by decide +kernel) (by decide +kernel)
set_option maxRecDepth 20000 in
theorem gX12_lines_X12_isKnown : GoodIn wsX12_lines (wsV RX12 457 RX12 yX12_isKnown wsX12_isKnown) := goodIn_app (goodIn_of _ (by decide +kernel)) ggX12_lines_X12_isKnown
set_option maxRecDepth 20000 in
theorem ggX12_lines_X12_lay : GoodIn wsX12_lines wsX12_lay := goodIn_r _ [12, 2, 13, 14, 15, 16, 1, 17, 18, 19, 20, 21, 22, 23, 24, 6, 25, 26, 27, 28, 29, 30, 31, 32, 33, 34, 35, 36, 37, 38, 39, 40, 41, 42, 43, 44, 45, 46, 47, 48, 49, 50, 51, 52, 53, 54, 55, 56, 57, 58, 59, 60, 61, 62, 63, 64, 65, 66, 67, 68, 69, 70, 71, 72, 73, 74, 75, 76, 77, 78, 79, 80, 81, 82, 83, 84, 85, 86, 87, 88, 89, 90, 91, 92, 93, 94, 95, 96, 97, 98, 99, 100, 101, 102, 103, 104, 105, 106, 107, 108, 109, 110, 111, 112, 113, 114, 115, 116, 117, 118, 119, 120, 121, 122, 123, 124, 125, 126, 127, 128, 129, 130, 131, 132, 133, 134, 135, 136, 137, 138, 139, 140, 141, 142, 143, 144, 145, 146, 147, 148, 149, 150, 151, 152, 153, 154, 155, 156, 157, 158, 159, 160, 161, 162, 163, 164, 165, 166, 167, 168] (by decide +kernel) (by decide +kernel)
set_option maxRecDepth 20000 in
theorem gX12_lines_X12_lay : GoodIn wsX12_lines (wsV RX12 463 RX12 yX12_lay wsX12_lay) := goodIn_app (goodIn_of _ (by decide +kernel)) ggX12_lines_X12_lay
theorem dX12_lines_0 : decode cX12_lines 0 = .ok (.aload_n 0, 1) := by decide +kernel
theorem dX12_lines_1 : decode cX12_lines 1 = .ok (.iload_n 2, 1) := by decide +kernel
theorem dX12_lines_2 : decode cX12_lines 2 = .ok (.invokevirtual 457, 3) := by decide +kernel
theorem dX12_lines_5 : decode cX12_lines 5 = .ok (.ifCond .ne 5, 3) := by decide +kernel
theorem dX12_lines_8 : decode cX12_lines 8 = .ok (.iconst (-1), 1) := by decide +kernel
theorem dX12_lines_9 : decode cX12_lines 9 = .ok (.ireturn, 1) := by decide +kernel
theorem dX12_lines_10 : decode cX12_lines 10 = .ok (.aload_n 0, 1) := by decide +kernel
theorem dX12_lines_11 : decode cX12_lines 11 = .ok (.iload_n 2, 1) := by decide +kernel
theorem dX12_lines_12 : decode cX12_lines 12 = .ok (.invokevirtual 463, 3) := by decide +kernel
theorem dX12_lines_15 : decode cX12_lines 15 = .ok (.iconst 0, 1) := by decide +kernel
theorem dX12_lines_16 : decode cX12_lines 16 = .ok (.istore_n 3, 1) := by decide +kernel
theorem dX12_lines_17 : decode cX12_lines 17 = .ok (.iconst 0, 1) := by decide +kernel
theorem dX12_lines_18 : decode cX12_lines 18 = .ok (.istore 4, 2) := by decide +kernel
theorem dX12_lines_20 : decode cX12_lines 20 = .ok (.iload 4, 2) := by decide +kernel
theorem dX12_lines_22 : decode cX12_lines 22 = .ok (.sipush 196, 3) := by decide +kernel
theorem dX12_lines_25 : decode cX12_lines 25 = .ok (.if_icmp .ge 49, 3) := by decide +kernel
theorem dX12_lines_28 : decode cX12_lines 28 = .ok (.iload_n 3, 1) := by decide +kernel
theorem dX12_lines_29 : decode cX12_lines 29 = .ok (.iload_n 1, 1) := by decide +kernel
theorem dX12_lines_30 : decode cX12_lines 30 = .ok (.ifCond .eq 21, 3) := by decide +kernel
theorem dX12_lines_33 : decode cX12_lines 33 = .ok (.aload_n 0, 1) := by decide +kernel
theorem dX12_lines_34 : decode cX12_lines 34 = .ok (.getfield 178, 3) := by decide +kernel
theorem dX12_lines_37 : decode cX12_lines 37 = .ok (.iload 4, 2) := by decide +kernel
theorem dX12_lines_39 : decode cX12_lines 39 = .ok (.baload, 1) := by decide +kernel
theorem dX12_lines_40 : decode cX12_lines 40 = .ok (.ifCond .eq 7, 3) := by decide +kernel
theorem dX12_lines_43 : decode cX12_lines 43 = .ok (.iconst 1, 1) := by decide +kernel
theorem dX12_lines_44 : decode cX12_lines 44 = .ok (.goto 22, 3) := by decide +kernel
theorem dX12_lines_47 : decode cX12_lines 47 = .ok (.iconst 0, 1) := by decide +kernel
theorem dX12_lines_48 : decode cX12_lines 48 = .ok (.goto 18, 3) := by decide +kernel
theorem dX12_lines_51 : decode cX12_lines 51 = .ok (.aload_n 0, 1) := by decide +kernel
theorem dX12_lines_52 : decode cX12_lines 52 = .ok (.getfield 169, 3) := by decide +kernel
theorem dX12_lines_55 : decode cX12_lines 55 = .ok (.iload 4, 2) := by decide +kernel
theorem dX12_lines_57 : decode cX12_lines 57 = .ok (.baload, 1) := by decide +kernel
theorem dX12_lines_58 : decode cX12_lines 58 = .ok (.ifCond .eq 7, 3) := by decide +kernel
theorem dX12_lines_61 : decode cX12_lines 61 = .ok (.iconst 1, 1) := by decide +kernel
theorem dX12_lines_62 : decode cX12_lines 62 = .ok (.goto 4, 3) := by decide +kernel
theorem dX12_lines_65 : decode cX12_lines 65 = .ok (.iconst 0, 1) := by decide +kernel
theorem dX12_lines_66 : decode cX12_lines 66 = .ok (.iadd, 1) := by decide +kernel
theorem dX12_lines_67 : decode cX12_lines 67 = .ok (.istore_n 3, 1) := by decide +kernel
theorem dX12_lines_68 : decode cX12_lines 68 = .ok (.iinc 4 1, 3) := by decide +kernel
theorem dX12_lines_71 : decode cX12_lines 71 = .ok (.goto (-51), 3) := by decide +kernel
theorem dX12_lines_74 : decode cX12_lines 74 = .ok (.iload_n 3, 1) := by decide +kernel
theorem dX12_lines_75 : decode cX12_lines 75 = .ok (.ireturn, 1) := by decide +kernel
theorem dX12_heightOf_0 : decode cX12_heightOf 0 = .ok (.aload_n 0, 1) := by decide +kernel
theorem dX12_heightOf_1 : decode cX12_heightOf 1 = .ok (.getfield 64, 3) := by decide +kernel
theorem dX12_heightOf_4 : decode cX12_heightOf 4 = .ok (.iconst 0, 1) := by decide +kernel
theorem dX12_heightOf_5 : decode cX12_heightOf 5 = .ok (.iaload, 1) := by decide +kernel
theorem dX12_heightOf_6 : decode cX12_heightOf 6 = .ok (.iconst 1, 1) := by decide +kernel
theorem dX12_heightOf_7 : decode cX12_heightOf 7 = .ok (.isub, 1) := by decide +kernel
theorem dX12_heightOf_8 : decode cX12_heightOf 8 = .ok (.istore_n 2, 1) := by decide +kernel
theorem dX12_heightOf_9 : decode cX12_heightOf 9 = .ok (.iload_n 2, 1) := by decide +kernel
theorem dX12_heightOf_10 : decode cX12_heightOf 10 = .ok (.ifCond .lt 89, 3) := by decide +kernel
theorem dX12_heightOf_13 : decode cX12_heightOf 13 = .ok (.aload_n 0, 1) := by decide +kernel
theorem dX12_heightOf_14 : decode cX12_heightOf 14 = .ok (.getfield 67, 3) := by decide +kernel
theorem dX12_heightOf_17 : decode cX12_heightOf 17 = .ok (.iload_n 2, 1) := by decide +kernel
theorem dX12_heightOf_18 : decode cX12_heightOf 18 = .ok (.iaload, 1) := by decide +kernel
theorem dX12_heightOf_19 : decode cX12_heightOf 19 = .ok (.aload_n 0, 1) := by decide +kernel
theorem dX12_heightOf_20 : decode cX12_heightOf 20 = .ok (.getfield 70, 3) := by decide +kernel
theorem dX12_heightOf_23 : decode cX12_heightOf 23 = .ok (.iload_n 2, 1) := by decide +kernel
theorem dX12_heightOf_24 : decode cX12_heightOf 24 = .ok (.iaload, 1) := by decide +kernel
theorem dX12_heightOf_25 : decode cX12_heightOf 25 = .ok (.if_icmp .gt 31, 3) := by decide +kernel
theorem dX12_heightOf_28 : decode cX12_heightOf 28 = .ok (.iload_n 1, 1) := by decide +kernel
theorem dX12_heightOf_29 : decode cX12_heightOf 29 = .ok (.aload_n 0, 1) := by decide +kernel
theorem dX12_heightOf_30 : decode cX12_heightOf 30 = .ok (.getfield 67, 3) := by decide +kernel
theorem dX12_heightOf_33 : decode cX12_heightOf 33 = .ok (.iload_n 2, 1) := by decide +kernel
theorem dX12_heightOf_34 : decode cX12_heightOf 34 = .ok (.iaload, 1) := by decide +kernel
theorem dX12_heightOf_35 : decode cX12_heightOf 35 = .ok (.if_icmp .lt 17, 3) := by decide +kernel
theorem dX12_heightOf_38 : decode cX12_heightOf 38 = .ok (.iload_n 1, 1) := by decide +kernel
theorem dX12_heightOf_39 : decode cX12_heightOf 39 = .ok (.aload_n 0, 1) := by decide +kernel
theorem dX12_heightOf_40 : decode cX12_heightOf 40 = .ok (.getfield 70, 3) := by decide +kernel
theorem dX12_heightOf_43 : decode cX12_heightOf 43 = .ok (.iload_n 2, 1) := by decide +kernel
theorem dX12_heightOf_44 : decode cX12_heightOf 44 = .ok (.iaload, 1) := by decide +kernel
theorem dX12_heightOf_45 : decode cX12_heightOf 45 = .ok (.if_icmp .gt 7, 3) := by decide +kernel
theorem dX12_heightOf_48 : decode cX12_heightOf 48 = .ok (.iconst 1, 1) := by decide +kernel
theorem dX12_heightOf_49 : decode cX12_heightOf 49 = .ok (.goto 32, 3) := by decide +kernel
theorem dX12_heightOf_52 : decode cX12_heightOf 52 = .ok (.iconst 0, 1) := by decide +kernel
theorem dX12_heightOf_53 : decode cX12_heightOf 53 = .ok (.goto 28, 3) := by decide +kernel
theorem dX12_heightOf_56 : decode cX12_heightOf 56 = .ok (.iload_n 1, 1) := by decide +kernel
theorem dX12_heightOf_57 : decode cX12_heightOf 57 = .ok (.aload_n 0, 1) := by decide +kernel
theorem dX12_heightOf_58 : decode cX12_heightOf 58 = .ok (.getfield 67, 3) := by decide +kernel
theorem dX12_heightOf_61 : decode cX12_heightOf 61 = .ok (.iload_n 2, 1) := by decide +kernel
theorem dX12_heightOf_62 : decode cX12_heightOf 62 = .ok (.iaload, 1) := by decide +kernel
theorem dX12_heightOf_63 : decode cX12_heightOf 63 = .ok (.if_icmp .ge 13, 3) := by decide +kernel
theorem dX12_heightOf_66 : decode cX12_heightOf 66 = .ok (.iload_n 1, 1) := by decide +kernel
theorem dX12_heightOf_67 : decode cX12_heightOf 67 = .ok (.aload_n 0, 1) := by decide +kernel
theorem dX12_heightOf_68 : decode cX12_heightOf 68 = .ok (.getfield 70, 3) := by decide +kernel
theorem dX12_heightOf_71 : decode cX12_heightOf 71 = .ok (.iload_n 2, 1) := by decide +kernel
theorem dX12_heightOf_72 : decode cX12_heightOf 72 = .ok (.iaload, 1) := by decide +kernel
theorem dX12_heightOf_73 : decode cX12_heightOf 73 = .ok (.if_icmp .gt 7, 3) := by decide +kernel
theorem dX12_heightOf_76 : decode cX12_heightOf 76 = .ok (.iconst 1, 1) := by decide +kernel
theorem dX12_heightOf_77 : decode cX12_heightOf 77 = .ok (.goto 4, 3) := by decide +kernel
theorem dX12_heightOf_80 : decode cX12_heightOf 80 = .ok (.iconst 0, 1) := by decide +kernel
theorem dX12_heightOf_81 : decode cX12_heightOf 81 = .ok (.istore_n 3, 1) := by decide +kernel
theorem dX12_heightOf_82 : decode cX12_heightOf 82 = .ok (.iload_n 3, 1) := by decide +kernel
theorem dX12_heightOf_83 : decode cX12_heightOf 83 = .ok (.ifCond .eq 10, 3) := by decide +kernel
theorem dX12_heightOf_86 : decode cX12_heightOf 86 = .ok (.aload_n 0, 1) := by decide +kernel
theorem dX12_heightOf_87 : decode cX12_heightOf 87 = .ok (.getfield 73, 3) := by decide +kernel
theorem dX12_heightOf_90 : decode cX12_heightOf 90 = .ok (.iload_n 2, 1) := by decide +kernel
theorem dX12_heightOf_91 : decode cX12_heightOf 91 = .ok (.iaload, 1) := by decide +kernel
theorem dX12_heightOf_92 : decode cX12_heightOf 92 = .ok (.ireturn, 1) := by decide +kernel
theorem dX12_heightOf_93 : decode cX12_heightOf 93 = .ok (.iinc 2 (-1), 3) := by decide +kernel
theorem dX12_heightOf_96 : decode cX12_heightOf 96 = .ok (.goto (-87), 3) := by decide +kernel
theorem dX12_heightOf_99 : decode cX12_heightOf 99 = .ok (.iconst 0, 1) := by decide +kernel
theorem dX12_heightOf_100 : decode cX12_heightOf 100 = .ok (.ireturn, 1) := by decide +kernel
set_option maxRecDepth 20000 in
theorem ggX12_height_X12_isIn : GoodIn wsX12_height wsX12_isIn := goodIn_r _ [4] (by decide +kernel) (by decide +kernel)
set_option maxRecDepth 20000 in
theorem gX12_height_X12_isIn : GoodIn wsX12_height (va_wsS RX12 407 yX12_isIn wsX12_isIn) := goodIn_app (goodIn_of _ (by decide +kernel)) ggX12_height_X12_isIn
set_option maxRecDepth 20000 in
theorem ggX12_height_X12_heightOf : GoodIn wsX12_height wsX12_heightOf := goodIn_r _ [8, 9, 10, 11, 12, 13, 14, 15, 16, 17, 18, 19, 20, 21, 22, 23, 24, 25, 26, 27, 28, 29, 30, 31, 32, 33, 34, 35, 36, 37, 38, 39, 40, 41, 42, 43, 44, 45, 46, 47, 48, 49, 50, 51, 52, 53, 54, 55, 56, 57, 58, 59, 60, 61, 62, 63, 64, 65, 66, 67, 68, 69, 70, 71, 72, 73, 74, 75, 76, 77, 78, 79, 80, 81, 82, 83, 84, 85, 86, 87, 88, 89, 90, 91, 92, 93] (by decide +kernel) (by decide +kernel)
set_option maxRecDepth 20000 in
theorem gX12_height_X12_heightOf : GoodIn wsX12_height (wsV RX12 466 RX12 yX12_heightOf wsX12_heightOf) := goodIn_app (goodIn_of _ (by decide +kernel)) ggX12_height_X12_heightOf
theorem dX12_height_0 : decode cX12_height 0 = .ok (.iload_n 1, 1) := by decide +kernel
theorem dX12_height_1 : decode cX12_height 1 = .ok (.iconst 0, 1) := by decide +kernel
theorem dX12_height_2 : decode cX12_height 2 = .ok (.sipush 359, 3) := by decide +kernel
theorem dX12_height_5 : decode cX12_height 5 = .ok (.invokestatic 407, 3) := by decide +kernel
theorem dX12_height_8 : decode cX12_height 8 = .ok (.ifCond .eq 11, 3) := by decide +kernel
theorem dX12_height_11 : decode cX12_height 11 = .ok (.aload_n 0, 1) := by decide +kernel
theorem dX12_height_12 : decode cX12_height 12 = .ok (.iload_n 1, 1) := by decide +kernel
theorem dX12_height_13 : decode cX12_height 13 = .ok (.invokevirtual 466, 3) := by decide +kernel
theorem dX12_height_16 : decode cX12_height 16 = .ok (.goto 4, 3) := by decide +kernel
theorem dX12_height_19 : decode cX12_height 19 = .ok (.iconst (-1), 1) := by decide +kernel
theorem dX12_height_20 : decode cX12_height 20 = .ok (.ireturn, 1) := by decide +kernel
set_option maxRecDepth 20000 in
theorem ggX12_skyAt_X12_sum : GoodIn wsX12_skyAt wsX12_sum := goodIn_r _ [8, 9, 10, 11, 12, 1, 13, 14, 15, 16, 17, 18, 19, 20, 21, 22, 23, 24, 25, 26, 27, 28, 29, 30, 31, 32, 33, 34, 35, 36, 37, 38, 39, 40, 41, 42, 43, 44, 45, 46, 47, 48, 49, 50, 51, 52, 53, 54, 55, 56, 57, 58, 59, 60, 61, 62, 63, 64, 65, 66, 67, 68, 69, 70, 71, 72, 73, 74, 75, 76, 77, 78, 79, 80, 81, 82, 83, 84, 85, 86, 87, 88, 89, 90, 91, 92, 93] (by decide +kernel) (by decide +kernel)
set_option maxRecDepth 20000 in
theorem gX12_skyAt_X12_sum : GoodIn wsX12_skyAt (wsV RX12 451 RX12 yX12_sum wsX12_sum) := goodIn_app (goodIn_of _ (by decide +kernel)) ggX12_skyAt_X12_sum
theorem dX12_skyAt_0 : decode cX12_skyAt 0 = .ok (.iconst 0, 1) := by decide +kernel
theorem dX12_skyAt_1 : decode cX12_skyAt 1 = .ok (.istore 4, 2) := by decide +kernel
theorem dX12_skyAt_3 : decode cX12_skyAt 3 = .ok (.iload 4, 2) := by decide +kernel
theorem dX12_skyAt_5 : decode cX12_skyAt 5 = .ok (.bipush 9, 2) := by decide +kernel
theorem dX12_skyAt_7 : decode cX12_skyAt 7 = .ok (.if_icmp .ge 17, 3) := by decide +kernel
theorem dX12_skyAt_10 : decode cX12_skyAt 10 = .ok (.aload_n 0, 1) := by decide +kernel
theorem dX12_skyAt_11 : decode cX12_skyAt 11 = .ok (.getfield 181, 3) := by decide +kernel
theorem dX12_skyAt_14 : decode cX12_skyAt 14 = .ok (.iload 4, 2) := by decide +kernel
theorem dX12_skyAt_16 : decode cX12_skyAt 16 = .ok (.iconst 0, 1) := by decide +kernel
theorem dX12_skyAt_17 : decode cX12_skyAt 17 = .ok (.iastore, 1) := by decide +kernel
theorem dX12_skyAt_18 : decode cX12_skyAt 18 = .ok (.iinc 4 1, 3) := by decide +kernel
theorem dX12_skyAt_21 : decode cX12_skyAt 21 = .ok (.goto (-18), 3) := by decide +kernel
theorem dX12_skyAt_24 : decode cX12_skyAt 24 = .ok (.aload_n 0, 1) := by decide +kernel
theorem dX12_skyAt_25 : decode cX12_skyAt 25 = .ok (.getfield 181, 3) := by decide +kernel
theorem dX12_skyAt_28 : decode cX12_skyAt 28 = .ok (.iconst 0, 1) := by decide +kernel
theorem dX12_skyAt_29 : decode cX12_skyAt 29 = .ok (.iload_n 2, 1) := by decide +kernel
theorem dX12_skyAt_30 : decode cX12_skyAt 30 = .ok (.iastore, 1) := by decide +kernel
theorem dX12_skyAt_31 : decode cX12_skyAt 31 = .ok (.aload_n 0, 1) := by decide +kernel
theorem dX12_skyAt_32 : decode cX12_skyAt 32 = .ok (.getfield 181, 3) := by decide +kernel
theorem dX12_skyAt_35 : decode cX12_skyAt 35 = .ok (.iconst 1, 1) := by decide +kernel
theorem dX12_skyAt_36 : decode cX12_skyAt 36 = .ok (.iload_n 3, 1) := by decide +kernel
theorem dX12_skyAt_37 : decode cX12_skyAt 37 = .ok (.iastore, 1) := by decide +kernel
theorem dX12_skyAt_38 : decode cX12_skyAt 38 = .ok (.aload_n 0, 1) := by decide +kernel
theorem dX12_skyAt_39 : decode cX12_skyAt 39 = .ok (.aload_n 0, 1) := by decide +kernel
theorem dX12_skyAt_40 : decode cX12_skyAt 40 = .ok (.getfield 82, 3) := by decide +kernel
theorem dX12_skyAt_43 : decode cX12_skyAt 43 = .ok (.iload_n 1, 1) := by decide +kernel
theorem dX12_skyAt_44 : decode cX12_skyAt 44 = .ok (.iaload, 1) := by decide +kernel
theorem dX12_skyAt_45 : decode cX12_skyAt 45 = .ok (.aload_n 0, 1) := by decide +kernel
theorem dX12_skyAt_46 : decode cX12_skyAt 46 = .ok (.getfield 85, 3) := by decide +kernel
theorem dX12_skyAt_49 : decode cX12_skyAt 49 = .ok (.iload_n 1, 1) := by decide +kernel
theorem dX12_skyAt_50 : decode cX12_skyAt 50 = .ok (.iaload, 1) := by decide +kernel
theorem dX12_skyAt_51 : decode cX12_skyAt 51 = .ok (.invokevirtual 451, 3) := by decide +kernel
theorem dX12_skyAt_54 : decode cX12_skyAt 54 = .ok (.sipush 360, 3) := by decide +kernel
theorem dX12_skyAt_57 : decode cX12_skyAt 57 = .ok (.irem, 1) := by decide +kernel
theorem dX12_skyAt_58 : decode cX12_skyAt 58 = .ok (.istore 4, 2) := by decide +kernel
theorem dX12_skyAt_60 : decode cX12_skyAt 60 = .ok (.iload 4, 2) := by decide +kernel
theorem dX12_skyAt_62 : decode cX12_skyAt 62 = .ok (.ifCond .ge 12, 3) := by decide +kernel
theorem dX12_skyAt_65 : decode cX12_skyAt 65 = .ok (.iload 4, 2) := by decide +kernel
theorem dX12_skyAt_67 : decode cX12_skyAt 67 = .ok (.sipush 360, 3) := by decide +kernel
theorem dX12_skyAt_70 : decode cX12_skyAt 70 = .ok (.iadd, 1) := by decide +kernel
theorem dX12_skyAt_71 : decode cX12_skyAt 71 = .ok (.goto 5, 3) := by decide +kernel
theorem dX12_skyAt_74 : decode cX12_skyAt 74 = .ok (.iload 4, 2) := by decide +kernel
theorem dX12_skyAt_76 : decode cX12_skyAt 76 = .ok (.ireturn, 1) := by decide +kernel
set_option maxRecDepth 20000 in
theorem ggX12_riseOf_X12_skyAt : GoodIn wsX12_riseOf wsX12_skyAt := goodIn_r _ [5, 6, 7, 8, 9, 10, 11, 4, 12, 13, 14, 15, 16, 25, 26, 27, 28, 29, 30, 31, 32, 33, 34, 35, 36, 37, 38, 39, 40, 41, 42, 43, 44, 45, 46, 47, 48, 49, 50, 51, 52, 53, 54, 55, 56, 57, 58, 59, 60, 61, 62, 63, 64, 65, 66, 67, 68, 69, 70, 71, 72, 73, 74, 75, 76, 77, 78, 79, 80, 81, 82, 83, 84, 85, 86, 87, 88, 89, 90, 91, 92, 93, 94, 95, 96, 97, 98, 99, 100, 101, 102, 103, 104, 105] (by decide +kernel) (by decide +kernel)
set_option maxRecDepth 20000 in
theorem gX12_riseOf_X12_skyAt : GoodIn wsX12_riseOf (wsV RX12 469 RX12 yX12_skyAt wsX12_skyAt) := goodIn_app (goodIn_of _ (by decide +kernel)) ggX12_riseOf_X12_skyAt
set_option maxRecDepth 20000 in
theorem ggX12_riseOf_X12_heightOf : GoodIn wsX12_riseOf wsX12_heightOf := goodIn_r _ [20, 21, 22, 23, 24, 25, 26, 27, 28, 29, 30, 31, 32, 33, 34, 35, 36, 37, 38, 39, 40, 41, 42, 43, 44, 45, 46, 47, 48, 49, 50, 51, 52, 53, 54, 55, 56, 57, 58, 59, 60, 61, 62, 63, 64, 65, 66, 67, 68, 69, 70, 71, 72, 73, 74, 75, 76, 77, 78, 79, 80, 81, 82, 83, 84, 85, 86, 87, 88, 89, 90, 91, 92, 93, 94, 95, 96, 97, 98, 99, 100, 101, 102, 103, 104, 105] (by decide +kernel) (by decide +kernel)
set_option maxRecDepth 20000 in
theorem gX12_riseOf_X12_heightOf : GoodIn wsX12_riseOf (wsV RX12 466 RX12 yX12_heightOf wsX12_heightOf) := goodIn_app (goodIn_of _ (by decide +kernel)) ggX12_riseOf_X12_heightOf
theorem dX12_riseOf_0 : decode cX12_riseOf 0 = .ok (.aload_n 0, 1) := by decide +kernel
theorem dX12_riseOf_1 : decode cX12_riseOf 1 = .ok (.iload_n 1, 1) := by decide +kernel
theorem dX12_riseOf_2 : decode cX12_riseOf 2 = .ok (.iload_n 2, 1) := by decide +kernel
theorem dX12_riseOf_3 : decode cX12_riseOf 3 = .ok (.iconst 0, 1) := by decide +kernel
theorem dX12_riseOf_4 : decode cX12_riseOf 4 = .ok (.invokevirtual 469, 3) := by decide +kernel
theorem dX12_riseOf_7 : decode cX12_riseOf 7 = .ok (.istore_n 3, 1) := by decide +kernel
theorem dX12_riseOf_8 : decode cX12_riseOf 8 = .ok (.aload_n 0, 1) := by decide +kernel
theorem dX12_riseOf_9 : decode cX12_riseOf 9 = .ok (.iload_n 1, 1) := by decide +kernel
theorem dX12_riseOf_10 : decode cX12_riseOf 10 = .ok (.iload_n 2, 1) := by decide +kernel
theorem dX12_riseOf_11 : decode cX12_riseOf 11 = .ok (.aload_n 0, 1) := by decide +kernel
theorem dX12_riseOf_12 : decode cX12_riseOf 12 = .ok (.iload_n 3, 1) := by decide +kernel
theorem dX12_riseOf_13 : decode cX12_riseOf 13 = .ok (.invokevirtual 466, 3) := by decide +kernel
theorem dX12_riseOf_16 : decode cX12_riseOf 16 = .ok (.invokevirtual 469, 3) := by decide +kernel
theorem dX12_riseOf_19 : decode cX12_riseOf 19 = .ok (.ireturn, 1) := by decide +kernel
theorem dX12_isYear_0 : decode cX12_isYear 0 = .ok (.iload_n 0, 1) := by decide +kernel
theorem dX12_isYear_1 : decode cX12_isYear 1 = .ok (.ifCond .lt 14, 3) := by decide +kernel
theorem dX12_isYear_4 : decode cX12_isYear 4 = .ok (.iload_n 0, 1) := by decide +kernel
theorem dX12_isYear_5 : decode cX12_isYear 5 = .ok (.sipush 5000, 3) := by decide +kernel
theorem dX12_isYear_8 : decode cX12_isYear 8 = .ok (.if_icmp .gt 7, 3) := by decide +kernel
theorem dX12_isYear_11 : decode cX12_isYear 11 = .ok (.iconst 1, 1) := by decide +kernel
theorem dX12_isYear_12 : decode cX12_isYear 12 = .ok (.goto 4, 3) := by decide +kernel
theorem dX12_isYear_15 : decode cX12_isYear 15 = .ok (.iconst 0, 1) := by decide +kernel
theorem dX12_isYear_16 : decode cX12_isYear 16 = .ok (.ireturn, 1) := by decide +kernel
set_option maxRecDepth 20000 in
theorem ggX12_rise_X12_isYear : GoodIn wsX12_rise wsX12_isYear := goodIn_r _ [5] (by decide +kernel) (by decide +kernel)
set_option maxRecDepth 20000 in
theorem gX12_rise_X12_isYear : GoodIn wsX12_rise (va_wsS RX12 472 yX12_isYear wsX12_isYear) := goodIn_app (goodIn_of _ (by decide +kernel)) ggX12_rise_X12_isYear
set_option maxRecDepth 20000 in
theorem ggX12_rise_X12_riseOf : GoodIn wsX12_rise wsX12_riseOf := goodIn_r _ [9, 10, 11, 12, 4, 13, 14, 15, 16, 17, 18, 19, 20, 21, 22, 23, 24, 25, 26, 27, 28, 29, 30, 31, 32, 33, 34, 35, 36, 37, 38, 39, 40, 41, 42, 43, 44, 45, 46, 47, 48, 49, 50, 51, 52, 53, 54, 55, 56, 57, 58, 59, 60, 61, 62, 63, 64, 65, 66, 67, 68, 69, 70, 71, 72, 73, 74, 75, 76, 77, 78, 79, 80, 81, 82, 83, 84, 85, 86, 87, 88, 89, 90, 91, 92, 93, 94, 95, 96, 97, 98, 99, 100, 101, 102, 103, 104, 105, 106, 107, 108, 109, 110, 111, 112, 113] (by decide +kernel) (by decide +kernel)
set_option maxRecDepth 20000 in
theorem gX12_rise_X12_riseOf : GoodIn wsX12_rise (wsV RX12 475 RX12 yX12_riseOf wsX12_riseOf) := goodIn_app (goodIn_of _ (by decide +kernel)) ggX12_rise_X12_riseOf
theorem dX12_rise_0 : decode cX12_rise 0 = .ok (.iload_n 1, 1) := by decide +kernel
theorem dX12_rise_1 : decode cX12_rise 1 = .ok (.ifCond .lt 29, 3) := by decide +kernel
theorem dX12_rise_4 : decode cX12_rise 4 = .ok (.iload_n 1, 1) := by decide +kernel
theorem dX12_rise_5 : decode cX12_rise 5 = .ok (.aload_n 0, 1) := by decide +kernel
theorem dX12_rise_6 : decode cX12_rise 6 = .ok (.getfield 76, 3) := by decide +kernel
theorem dX12_rise_9 : decode cX12_rise 9 = .ok (.iconst 0, 1) := by decide +kernel
theorem dX12_rise_10 : decode cX12_rise 10 = .ok (.iaload, 1) := by decide +kernel
theorem dX12_rise_11 : decode cX12_rise 11 = .ok (.if_icmp .ge 19, 3) := by decide +kernel
theorem dX12_rise_14 : decode cX12_rise 14 = .ok (.iload_n 2, 1) := by decide +kernel
theorem dX12_rise_15 : decode cX12_rise 15 = .ok (.invokestatic 472, 3) := by decide +kernel
theorem dX12_rise_18 : decode cX12_rise 18 = .ok (.ifCond .eq 12, 3) := by decide +kernel
theorem dX12_rise_21 : decode cX12_rise 21 = .ok (.aload_n 0, 1) := by decide +kernel
theorem dX12_rise_22 : decode cX12_rise 22 = .ok (.iload_n 1, 1) := by decide +kernel
theorem dX12_rise_23 : decode cX12_rise 23 = .ok (.iload_n 2, 1) := by decide +kernel
theorem dX12_rise_24 : decode cX12_rise 24 = .ok (.invokevirtual 475, 3) := by decide +kernel
theorem dX12_rise_27 : decode cX12_rise 27 = .ok (.goto 4, 3) := by decide +kernel
theorem dX12_rise_30 : decode cX12_rise 30 = .ok (.iconst (-1), 1) := by decide +kernel
theorem dX12_rise_31 : decode cX12_rise 31 = .ok (.ireturn, 1) := by decide +kernel
set_option maxRecDepth 20000 in
theorem ggX12_laySky_X12_riseOf : GoodIn wsX12_laySky wsX12_riseOf := goodIn_r _ [7, 8, 9, 10, 6, 11, 12, 13, 14, 15, 16, 17, 18, 19, 20, 21, 22, 23, 24, 25, 26, 27, 28, 29, 30, 31, 32, 33, 34, 35, 36, 37, 38, 39, 40, 41, 42, 43, 44, 45, 46, 47, 48, 49, 50, 51, 52, 53, 54, 55, 56, 57, 58, 59, 60, 61, 62, 63, 64, 65, 66, 67, 68, 69, 70, 71, 72, 73, 74, 75, 76, 77, 78, 79, 80, 81, 82, 83, 84, 85, 86, 87, 88, 89, 90, 91, 92, 93, 94, 95, 96, 97, 98, 99, 100, 101, 102, 103, 104, 105, 106, 107, 108, 109, 110, 111] (by decide +kernel) (by decide +kernel)
set_option maxRecDepth 20000 in
theorem gX12_laySky_X12_riseOf : GoodIn wsX12_laySky (wsV RX12 475 RX12 yX12_riseOf wsX12_riseOf) := goodIn_app (goodIn_of _ (by decide +kernel)) ggX12_laySky_X12_riseOf
theorem dX12_laySky_0 : decode cX12_laySky 0 = .ok (.iconst 0, 1) := by decide +kernel
theorem dX12_laySky_1 : decode cX12_laySky 1 = .ok (.istore_n 2, 1) := by decide +kernel
theorem dX12_laySky_2 : decode cX12_laySky 2 = .ok (.iload_n 2, 1) := by decide +kernel
theorem dX12_laySky_3 : decode cX12_laySky 3 = .ok (.aload_n 0, 1) := by decide +kernel
theorem dX12_laySky_4 : decode cX12_laySky 4 = .ok (.getfield 76, 3) := by decide +kernel
theorem dX12_laySky_7 : decode cX12_laySky 7 = .ok (.iconst 0, 1) := by decide +kernel
theorem dX12_laySky_8 : decode cX12_laySky 8 = .ok (.iaload, 1) := by decide +kernel
theorem dX12_laySky_9 : decode cX12_laySky 9 = .ok (.if_icmp .ge 21, 3) := by decide +kernel
theorem dX12_laySky_12 : decode cX12_laySky 12 = .ok (.aload_n 0, 1) := by decide +kernel
theorem dX12_laySky_13 : decode cX12_laySky 13 = .ok (.getfield 187, 3) := by decide +kernel
theorem dX12_laySky_16 : decode cX12_laySky 16 = .ok (.iload_n 2, 1) := by decide +kernel
theorem dX12_laySky_17 : decode cX12_laySky 17 = .ok (.aload_n 0, 1) := by decide +kernel
theorem dX12_laySky_18 : decode cX12_laySky 18 = .ok (.iload_n 2, 1) := by decide +kernel
theorem dX12_laySky_19 : decode cX12_laySky 19 = .ok (.iload_n 1, 1) := by decide +kernel
theorem dX12_laySky_20 : decode cX12_laySky 20 = .ok (.invokevirtual 475, 3) := by decide +kernel
theorem dX12_laySky_23 : decode cX12_laySky 23 = .ok (.iastore, 1) := by decide +kernel
theorem dX12_laySky_24 : decode cX12_laySky 24 = .ok (.iinc 2 1, 3) := by decide +kernel
theorem dX12_laySky_27 : decode cX12_laySky 27 = .ok (.goto (-25), 3) := by decide +kernel
theorem dX12_laySky_30 : decode cX12_laySky 30 = .ok (.return_, 1) := by decide +kernel
set_option maxRecDepth 20000 in
theorem ggX12_apart_X12_plain : GoodIn wsX12_apart wsX12_plain := goodIn_r _ [4] (by decide +kernel) (by decide +kernel)
set_option maxRecDepth 20000 in
theorem gX12_apart_X12_plain : GoodIn wsX12_apart (va_wsS RX12 425 yX12_plain wsX12_plain) := goodIn_app (goodIn_of _ (by decide +kernel)) ggX12_apart_X12_plain
theorem dX12_apart_0 : decode cX12_apart 0 = .ok (.iload_n 0, 1) := by decide +kernel
theorem dX12_apart_1 : decode cX12_apart 1 = .ok (.iload_n 1, 1) := by decide +kernel
theorem dX12_apart_2 : decode cX12_apart 2 = .ok (.isub, 1) := by decide +kernel
theorem dX12_apart_3 : decode cX12_apart 3 = .ok (.invokestatic 425, 3) := by decide +kernel
theorem dX12_apart_6 : decode cX12_apart 6 = .ok (.istore_n 2, 1) := by decide +kernel
theorem dX12_apart_7 : decode cX12_apart 7 = .ok (.iload_n 2, 1) := by decide +kernel
theorem dX12_apart_8 : decode cX12_apart 8 = .ok (.sipush 180, 3) := by decide +kernel
theorem dX12_apart_11 : decode cX12_apart 11 = .ok (.if_icmp .le 11, 3) := by decide +kernel
theorem dX12_apart_14 : decode cX12_apart 14 = .ok (.sipush 360, 3) := by decide +kernel
theorem dX12_apart_17 : decode cX12_apart 17 = .ok (.iload_n 2, 1) := by decide +kernel
theorem dX12_apart_18 : decode cX12_apart 18 = .ok (.isub, 1) := by decide +kernel
theorem dX12_apart_19 : decode cX12_apart 19 = .ok (.goto 4, 3) := by decide +kernel
theorem dX12_apart_22 : decode cX12_apart 22 = .ok (.iload_n 2, 1) := by decide +kernel
theorem dX12_apart_23 : decode cX12_apart 23 = .ok (.ireturn, 1) := by decide +kernel
set_option maxRecDepth 20000 in
theorem ggX12_hitBy_X12_apart : GoodIn wsX12_hitBy wsX12_apart := goodIn_r _ [7, 8, 9, 6, 10] (by decide +kernel) (by decide +kernel)
set_option maxRecDepth 20000 in
theorem gX12_hitBy_X12_apart : GoodIn wsX12_hitBy (va_wsS RX12 478 yX12_apart wsX12_apart) := goodIn_app (goodIn_of _ (by decide +kernel)) ggX12_hitBy_X12_apart
theorem dX12_hitBy_0 : decode cX12_hitBy 0 = .ok (.iconst 0, 1) := by decide +kernel
theorem dX12_hitBy_1 : decode cX12_hitBy 1 = .ok (.istore 4, 2) := by decide +kernel
theorem dX12_hitBy_3 : decode cX12_hitBy 3 = .ok (.iconst 0, 1) := by decide +kernel
theorem dX12_hitBy_4 : decode cX12_hitBy 4 = .ok (.istore 5, 2) := by decide +kernel
theorem dX12_hitBy_6 : decode cX12_hitBy 6 = .ok (.iload 5, 2) := by decide +kernel
theorem dX12_hitBy_8 : decode cX12_hitBy 8 = .ok (.aload_n 0, 1) := by decide +kernel
theorem dX12_hitBy_9 : decode cX12_hitBy 9 = .ok (.getfield 76, 3) := by decide +kernel
theorem dX12_hitBy_12 : decode cX12_hitBy 12 = .ok (.iconst 0, 1) := by decide +kernel
theorem dX12_hitBy_13 : decode cX12_hitBy 13 = .ok (.iaload, 1) := by decide +kernel
theorem dX12_hitBy_14 : decode cX12_hitBy 14 = .ok (.if_icmp .ge 57, 3) := by decide +kernel
theorem dX12_hitBy_17 : decode cX12_hitBy 17 = .ok (.iload_n 1, 1) := by decide +kernel
theorem dX12_hitBy_18 : decode cX12_hitBy 18 = .ok (.aload_n 0, 1) := by decide +kernel
theorem dX12_hitBy_19 : decode cX12_hitBy 19 = .ok (.getfield 187, 3) := by decide +kernel
theorem dX12_hitBy_22 : decode cX12_hitBy 22 = .ok (.iload 5, 2) := by decide +kernel
theorem dX12_hitBy_24 : decode cX12_hitBy 24 = .ok (.iaload, 1) := by decide +kernel
theorem dX12_hitBy_25 : decode cX12_hitBy 25 = .ok (.invokestatic 478, 3) := by decide +kernel
theorem dX12_hitBy_28 : decode cX12_hitBy 28 = .ok (.iload_n 3, 1) := by decide +kernel
theorem dX12_hitBy_29 : decode cX12_hitBy 29 = .ok (.ifCond .eq 15, 3) := by decide +kernel
theorem dX12_hitBy_32 : decode cX12_hitBy 32 = .ok (.iload_n 2, 1) := by decide +kernel
theorem dX12_hitBy_33 : decode cX12_hitBy 33 = .ok (.aload_n 0, 1) := by decide +kernel
theorem dX12_hitBy_34 : decode cX12_hitBy 34 = .ok (.getfield 79, 3) := by decide +kernel
theorem dX12_hitBy_37 : decode cX12_hitBy 37 = .ok (.iload 5, 2) := by decide +kernel
theorem dX12_hitBy_39 : decode cX12_hitBy 39 = .ok (.iaload, 1) := by decide +kernel
theorem dX12_hitBy_40 : decode cX12_hitBy 40 = .ok (.isub, 1) := by decide +kernel
theorem dX12_hitBy_41 : decode cX12_hitBy 41 = .ok (.goto 12, 3) := by decide +kernel
theorem dX12_hitBy_44 : decode cX12_hitBy 44 = .ok (.iload_n 2, 1) := by decide +kernel
theorem dX12_hitBy_45 : decode cX12_hitBy 45 = .ok (.aload_n 0, 1) := by decide +kernel
theorem dX12_hitBy_46 : decode cX12_hitBy 46 = .ok (.getfield 79, 3) := by decide +kernel
theorem dX12_hitBy_49 : decode cX12_hitBy 49 = .ok (.iload 5, 2) := by decide +kernel
theorem dX12_hitBy_51 : decode cX12_hitBy 51 = .ok (.iaload, 1) := by decide +kernel
theorem dX12_hitBy_52 : decode cX12_hitBy 52 = .ok (.iadd, 1) := by decide +kernel
theorem dX12_hitBy_53 : decode cX12_hitBy 53 = .ok (.if_icmp .gt 12, 3) := by decide +kernel
theorem dX12_hitBy_56 : decode cX12_hitBy 56 = .ok (.iload 4, 2) := by decide +kernel
theorem dX12_hitBy_58 : decode cX12_hitBy 58 = .ok (.iconst 1, 1) := by decide +kernel
theorem dX12_hitBy_59 : decode cX12_hitBy 59 = .ok (.iload 5, 2) := by decide +kernel
theorem dX12_hitBy_61 : decode cX12_hitBy 61 = .ok (.ishl, 1) := by decide +kernel
theorem dX12_hitBy_62 : decode cX12_hitBy 62 = .ok (.ior, 1) := by decide +kernel
theorem dX12_hitBy_63 : decode cX12_hitBy 63 = .ok (.istore 4, 2) := by decide +kernel
theorem dX12_hitBy_65 : decode cX12_hitBy 65 = .ok (.iinc 5 1, 3) := by decide +kernel
theorem dX12_hitBy_68 : decode cX12_hitBy 68 = .ok (.goto (-62), 3) := by decide +kernel
theorem dX12_hitBy_71 : decode cX12_hitBy 71 = .ok (.iload 4, 2) := by decide +kernel
theorem dX12_hitBy_73 : decode cX12_hitBy 73 = .ok (.ireturn, 1) := by decide +kernel
set_option maxRecDepth 20000 in
theorem ggX12_hit_X12_isIn : GoodIn wsX12_hit wsX12_isIn := goodIn_r _ [8] (by decide +kernel) (by decide +kernel)
set_option maxRecDepth 20000 in
theorem gX12_hit_X12_isIn : GoodIn wsX12_hit (va_wsS RX12 407 yX12_isIn wsX12_isIn) := goodIn_app (goodIn_of _ (by decide +kernel)) ggX12_hit_X12_isIn
set_option maxRecDepth 20000 in
theorem ggX12_hit_X12_isYear : GoodIn wsX12_hit wsX12_isYear := goodIn_r _ [11] (by decide +kernel) (by decide +kernel)
set_option maxRecDepth 20000 in
theorem gX12_hit_X12_isYear : GoodIn wsX12_hit (va_wsS RX12 472 yX12_isYear wsX12_isYear) := goodIn_app (goodIn_of _ (by decide +kernel)) ggX12_hit_X12_isYear
set_option maxRecDepth 20000 in
theorem ggX12_hit_X12_isKnown : GoodIn wsX12_hit wsX12_isKnown := goodIn_r _ [15, 16, 127, 128, 129, 130, 131, 132, 133, 134, 135, 136, 137, 138, 139, 140, 141, 142, 143, 144, 145, 146, 147, 148, 149, 150, 151, 152, 153, 154, 155, 156, 157, 158, 159, 160, 161, 162, 163, 164, 165, 166, 167, 168, 169, 170, 171, 172, 173, 174, 175, 176, 177, 178, 179, 180, 181, 182, 183, 184, 185, 186, 187, 188, 189, 190, 191, 192, 193, 194, 195, 196, 197, 198, 199, 200, 201, 202, 203, 204, 205, 206, 207] (by decide +kernel) (by decide +kernel)
set_option maxRecDepth 20000 in
theorem gX12_hit_X12_isKnown : GoodIn wsX12_hit (wsV RX12 457 RX12 yX12_isKnown wsX12_isKnown) := goodIn_app (goodIn_of _ (by decide +kernel)) ggX12_hit_X12_isKnown
set_option maxRecDepth 20000 in
theorem ggX12_hit_X12_lay : GoodIn wsX12_hit wsX12_lay := goodIn_r _ [20, 2, 21, 22, 23, 24, 25, 3, 26, 27, 28, 29, 30, 31, 32, 7, 33, 34, 35, 36, 37, 38, 39, 40, 41, 42, 43, 44, 45, 46, 47, 48, 49, 50, 51, 52, 53, 54, 55, 56, 57, 58, 59, 60, 61, 62, 63, 64, 65, 66, 67, 68, 69, 70, 71, 72, 73, 74, 75, 76, 77, 78, 79, 80, 81, 82, 83, 84, 85, 86, 87, 88, 89, 90, 91, 92, 93, 94, 95, 127, 128, 129, 130, 131, 132, 133, 134, 135, 136, 137, 138, 139, 140, 141, 142, 143, 144, 145, 146, 147, 148, 149, 150, 151, 152, 153, 154, 155, 156, 157, 158, 159, 160, 161, 162, 163, 164, 165, 166, 167, 168, 169, 170, 171, 172, 173, 174, 175, 176, 177, 178, 179, 180, 181, 182, 183, 184, 185, 186, 187, 188, 189, 190, 191, 192, 193, 194, 195, 196, 197, 198, 199, 200, 201, 202, 203, 204, 205, 206, 207] (by decide +kernel) (by decide +kernel)
set_option maxRecDepth 20000 in
theorem gX12_hit_X12_lay : GoodIn wsX12_hit (wsV RX12 463 RX12 yX12_lay wsX12_lay) := goodIn_app (goodIn_of _ (by decide +kernel)) ggX12_hit_X12_lay
set_option maxRecDepth 20000 in
theorem ggX12_hit_X12_laySky : GoodIn wsX12_hit wsX12_laySky := goodIn_r _ [99, 1, 100, 101, 102, 103, 7, 104, 105, 106, 107, 108, 61, 109, 110, 89, 90, 91, 92, 85, 93, 94, 95, 111, 112, 113, 114, 115, 116, 117, 118, 127, 128, 129, 130, 131, 132, 133, 134, 135, 136, 137, 138, 139, 140, 141, 142, 143, 144, 145, 146, 147, 148, 149, 150, 151, 152, 153, 154, 155, 156, 157, 158, 159, 160, 161, 162, 163, 164, 165, 166, 167, 168, 169, 170, 171, 172, 173, 174, 175, 176, 177, 178, 179, 180, 181, 182, 183, 184, 185, 186, 187, 188, 189, 190, 191, 192, 193, 194, 195, 196, 197, 198, 199, 200, 201, 202, 203, 204, 205, 206, 207] (by decide +kernel) (by decide +kernel)
set_option maxRecDepth 20000 in
theorem gX12_hit_X12_laySky : GoodIn wsX12_hit (wsV RX12 481 RX12 yX12_laySky wsX12_laySky) := goodIn_app (goodIn_of _ (by decide +kernel)) ggX12_hit_X12_laySky
set_option maxRecDepth 20000 in
theorem ggX12_hit_X12_hitBy : GoodIn wsX12_hit wsX12_hitBy := goodIn_r _ [122, 1, 100, 123, 124, 125, 7, 126, 54, 55, 56, 127, 128, 129, 130, 131, 132, 133, 134, 135, 136, 137, 138, 139, 140, 141, 142, 143, 144, 145, 146, 147, 148, 149, 150, 151, 152, 153, 154, 155, 156, 157, 158, 159, 160, 161, 162, 163, 164, 165, 166, 167, 168, 169, 170, 171, 172, 173, 174, 175, 176, 177, 178, 179, 180, 181, 182, 183, 184, 185, 186, 187, 188, 189, 190, 191, 192, 193, 194, 195, 196, 197, 198, 199, 200, 201, 202, 203, 204, 205, 206, 207] (by decide +kernel) (by decide +kernel)
set_option maxRecDepth 20000 in
theorem gX12_hit_X12_hitBy : GoodIn wsX12_hit (wsV RX12 484 RX12 yX12_hitBy wsX12_hitBy) := goodIn_app (goodIn_of _ (by decide +kernel)) ggX12_hit_X12_hitBy
theorem dX12_hit_0 : decode cX12_hit 0 = .ok (.iload_n 1, 1) := by decide +kernel
theorem dX12_hit_1 : decode cX12_hit 1 = .ok (.iconst 0, 1) := by decide +kernel
theorem dX12_hit_2 : decode cX12_hit 2 = .ok (.sipush 195, 3) := by decide +kernel
theorem dX12_hit_5 : decode cX12_hit 5 = .ok (.invokestatic 407, 3) := by decide +kernel
theorem dX12_hit_8 : decode cX12_hit 8 = .ok (.ifCond .eq 33, 3) := by decide +kernel
theorem dX12_hit_11 : decode cX12_hit 11 = .ok (.iload_n 2, 1) := by decide +kernel
theorem dX12_hit_12 : decode cX12_hit 12 = .ok (.ifCond .lt 29, 3) := by decide +kernel
theorem dX12_hit_15 : decode cX12_hit 15 = .ok (.iload_n 2, 1) := by decide +kernel
theorem dX12_hit_16 : decode cX12_hit 16 = .ok (.aload_n 0, 1) := by decide +kernel
theorem dX12_hit_17 : decode cX12_hit 17 = .ok (.getfield 76, 3) := by decide +kernel
theorem dX12_hit_20 : decode cX12_hit 20 = .ok (.iconst 0, 1) := by decide +kernel
theorem dX12_hit_21 : decode cX12_hit 21 = .ok (.iaload, 1) := by decide +kernel
theorem dX12_hit_22 : decode cX12_hit 22 = .ok (.if_icmp .ge 19, 3) := by decide +kernel
theorem dX12_hit_25 : decode cX12_hit 25 = .ok (.iload_n 3, 1) := by decide +kernel
theorem dX12_hit_26 : decode cX12_hit 26 = .ok (.invokestatic 472, 3) := by decide +kernel
theorem dX12_hit_29 : decode cX12_hit 29 = .ok (.ifCond .eq 12, 3) := by decide +kernel
theorem dX12_hit_32 : decode cX12_hit 32 = .ok (.aload_n 0, 1) := by decide +kernel
theorem dX12_hit_33 : decode cX12_hit 33 = .ok (.iload 4, 2) := by decide +kernel
theorem dX12_hit_35 : decode cX12_hit 35 = .ok (.invokevirtual 457, 3) := by decide +kernel
theorem dX12_hit_38 : decode cX12_hit 38 = .ok (.ifCond .ne 5, 3) := by decide +kernel
theorem dX12_hit_41 : decode cX12_hit 41 = .ok (.iconst (-1), 1) := by decide +kernel
theorem dX12_hit_42 : decode cX12_hit 42 = .ok (.ireturn, 1) := by decide +kernel
theorem dX12_hit_43 : decode cX12_hit 43 = .ok (.aload_n 0, 1) := by decide +kernel
theorem dX12_hit_44 : decode cX12_hit 44 = .ok (.iload 4, 2) := by decide +kernel
theorem dX12_hit_46 : decode cX12_hit 46 = .ok (.invokevirtual 463, 3) := by decide +kernel
theorem dX12_hit_49 : decode cX12_hit 49 = .ok (.aload_n 0, 1) := by decide +kernel
theorem dX12_hit_50 : decode cX12_hit 50 = .ok (.iload_n 3, 1) := by decide +kernel
theorem dX12_hit_51 : decode cX12_hit 51 = .ok (.invokevirtual 481, 3) := by decide +kernel
theorem dX12_hit_54 : decode cX12_hit 54 = .ok (.aload_n 0, 1) := by decide +kernel
theorem dX12_hit_55 : decode cX12_hit 55 = .ok (.getfield 169, 3) := by decide +kernel
theorem dX12_hit_58 : decode cX12_hit 58 = .ok (.iload_n 1, 1) := by decide +kernel
theorem dX12_hit_59 : decode cX12_hit 59 = .ok (.baload, 1) := by decide +kernel
theorem dX12_hit_60 : decode cX12_hit 60 = .ok (.ifCond .ne 5, 3) := by decide +kernel
theorem dX12_hit_63 : decode cX12_hit 63 = .ok (.iconst (-1), 1) := by decide +kernel
theorem dX12_hit_64 : decode cX12_hit 64 = .ok (.ireturn, 1) := by decide +kernel
theorem dX12_hit_65 : decode cX12_hit 65 = .ok (.aload_n 0, 1) := by decide +kernel
theorem dX12_hit_66 : decode cX12_hit 66 = .ok (.aload_n 0, 1) := by decide +kernel
theorem dX12_hit_67 : decode cX12_hit 67 = .ok (.getfield 172, 3) := by decide +kernel
theorem dX12_hit_70 : decode cX12_hit 70 = .ok (.iload_n 1, 1) := by decide +kernel
theorem dX12_hit_71 : decode cX12_hit 71 = .ok (.iaload, 1) := by decide +kernel
theorem dX12_hit_72 : decode cX12_hit 72 = .ok (.aload_n 0, 1) := by decide +kernel
theorem dX12_hit_73 : decode cX12_hit 73 = .ok (.getfield 34, 3) := by decide +kernel
theorem dX12_hit_76 : decode cX12_hit 76 = .ok (.iconst 0, 1) := by decide +kernel
theorem dX12_hit_77 : decode cX12_hit 77 = .ok (.iaload, 1) := by decide +kernel
theorem dX12_hit_78 : decode cX12_hit 78 = .ok (.iconst 1, 1) := by decide +kernel
theorem dX12_hit_79 : decode cX12_hit 79 = .ok (.invokevirtual 484, 3) := by decide +kernel
theorem dX12_hit_82 : decode cX12_hit 82 = .ok (.iload_n 2, 1) := by decide +kernel
theorem dX12_hit_83 : decode cX12_hit 83 = .ok (.ishr, 1) := by decide +kernel
theorem dX12_hit_84 : decode cX12_hit 84 = .ok (.iconst 1, 1) := by decide +kernel
theorem dX12_hit_85 : decode cX12_hit 85 = .ok (.iand, 1) := by decide +kernel
theorem dX12_hit_86 : decode cX12_hit 86 = .ok (.iconst 1, 1) := by decide +kernel
theorem dX12_hit_87 : decode cX12_hit 87 = .ok (.if_icmp .ne 5, 3) := by decide +kernel
theorem dX12_hit_90 : decode cX12_hit 90 = .ok (.iconst 2, 1) := by decide +kernel
theorem dX12_hit_91 : decode cX12_hit 91 = .ok (.ireturn, 1) := by decide +kernel
theorem dX12_hit_92 : decode cX12_hit 92 = .ok (.aload_n 0, 1) := by decide +kernel
theorem dX12_hit_93 : decode cX12_hit 93 = .ok (.aload_n 0, 1) := by decide +kernel
theorem dX12_hit_94 : decode cX12_hit 94 = .ok (.getfield 172, 3) := by decide +kernel
theorem dX12_hit_97 : decode cX12_hit 97 = .ok (.iload_n 1, 1) := by decide +kernel
theorem dX12_hit_98 : decode cX12_hit 98 = .ok (.iaload, 1) := by decide +kernel
theorem dX12_hit_99 : decode cX12_hit 99 = .ok (.aload_n 0, 1) := by decide +kernel
theorem dX12_hit_100 : decode cX12_hit 100 = .ok (.getfield 34, 3) := by decide +kernel
theorem dX12_hit_103 : decode cX12_hit 103 = .ok (.iconst 0, 1) := by decide +kernel
theorem dX12_hit_104 : decode cX12_hit 104 = .ok (.iaload, 1) := by decide +kernel
theorem dX12_hit_105 : decode cX12_hit 105 = .ok (.iconst 0, 1) := by decide +kernel
theorem dX12_hit_106 : decode cX12_hit 106 = .ok (.invokevirtual 484, 3) := by decide +kernel
theorem dX12_hit_109 : decode cX12_hit 109 = .ok (.iload_n 2, 1) := by decide +kernel
theorem dX12_hit_110 : decode cX12_hit 110 = .ok (.ishr, 1) := by decide +kernel
theorem dX12_hit_111 : decode cX12_hit 111 = .ok (.iconst 1, 1) := by decide +kernel
theorem dX12_hit_112 : decode cX12_hit 112 = .ok (.iand, 1) := by decide +kernel
theorem dX12_hit_113 : decode cX12_hit 113 = .ok (.ireturn, 1) := by decide +kernel
theorem dX12_turned_0 : decode cX12_turned 0 = .ok (.iload_n 0, 1) := by decide +kernel
theorem dX12_turned_1 : decode cX12_turned 1 = .ok (.iload_n 1, 1) := by decide +kernel
theorem dX12_turned_2 : decode cX12_turned 2 = .ok (.iadd, 1) := by decide +kernel
theorem dX12_turned_3 : decode cX12_turned 3 = .ok (.sipush 360, 3) := by decide +kernel
theorem dX12_turned_6 : decode cX12_turned 6 = .ok (.irem, 1) := by decide +kernel
theorem dX12_turned_7 : decode cX12_turned 7 = .ok (.ireturn, 1) := by decide +kernel
set_option maxRecDepth 20000 in
theorem ggX12_hitsOf_X12_turned : GoodIn wsX12_hitsOf wsX12_turned := goodIn_r _ [7] (by decide +kernel) (by decide +kernel)
set_option maxRecDepth 20000 in
theorem gX12_hitsOf_X12_turned : GoodIn wsX12_hitsOf (va_wsS RX12 488 yX12_turned wsX12_turned) := goodIn_app (goodIn_of _ (by decide +kernel)) ggX12_hitsOf_X12_turned
set_option maxRecDepth 20000 in
theorem ggX12_hitsOf_X12_hitBy : GoodIn wsX12_hitsOf wsX12_hitBy := goodIn_r _ [11, 12, 13, 14, 15, 16, 6, 17, 18, 19, 20, 21, 22, 23, 24, 25, 26, 27, 28, 29, 30, 31, 32, 33, 34, 35, 36, 37, 38, 39, 40, 41, 42, 43, 44, 45, 46, 47, 48, 49, 50, 51, 52, 53, 54, 55, 56, 57, 58, 59, 60, 61, 62, 63, 64, 65, 66, 67, 68, 69, 70, 71, 72, 73, 74, 75, 76, 77, 78, 79, 80, 81, 82, 83, 84, 85, 86, 87, 88, 89, 90, 91, 92, 93, 94, 95, 96, 97, 98, 99, 100, 101] (by decide +kernel) (by decide +kernel)
set_option maxRecDepth 20000 in
theorem gX12_hitsOf_X12_hitBy : GoodIn wsX12_hitsOf (wsV RX12 484 RX12 yX12_hitBy wsX12_hitBy) := goodIn_app (goodIn_of _ (by decide +kernel)) ggX12_hitsOf_X12_hitBy
theorem dX12_hitsOf_0 : decode cX12_hitsOf 0 = .ok (.iconst 0, 1) := by decide +kernel
theorem dX12_hitsOf_1 : decode cX12_hitsOf 1 = .ok (.istore 4, 2) := by decide +kernel
theorem dX12_hitsOf_3 : decode cX12_hitsOf 3 = .ok (.iconst 0, 1) := by decide +kernel
theorem dX12_hitsOf_4 : decode cX12_hitsOf 4 = .ok (.istore 5, 2) := by decide +kernel
theorem dX12_hitsOf_6 : decode cX12_hitsOf 6 = .ok (.iload 5, 2) := by decide +kernel
theorem dX12_hitsOf_8 : decode cX12_hitsOf 8 = .ok (.sipush 196, 3) := by decide +kernel
theorem dX12_hitsOf_11 : decode cX12_hitsOf 11 = .ok (.if_icmp .ge 49, 3) := by decide +kernel
theorem dX12_hitsOf_14 : decode cX12_hitsOf 14 = .ok (.aload_n 0, 1) := by decide +kernel
theorem dX12_hitsOf_15 : decode cX12_hitsOf 15 = .ok (.getfield 178, 3) := by decide +kernel
theorem dX12_hitsOf_18 : decode cX12_hitsOf 18 = .ok (.iload 5, 2) := by decide +kernel
theorem dX12_hitsOf_20 : decode cX12_hitsOf 20 = .ok (.baload, 1) := by decide +kernel
theorem dX12_hitsOf_21 : decode cX12_hitsOf 21 = .ok (.ifCond .eq 33, 3) := by decide +kernel
theorem dX12_hitsOf_24 : decode cX12_hitsOf 24 = .ok (.aload_n 0, 1) := by decide +kernel
theorem dX12_hitsOf_25 : decode cX12_hitsOf 25 = .ok (.aload_n 0, 1) := by decide +kernel
theorem dX12_hitsOf_26 : decode cX12_hitsOf 26 = .ok (.getfield 172, 3) := by decide +kernel
theorem dX12_hitsOf_29 : decode cX12_hitsOf 29 = .ok (.iload 5, 2) := by decide +kernel
theorem dX12_hitsOf_31 : decode cX12_hitsOf 31 = .ok (.iaload, 1) := by decide +kernel
theorem dX12_hitsOf_32 : decode cX12_hitsOf 32 = .ok (.iload_n 2, 1) := by decide +kernel
theorem dX12_hitsOf_33 : decode cX12_hitsOf 33 = .ok (.invokestatic 488, 3) := by decide +kernel
theorem dX12_hitsOf_36 : decode cX12_hitsOf 36 = .ok (.aload_n 0, 1) := by decide +kernel
theorem dX12_hitsOf_37 : decode cX12_hitsOf 37 = .ok (.getfield 34, 3) := by decide +kernel
theorem dX12_hitsOf_40 : decode cX12_hitsOf 40 = .ok (.iconst 0, 1) := by decide +kernel
theorem dX12_hitsOf_41 : decode cX12_hitsOf 41 = .ok (.iaload, 1) := by decide +kernel
theorem dX12_hitsOf_42 : decode cX12_hitsOf 42 = .ok (.iload_n 3, 1) := by decide +kernel
theorem dX12_hitsOf_43 : decode cX12_hitsOf 43 = .ok (.invokevirtual 484, 3) := by decide +kernel
theorem dX12_hitsOf_46 : decode cX12_hitsOf 46 = .ok (.iload_n 1, 1) := by decide +kernel
theorem dX12_hitsOf_47 : decode cX12_hitsOf 47 = .ok (.iand, 1) := by decide +kernel
theorem dX12_hitsOf_48 : decode cX12_hitsOf 48 = .ok (.ifCond .eq 6, 3) := by decide +kernel
theorem dX12_hitsOf_51 : decode cX12_hitsOf 51 = .ok (.iinc 4 1, 3) := by decide +kernel
theorem dX12_hitsOf_54 : decode cX12_hitsOf 54 = .ok (.iinc 5 1, 3) := by decide +kernel
theorem dX12_hitsOf_57 : decode cX12_hitsOf 57 = .ok (.goto (-51), 3) := by decide +kernel
theorem dX12_hitsOf_60 : decode cX12_hitsOf 60 = .ok (.iload 4, 2) := by decide +kernel
theorem dX12_hitsOf_62 : decode cX12_hitsOf 62 = .ok (.ireturn, 1) := by decide +kernel
set_option maxRecDepth 20000 in
theorem ggX12_isSet_X12_isYear : GoodIn wsX12_isSet wsX12_isYear := goodIn_r _ [5] (by decide +kernel) (by decide +kernel)
set_option maxRecDepth 20000 in
theorem gX12_isSet_X12_isYear : GoodIn wsX12_isSet (va_wsS RX12 472 yX12_isYear wsX12_isYear) := goodIn_app (goodIn_of _ (by decide +kernel)) ggX12_isSet_X12_isYear
set_option maxRecDepth 20000 in
theorem ggX12_isSet_X12_isKnown : GoodIn wsX12_isSet wsX12_isKnown := goodIn_r _ [9, 10, 11, 12, 13, 14, 15, 16, 17, 18, 19, 20, 21, 22, 23, 24, 25, 26, 27, 28, 29, 30, 31, 32, 33, 34, 35, 36, 37, 38, 39, 40, 41, 42, 43, 44, 45, 46, 47, 48, 49, 50, 51, 52, 53, 54, 55, 56, 57, 58, 59, 60, 61, 62, 63, 64, 65, 66, 67, 68, 69, 70, 71, 72, 73, 74, 75, 76, 77, 78, 79, 80, 81, 82, 83, 84, 85, 86, 87, 88, 89, 90, 91] (by decide +kernel) (by decide +kernel)
set_option maxRecDepth 20000 in
theorem gX12_isSet_X12_isKnown : GoodIn wsX12_isSet (wsV RX12 457 RX12 yX12_isKnown wsX12_isKnown) := goodIn_app (goodIn_of _ (by decide +kernel)) ggX12_isSet_X12_isKnown
theorem dX12_isSet_0 : decode cX12_isSet 0 = .ok (.iload_n 1, 1) := by decide +kernel
theorem dX12_isSet_1 : decode cX12_isSet 1 = .ok (.ifCond .lt 34, 3) := by decide +kernel
theorem dX12_isSet_4 : decode cX12_isSet 4 = .ok (.iload_n 1, 1) := by decide +kernel
theorem dX12_isSet_5 : decode cX12_isSet 5 = .ok (.iconst 1, 1) := by decide +kernel
theorem dX12_isSet_6 : decode cX12_isSet 6 = .ok (.aload_n 0, 1) := by decide +kernel
theorem dX12_isSet_7 : decode cX12_isSet 7 = .ok (.getfield 76, 3) := by decide +kernel
theorem dX12_isSet_10 : decode cX12_isSet 10 = .ok (.iconst 0, 1) := by decide +kernel
theorem dX12_isSet_11 : decode cX12_isSet 11 = .ok (.iaload, 1) := by decide +kernel
theorem dX12_isSet_12 : decode cX12_isSet 12 = .ok (.ishl, 1) := by decide +kernel
theorem dX12_isSet_13 : decode cX12_isSet 13 = .ok (.if_icmp .ge 22, 3) := by decide +kernel
theorem dX12_isSet_16 : decode cX12_isSet 16 = .ok (.iload_n 2, 1) := by decide +kernel
theorem dX12_isSet_17 : decode cX12_isSet 17 = .ok (.invokestatic 472, 3) := by decide +kernel
theorem dX12_isSet_20 : decode cX12_isSet 20 = .ok (.ifCond .eq 15, 3) := by decide +kernel
theorem dX12_isSet_23 : decode cX12_isSet 23 = .ok (.aload_n 0, 1) := by decide +kernel
theorem dX12_isSet_24 : decode cX12_isSet 24 = .ok (.iload_n 3, 1) := by decide +kernel
theorem dX12_isSet_25 : decode cX12_isSet 25 = .ok (.invokevirtual 457, 3) := by decide +kernel
theorem dX12_isSet_28 : decode cX12_isSet 28 = .ok (.ifCond .eq 7, 3) := by decide +kernel
theorem dX12_isSet_31 : decode cX12_isSet 31 = .ok (.iconst 1, 1) := by decide +kernel
theorem dX12_isSet_32 : decode cX12_isSet 32 = .ok (.goto 4, 3) := by decide +kernel
theorem dX12_isSet_35 : decode cX12_isSet 35 = .ok (.iconst 0, 1) := by decide +kernel
theorem dX12_isSet_36 : decode cX12_isSet 36 = .ok (.ireturn, 1) := by decide +kernel
set_option maxRecDepth 20000 in
theorem ggX12_layAll_X12_lay : GoodIn wsX12_layAll wsX12_lay := goodIn_r _ [5, 6, 7, 8, 9, 10, 11, 12, 13, 14, 15, 16, 17, 18, 19, 4, 20, 21, 22, 23, 24, 25, 26, 27, 28, 29, 30, 31, 32, 33, 34, 35, 36, 37, 38, 39, 40, 41, 42, 43, 44, 45, 46, 47, 48, 49, 50, 51, 52, 53, 54, 55, 56, 57, 58, 59, 60, 61, 62, 63, 64, 65, 66, 67, 68, 69, 70, 71, 72, 73, 74, 75, 76, 77, 78, 79, 80, 81, 82, 107, 108, 109, 110, 111, 112, 113, 114, 115, 116, 117, 118, 119, 120, 121, 122, 123, 124, 125, 126, 127, 128, 129, 130, 131, 132, 133, 134, 135, 136, 137, 138, 139, 140, 141, 142, 143, 144, 145, 146, 147, 148, 149, 150, 151, 152, 153, 154, 155, 156, 157, 158, 159, 160, 161, 162, 163, 164, 165, 166, 167, 168, 169, 170, 171, 172, 173, 174, 175, 176, 177, 178, 179, 180, 181, 182, 183, 184, 185, 186, 187] (by decide +kernel) (by decide +kernel)
set_option maxRecDepth 20000 in
theorem gX12_layAll_X12_lay : GoodIn wsX12_layAll (wsV RX12 463 RX12 yX12_lay wsX12_lay) := goodIn_app (goodIn_of _ (by decide +kernel)) ggX12_layAll_X12_lay
set_option maxRecDepth 20000 in
theorem ggX12_layAll_X12_laySky : GoodIn wsX12_layAll wsX12_laySky := goodIn_r _ [86, 87, 88, 89, 90, 91, 4, 92, 93, 94, 95, 96, 48, 97, 98, 76, 77, 78, 79, 72, 80, 81, 82, 99, 100, 101, 102, 103, 104, 105, 106, 107, 108, 109, 110, 111, 112, 113, 114, 115, 116, 117, 118, 119, 120, 121, 122, 123, 124, 125, 126, 127, 128, 129, 130, 131, 132, 133, 134, 135, 136, 137, 138, 139, 140, 141, 142, 143, 144, 145, 146, 147, 148, 149, 150, 151, 152, 153, 154, 155, 156, 157, 158, 159, 160, 161, 162, 163, 164, 165, 166, 167, 168, 169, 170, 171, 172, 173, 174, 175, 176, 177, 178, 179, 180, 181, 182, 183, 184, 185, 186, 187] (by decide +kernel) (by decide +kernel)
set_option maxRecDepth 20000 in
theorem gX12_layAll_X12_laySky : GoodIn wsX12_layAll (wsV RX12 481 RX12 yX12_laySky wsX12_laySky) := goodIn_app (goodIn_of _ (by decide +kernel)) ggX12_layAll_X12_laySky
theorem dX12_layAll_0 : decode cX12_layAll 0 = .ok (.aload_n 0, 1) := by decide +kernel
theorem dX12_layAll_1 : decode cX12_layAll 1 = .ok (.iload_n 2, 1) := by decide +kernel
theorem dX12_layAll_2 : decode cX12_layAll 2 = .ok (.invokevirtual 463, 3) := by decide +kernel
theorem dX12_layAll_5 : decode cX12_layAll 5 = .ok (.aload_n 0, 1) := by decide +kernel
theorem dX12_layAll_6 : decode cX12_layAll 6 = .ok (.iload_n 1, 1) := by decide +kernel
theorem dX12_layAll_7 : decode cX12_layAll 7 = .ok (.invokevirtual 481, 3) := by decide +kernel
theorem dX12_layAll_10 : decode cX12_layAll 10 = .ok (.return_, 1) := by decide +kernel
set_option maxRecDepth 20000 in
theorem ggX12_hits_X12_isSet : GoodIn wsX12_hits wsX12_isSet := goodIn_r _ [5, 6, 7, 8, 4, 9, 10, 11, 12, 13, 14, 142, 143, 144, 145, 146, 147, 148, 149, 150, 151, 152, 153, 154, 155, 156, 157, 158, 159, 160, 161, 162, 163, 164, 165, 166, 167, 168, 169, 170, 171, 172, 173, 174, 175, 176, 177, 178, 179, 180, 181, 182, 183, 184, 185, 186, 187, 188, 189, 190, 191, 192, 193, 194, 195, 196, 197, 198, 199, 200, 201, 202, 203, 204, 205, 206, 207, 208, 209, 210, 211, 212, 213, 214, 215, 216, 217, 218, 219, 220, 221, 222] (by decide +kernel) (by decide +kernel)
set_option maxRecDepth 20000 in
theorem gX12_hits_X12_isSet : GoodIn wsX12_hits (wsV RX12 491 RX12 yX12_isSet wsX12_isSet) := goodIn_app (goodIn_of _ (by decide +kernel)) ggX12_hits_X12_isSet
set_option maxRecDepth 20000 in
theorem ggX12_hits_X12_isIn : GoodIn wsX12_hits wsX12_isIn := goodIn_r _ [17] (by decide +kernel) (by decide +kernel)
set_option maxRecDepth 20000 in
theorem gX12_hits_X12_isIn : GoodIn wsX12_hits (va_wsS RX12 407 yX12_isIn wsX12_isIn) := goodIn_app (goodIn_of _ (by decide +kernel)) ggX12_hits_X12_isIn
set_option maxRecDepth 20000 in
theorem ggX12_hits_X12_layAll : GoodIn wsX12_hits wsX12_layAll := goodIn_r _ [21, 22, 23, 24, 4, 25, 26, 27, 28, 29, 30, 31, 32, 33, 34, 35, 36, 37, 38, 39, 40, 41, 42, 43, 44, 45, 46, 47, 48, 49, 50, 51, 52, 53, 54, 55, 56, 57, 58, 59, 60, 61, 62, 63, 64, 65, 66, 67, 68, 69, 70, 71, 72, 73, 74, 75, 76, 77, 78, 79, 80, 81, 82, 83, 84, 85, 86, 87, 88, 89, 90, 91, 92, 93, 94, 95, 96, 97, 98, 99, 100, 101, 102, 103, 104, 105, 106, 6, 107, 108, 109, 110, 111, 112, 113, 114, 115, 116, 117, 118, 119, 120, 121, 122, 123, 124, 125, 142, 143, 144, 145, 146, 147, 148, 149, 150, 151, 152, 153, 154, 155, 156, 157, 158, 159, 160, 161, 162, 163, 164, 165, 166, 167, 168, 169, 170, 171, 172, 173, 174, 175, 176, 177, 178, 179, 180, 181, 182, 183, 184, 185, 186, 187, 188, 189, 190, 191, 192, 193, 194, 195, 196, 197, 198, 199, 200, 201, 202, 203, 204, 205, 206, 207, 208, 209, 210, 211, 212, 213, 214, 215, 216, 217, 218, 219, 220, 221, 222] (by decide +kernel) (by decide +kernel)
set_option maxRecDepth 20000 in
theorem gX12_hits_X12_layAll : GoodIn wsX12_hits (wsV RX12 494 RX12 yX12_layAll wsX12_layAll) := goodIn_app (goodIn_of _ (by decide +kernel)) ggX12_hits_X12_layAll
set_option maxRecDepth 20000 in
theorem ggX12_hits_X12_hitsOf : GoodIn wsX12_hits wsX12_hitsOf := goodIn_r _ [129, 31, 32, 130, 131, 132, 4, 133, 134, 135, 136, 137, 6, 107, 138, 139, 140, 141, 61, 62, 63, 142, 143, 144, 145, 146, 147, 148, 149, 150, 151, 152, 153, 154, 155, 156, 157, 158, 159, 160, 161, 162, 163, 164, 165, 166, 167, 168, 169, 170, 171, 172, 173, 174, 175, 176, 177, 178, 179, 180, 181, 182, 183, 184, 185, 186, 187, 188, 189, 190, 191, 192, 193, 194, 195, 196, 197, 198, 199, 200, 201, 202, 203, 204, 205, 206, 207, 208, 209, 210, 211, 212, 213, 214, 215, 216, 217, 218, 219, 220, 221, 222] (by decide +kernel) (by decide +kernel)
set_option maxRecDepth 20000 in
theorem gX12_hits_X12_hitsOf : GoodIn wsX12_hits (wsV RX12 497 RX12 yX12_hitsOf wsX12_hitsOf) := goodIn_app (goodIn_of _ (by decide +kernel)) ggX12_hits_X12_hitsOf
theorem dX12_hits_0 : decode cX12_hits 0 = .ok (.aload_n 0, 1) := by decide +kernel
theorem dX12_hits_1 : decode cX12_hits 1 = .ok (.iload_n 1, 1) := by decide +kernel
theorem dX12_hits_2 : decode cX12_hits 2 = .ok (.iload_n 2, 1) := by decide +kernel
theorem dX12_hits_3 : decode cX12_hits 3 = .ok (.iload 5, 2) := by decide +kernel
theorem dX12_hits_5 : decode cX12_hits 5 = .ok (.invokevirtual 491, 3) := by decide +kernel
theorem dX12_hits_8 : decode cX12_hits 8 = .ok (.ifCond .eq 14, 3) := by decide +kernel
theorem dX12_hits_11 : decode cX12_hits 11 = .ok (.iload_n 3, 1) := by decide +kernel
theorem dX12_hits_12 : decode cX12_hits 12 = .ok (.iconst 0, 1) := by decide +kernel
theorem dX12_hits_13 : decode cX12_hits 13 = .ok (.sipush 359, 3) := by decide +kernel
theorem dX12_hits_16 : decode cX12_hits 16 = .ok (.invokestatic 407, 3) := by decide +kernel
theorem dX12_hits_19 : decode cX12_hits 19 = .ok (.ifCond .ne 5, 3) := by decide +kernel
theorem dX12_hits_22 : decode cX12_hits 22 = .ok (.iconst (-1), 1) := by decide +kernel
theorem dX12_hits_23 : decode cX12_hits 23 = .ok (.ireturn, 1) := by decide +kernel
theorem dX12_hits_24 : decode cX12_hits 24 = .ok (.aload_n 0, 1) := by decide +kernel
theorem dX12_hits_25 : decode cX12_hits 25 = .ok (.iload_n 2, 1) := by decide +kernel
theorem dX12_hits_26 : decode cX12_hits 26 = .ok (.iload 5, 2) := by decide +kernel
theorem dX12_hits_28 : decode cX12_hits 28 = .ok (.invokevirtual 494, 3) := by decide +kernel
theorem dX12_hits_31 : decode cX12_hits 31 = .ok (.aload_n 0, 1) := by decide +kernel
theorem dX12_hits_32 : decode cX12_hits 32 = .ok (.iload_n 1, 1) := by decide +kernel
theorem dX12_hits_33 : decode cX12_hits 33 = .ok (.iload_n 3, 1) := by decide +kernel
theorem dX12_hits_34 : decode cX12_hits 34 = .ok (.iload 4, 2) := by decide +kernel
theorem dX12_hits_36 : decode cX12_hits 36 = .ok (.invokevirtual 497, 3) := by decide +kernel
theorem dX12_hits_39 : decode cX12_hits 39 = .ok (.ireturn, 1) := by decide +kernel
set_option maxRecDepth 20000 in
theorem ggX12_hitAt_X12_isSet : GoodIn wsX12_hitAt wsX12_isSet := goodIn_r _ [8, 9, 10, 11, 7, 12, 13, 14, 15, 16, 17, 132, 133, 134, 135, 136, 137, 138, 139, 140, 141, 142, 143, 144, 145, 146, 147, 148, 149, 150, 151, 152, 153, 154, 155, 156, 157, 158, 159, 160, 161, 162, 163, 164, 165, 166, 167, 168, 169, 170, 171, 172, 173, 174, 175, 176, 177, 178, 179, 180, 181, 182, 183, 184, 185, 186, 187, 188, 189, 190, 191, 192, 193, 194, 195, 196, 197, 198, 199, 200, 201, 202, 203, 204, 205, 206, 207, 208, 209, 210, 211, 212] (by decide +kernel) (by decide +kernel)
set_option maxRecDepth 20000 in
theorem gX12_hitAt_X12_isSet : GoodIn wsX12_hitAt (wsV RX12 491 RX12 yX12_isSet wsX12_isSet) := goodIn_app (goodIn_of _ (by decide +kernel)) ggX12_hitAt_X12_isSet
set_option maxRecDepth 20000 in
theorem ggX12_hitAt_X12_layAll : GoodIn wsX12_hitAt wsX12_layAll := goodIn_r _ [21, 22, 23, 24, 7, 25, 26, 27, 28, 29, 30, 1, 2, 31, 32, 33, 34, 35, 36, 37, 38, 39, 40, 41, 42, 43, 44, 45, 46, 47, 48, 49, 50, 51, 52, 53, 54, 55, 56, 57, 58, 59, 60, 61, 62, 63, 64, 65, 66, 67, 68, 69, 70, 71, 72, 73, 74, 75, 76, 77, 78, 79, 80, 81, 82, 83, 84, 85, 86, 87, 88, 89, 90, 91, 92, 93, 94, 95, 96, 97, 98, 99, 100, 101, 102, 103, 104, 9, 105, 106, 107, 108, 109, 110, 111, 112, 113, 114, 115, 116, 117, 118, 119, 120, 121, 122, 123, 132, 133, 134, 135, 136, 137, 138, 139, 140, 141, 142, 143, 144, 145, 146, 147, 148, 149, 150, 151, 152, 153, 154, 155, 156, 157, 158, 159, 160, 161, 162, 163, 164, 165, 166, 167, 168, 169, 170, 171, 172, 173, 174, 175, 176, 177, 178, 179, 180, 181, 182, 183, 184, 185, 186, 187, 188, 189, 190, 191, 192, 193, 194, 195, 196, 197, 198, 199, 200, 201, 202, 203, 204, 205, 206, 207, 208, 209, 210, 211, 212] (by decide +kernel) (by decide +kernel)
set_option maxRecDepth 20000 in
theorem gX12_hitAt_X12_layAll : GoodIn wsX12_hitAt (wsV RX12 494 RX12 yX12_layAll wsX12_layAll) := goodIn_app (goodIn_of _ (by decide +kernel)) ggX12_hitAt_X12_layAll
set_option maxRecDepth 20000 in
theorem ggX12_hitAt_X12_hitBy : GoodIn wsX12_hitAt wsX12_hitBy := goodIn_r _ [127, 9, 105, 128, 129, 130, 7, 131, 59, 60, 61, 132, 133, 134, 135, 136, 137, 138, 139, 140, 141, 142, 143, 144, 145, 146, 147, 148, 149, 150, 151, 152, 153, 154, 155, 156, 157, 158, 159, 160, 161, 162, 163, 164, 165, 166, 167, 168, 169, 170, 171, 172, 173, 174, 175, 176, 177, 178, 179, 180, 181, 182, 183, 184, 185, 186, 187, 188, 189, 190, 191, 192, 193, 194, 195, 196, 197, 198, 199, 200, 201, 202, 203, 204, 205, 206, 207, 208, 209, 210, 211, 212] (by decide +kernel) (by decide +kernel)
set_option maxRecDepth 20000 in
theorem gX12_hitAt_X12_hitBy : GoodIn wsX12_hitAt (wsV RX12 484 RX12 yX12_hitBy wsX12_hitBy) := goodIn_app (goodIn_of _ (by decide +kernel)) ggX12_hitAt_X12_hitBy
theorem dX12_hitAt_0 : decode cX12_hitAt 0 = .ok (.aload_n 0, 1) := by decide +kernel
theorem dX12_hitAt_1 : decode cX12_hitAt 1 = .ok (.iload_n 1, 1) := by decide +kernel
theorem dX12_hitAt_2 : decode cX12_hitAt 2 = .ok (.iload_n 2, 1) := by decide +kernel
theorem dX12_hitAt_3 : decode cX12_hitAt 3 = .ok (.iload 4, 2) := by decide +kernel
theorem dX12_hitAt_5 : decode cX12_hitAt 5 = .ok (.invokevirtual 491, 3) := by decide +kernel
theorem dX12_hitAt_8 : decode cX12_hitAt 8 = .ok (.ifCond .ne 5, 3) := by decide +kernel
theorem dX12_hitAt_11 : decode cX12_hitAt 11 = .ok (.iconst (-1), 1) := by decide +kernel
theorem dX12_hitAt_12 : decode cX12_hitAt 12 = .ok (.ireturn, 1) := by decide +kernel
theorem dX12_hitAt_13 : decode cX12_hitAt 13 = .ok (.aload_n 0, 1) := by decide +kernel
theorem dX12_hitAt_14 : decode cX12_hitAt 14 = .ok (.iload_n 2, 1) := by decide +kernel
theorem dX12_hitAt_15 : decode cX12_hitAt 15 = .ok (.iload 4, 2) := by decide +kernel
theorem dX12_hitAt_17 : decode cX12_hitAt 17 = .ok (.invokevirtual 494, 3) := by decide +kernel
theorem dX12_hitAt_20 : decode cX12_hitAt 20 = .ok (.iconst 0, 1) := by decide +kernel
theorem dX12_hitAt_21 : decode cX12_hitAt 21 = .ok (.istore 6, 2) := by decide +kernel
theorem dX12_hitAt_23 : decode cX12_hitAt 23 = .ok (.iconst 0, 1) := by decide +kernel
theorem dX12_hitAt_24 : decode cX12_hitAt 24 = .ok (.istore 7, 2) := by decide +kernel
theorem dX12_hitAt_26 : decode cX12_hitAt 26 = .ok (.iload 7, 2) := by decide +kernel
theorem dX12_hitAt_28 : decode cX12_hitAt 28 = .ok (.sipush 196, 3) := by decide +kernel
theorem dX12_hitAt_31 : decode cX12_hitAt 31 = .ok (.if_icmp .ge 58, 3) := by decide +kernel
theorem dX12_hitAt_34 : decode cX12_hitAt 34 = .ok (.aload_n 0, 1) := by decide +kernel
theorem dX12_hitAt_35 : decode cX12_hitAt 35 = .ok (.getfield 178, 3) := by decide +kernel
theorem dX12_hitAt_38 : decode cX12_hitAt 38 = .ok (.iload 7, 2) := by decide +kernel
theorem dX12_hitAt_40 : decode cX12_hitAt 40 = .ok (.baload, 1) := by decide +kernel
theorem dX12_hitAt_41 : decode cX12_hitAt 41 = .ok (.ifCond .eq 42, 3) := by decide +kernel
theorem dX12_hitAt_44 : decode cX12_hitAt 44 = .ok (.aload_n 0, 1) := by decide +kernel
theorem dX12_hitAt_45 : decode cX12_hitAt 45 = .ok (.aload_n 0, 1) := by decide +kernel
theorem dX12_hitAt_46 : decode cX12_hitAt 46 = .ok (.getfield 172, 3) := by decide +kernel
theorem dX12_hitAt_49 : decode cX12_hitAt 49 = .ok (.iload 7, 2) := by decide +kernel
theorem dX12_hitAt_51 : decode cX12_hitAt 51 = .ok (.iaload, 1) := by decide +kernel
theorem dX12_hitAt_52 : decode cX12_hitAt 52 = .ok (.aload_n 0, 1) := by decide +kernel
theorem dX12_hitAt_53 : decode cX12_hitAt 53 = .ok (.getfield 34, 3) := by decide +kernel
theorem dX12_hitAt_56 : decode cX12_hitAt 56 = .ok (.iconst 0, 1) := by decide +kernel
theorem dX12_hitAt_57 : decode cX12_hitAt 57 = .ok (.iaload, 1) := by decide +kernel
theorem dX12_hitAt_58 : decode cX12_hitAt 58 = .ok (.iload_n 3, 1) := by decide +kernel
theorem dX12_hitAt_59 : decode cX12_hitAt 59 = .ok (.invokevirtual 484, 3) := by decide +kernel
theorem dX12_hitAt_62 : decode cX12_hitAt 62 = .ok (.iload_n 1, 1) := by decide +kernel
theorem dX12_hitAt_63 : decode cX12_hitAt 63 = .ok (.iand, 1) := by decide +kernel
theorem dX12_hitAt_64 : decode cX12_hitAt 64 = .ok (.ifCond .ne 6, 3) := by decide +kernel
theorem dX12_hitAt_67 : decode cX12_hitAt 67 = .ok (.goto 16, 3) := by decide +kernel
theorem dX12_hitAt_70 : decode cX12_hitAt 70 = .ok (.iload 6, 2) := by decide +kernel
theorem dX12_hitAt_72 : decode cX12_hitAt 72 = .ok (.iload 5, 2) := by decide +kernel
theorem dX12_hitAt_74 : decode cX12_hitAt 74 = .ok (.if_icmp .ne 6, 3) := by decide +kernel
theorem dX12_hitAt_77 : decode cX12_hitAt 77 = .ok (.iload 7, 2) := by decide +kernel
theorem dX12_hitAt_79 : decode cX12_hitAt 79 = .ok (.ireturn, 1) := by decide +kernel
theorem dX12_hitAt_80 : decode cX12_hitAt 80 = .ok (.iinc 6 1, 3) := by decide +kernel
theorem dX12_hitAt_83 : decode cX12_hitAt 83 = .ok (.iinc 7 1, 3) := by decide +kernel
theorem dX12_hitAt_86 : decode cX12_hitAt 86 = .ok (.goto (-60), 3) := by decide +kernel
theorem dX12_hitAt_89 : decode cX12_hitAt 89 = .ok (.iconst (-1), 1) := by decide +kernel
theorem dX12_hitAt_90 : decode cX12_hitAt 90 = .ok (.ireturn, 1) := by decide +kernel
set_option maxRecDepth 20000 in
theorem ggX12_asMany_X12_hitsOf : GoodIn wsX12_asMany wsX12_hitsOf := goodIn_r _ [5, 6, 7, 8, 9, 10, 4, 11, 12, 13, 14, 15, 16, 17, 18, 19, 20, 21, 22, 23, 24, 25, 26, 27, 28, 29, 30, 31, 32, 33, 34, 35, 36, 37, 38, 39, 40, 41, 42, 43, 44, 45, 46, 47, 48, 49, 50, 51, 52, 53, 54, 55, 56, 57, 58, 59, 60, 61, 62, 63, 64, 65, 66, 67, 68, 69, 70, 71, 72, 73, 74, 75, 76, 77, 78, 79, 80, 81, 82, 83, 84, 85, 86, 87, 88, 89, 90, 91, 92, 93, 94, 95, 96, 97, 98, 99, 100, 101, 102, 103, 104, 105] (by decide +kernel) (by decide +kernel)
set_option maxRecDepth 20000 in
theorem gX12_asMany_X12_hitsOf : GoodIn wsX12_asMany (wsV RX12 497 RX12 yX12_hitsOf wsX12_hitsOf) := goodIn_app (goodIn_of _ (by decide +kernel)) ggX12_asMany_X12_hitsOf
theorem dX12_asMany_0 : decode cX12_asMany 0 = .ok (.aload_n 0, 1) := by decide +kernel
theorem dX12_asMany_1 : decode cX12_asMany 1 = .ok (.iload_n 1, 1) := by decide +kernel
theorem dX12_asMany_2 : decode cX12_asMany 2 = .ok (.iconst 0, 1) := by decide +kernel
theorem dX12_asMany_3 : decode cX12_asMany 3 = .ok (.iconst 0, 1) := by decide +kernel
theorem dX12_asMany_4 : decode cX12_asMany 4 = .ok (.invokevirtual 497, 3) := by decide +kernel
theorem dX12_asMany_7 : decode cX12_asMany 7 = .ok (.istore_n 2, 1) := by decide +kernel
theorem dX12_asMany_8 : decode cX12_asMany 8 = .ok (.iconst 0, 1) := by decide +kernel
theorem dX12_asMany_9 : decode cX12_asMany 9 = .ok (.istore_n 3, 1) := by decide +kernel
theorem dX12_asMany_10 : decode cX12_asMany 10 = .ok (.iconst 0, 1) := by decide +kernel
theorem dX12_asMany_11 : decode cX12_asMany 11 = .ok (.istore 4, 2) := by decide +kernel
theorem dX12_asMany_13 : decode cX12_asMany 13 = .ok (.iload 4, 2) := by decide +kernel
theorem dX12_asMany_15 : decode cX12_asMany 15 = .ok (.sipush 360, 3) := by decide +kernel
theorem dX12_asMany_18 : decode cX12_asMany 18 = .ok (.if_icmp .ge 29, 3) := by decide +kernel
theorem dX12_asMany_21 : decode cX12_asMany 21 = .ok (.iload_n 3, 1) := by decide +kernel
theorem dX12_asMany_22 : decode cX12_asMany 22 = .ok (.aload_n 0, 1) := by decide +kernel
theorem dX12_asMany_23 : decode cX12_asMany 23 = .ok (.iload_n 1, 1) := by decide +kernel
theorem dX12_asMany_24 : decode cX12_asMany 24 = .ok (.iload 4, 2) := by decide +kernel
theorem dX12_asMany_26 : decode cX12_asMany 26 = .ok (.iconst 0, 1) := by decide +kernel
theorem dX12_asMany_27 : decode cX12_asMany 27 = .ok (.invokevirtual 497, 3) := by decide +kernel
theorem dX12_asMany_30 : decode cX12_asMany 30 = .ok (.iload_n 2, 1) := by decide +kernel
theorem dX12_asMany_31 : decode cX12_asMany 31 = .ok (.if_icmp .lt 7, 3) := by decide +kernel
theorem dX12_asMany_34 : decode cX12_asMany 34 = .ok (.iconst 1, 1) := by decide +kernel
theorem dX12_asMany_35 : decode cX12_asMany 35 = .ok (.goto 4, 3) := by decide +kernel
theorem dX12_asMany_38 : decode cX12_asMany 38 = .ok (.iconst 0, 1) := by decide +kernel
theorem dX12_asMany_39 : decode cX12_asMany 39 = .ok (.iadd, 1) := by decide +kernel
theorem dX12_asMany_40 : decode cX12_asMany 40 = .ok (.istore_n 3, 1) := by decide +kernel
theorem dX12_asMany_41 : decode cX12_asMany 41 = .ok (.iinc 4 1, 3) := by decide +kernel
theorem dX12_asMany_44 : decode cX12_asMany 44 = .ok (.goto (-31), 3) := by decide +kernel
theorem dX12_asMany_47 : decode cX12_asMany 47 = .ok (.iload_n 3, 1) := by decide +kernel
theorem dX12_asMany_48 : decode cX12_asMany 48 = .ok (.ireturn, 1) := by decide +kernel
set_option maxRecDepth 20000 in
theorem ggX12_many_X12_isSet : GoodIn wsX12_many wsX12_isSet := goodIn_r _ [5, 6, 7, 8, 4, 9, 10, 11, 12, 13, 14, 143, 144, 145, 146, 147, 148, 149, 150, 151, 152, 153, 154, 155, 156, 157, 158, 159, 160, 161, 162, 163, 164, 165, 166, 167, 168, 169, 170, 171, 172, 173, 174, 175, 176, 177, 178, 179, 180, 181, 182, 183, 184, 185, 186, 187, 188, 189, 190, 191, 192, 193, 194, 195, 196, 197, 198, 199, 200, 201, 202, 203, 204, 205, 206, 207, 208, 209, 210, 211, 212, 213, 214, 215, 216, 217, 218, 219, 220, 221, 222, 223] (by decide +kernel) (by decide +kernel)
set_option maxRecDepth 20000 in
theorem gX12_many_X12_isSet : GoodIn wsX12_many (wsV RX12 491 RX12 yX12_isSet wsX12_isSet) := goodIn_app (goodIn_of _ (by decide +kernel)) ggX12_many_X12_isSet
set_option maxRecDepth 20000 in
theorem ggX12_many_X12_layAll : GoodIn wsX12_many wsX12_layAll := goodIn_r _ [18, 19, 20, 21, 4, 22, 23, 24, 25, 26, 27, 28, 29, 30, 31, 32, 33, 34, 35, 36, 37, 38, 39, 40, 41, 42, 43, 44, 45, 46, 47, 48, 49, 50, 51, 52, 53, 54, 55, 56, 57, 58, 59, 60, 61, 62, 63, 64, 65, 66, 67, 68, 69, 70, 71, 72, 73, 74, 75, 76, 77, 78, 79, 80, 81, 82, 83, 84, 85, 86, 87, 88, 89, 90, 91, 92, 93, 94, 95, 96, 97, 98, 99, 100, 101, 102, 103, 6, 104, 105, 106, 107, 108, 109, 110, 111, 112, 113, 114, 115, 116, 117, 118, 119, 120, 121, 122, 143, 144, 145, 146, 147, 148, 149, 150, 151, 152, 153, 154, 155, 156, 157, 158, 159, 160, 161, 162, 163, 164, 165, 166, 167, 168, 169, 170, 171, 172, 173, 174, 175, 176, 177, 178, 179, 180, 181, 182, 183, 184, 185, 186, 187, 188, 189, 190, 191, 192, 193, 194, 195, 196, 197, 198, 199, 200, 201, 202, 203, 204, 205, 206, 207, 208, 209, 210, 211, 212, 213, 214, 215, 216, 217, 218, 219, 220, 221, 222, 223] (by decide +kernel) (by decide +kernel)
set_option maxRecDepth 20000 in
theorem gX12_many_X12_layAll : GoodIn wsX12_many (wsV RX12 494 RX12 yX12_layAll wsX12_layAll) := goodIn_app (goodIn_of _ (by decide +kernel)) ggX12_many_X12_layAll
set_option maxRecDepth 20000 in
theorem ggX12_many_X12_asMany : GoodIn wsX12_many wsX12_asMany := goodIn_r _ [126, 127, 128, 129, 4, 130, 28, 29, 131, 132, 133, 134, 135, 136, 137, 138, 6, 104, 139, 140, 141, 142, 58, 59, 60, 143, 144, 145, 146, 147, 148, 149, 150, 151, 152, 153, 154, 155, 156, 157, 158, 159, 160, 161, 162, 163, 164, 165, 166, 167, 168, 169, 170, 171, 172, 173, 174, 175, 176, 177, 178, 179, 180, 181, 182, 183, 184, 185, 186, 187, 188, 189, 190, 191, 192, 193, 194, 195, 196, 197, 198, 199, 200, 201, 202, 203, 204, 205, 206, 207, 208, 209, 210, 211, 212, 213, 214, 215, 216, 217, 218, 219, 220, 221, 222, 223] (by decide +kernel) (by decide +kernel)
set_option maxRecDepth 20000 in
theorem gX12_many_X12_asMany : GoodIn wsX12_many (wsV RX12 500 RX12 yX12_asMany wsX12_asMany) := goodIn_app (goodIn_of _ (by decide +kernel)) ggX12_many_X12_asMany
theorem dX12_many_0 : decode cX12_many 0 = .ok (.aload_n 0, 1) := by decide +kernel
theorem dX12_many_1 : decode cX12_many 1 = .ok (.iload_n 1, 1) := by decide +kernel
theorem dX12_many_2 : decode cX12_many 2 = .ok (.iload_n 2, 1) := by decide +kernel
theorem dX12_many_3 : decode cX12_many 3 = .ok (.iload_n 3, 1) := by decide +kernel
theorem dX12_many_4 : decode cX12_many 4 = .ok (.invokevirtual 491, 3) := by decide +kernel
theorem dX12_many_7 : decode cX12_many 7 = .ok (.ifCond .ne 5, 3) := by decide +kernel
theorem dX12_many_10 : decode cX12_many 10 = .ok (.iconst (-1), 1) := by decide +kernel
theorem dX12_many_11 : decode cX12_many 11 = .ok (.ireturn, 1) := by decide +kernel
theorem dX12_many_12 : decode cX12_many 12 = .ok (.aload_n 0, 1) := by decide +kernel
theorem dX12_many_13 : decode cX12_many 13 = .ok (.iload_n 2, 1) := by decide +kernel
theorem dX12_many_14 : decode cX12_many 14 = .ok (.iload_n 3, 1) := by decide +kernel
theorem dX12_many_15 : decode cX12_many 15 = .ok (.invokevirtual 494, 3) := by decide +kernel
theorem dX12_many_18 : decode cX12_many 18 = .ok (.aload_n 0, 1) := by decide +kernel
theorem dX12_many_19 : decode cX12_many 19 = .ok (.iload_n 1, 1) := by decide +kernel
theorem dX12_many_20 : decode cX12_many 20 = .ok (.invokevirtual 500, 3) := by decide +kernel
theorem dX12_many_23 : decode cX12_many 23 = .ok (.ireturn, 1) := by decide +kernel
set_option maxRecDepth 20000 in
theorem ggX12_allHits_X12_isSet : GoodIn wsX12_allHits wsX12_isSet := goodIn_r _ [5, 6, 7, 8, 4, 9, 10, 11, 12, 13, 14, 139, 140, 141, 142, 143, 144, 145, 146, 147, 148, 149, 150, 151, 152, 153, 154, 155, 156, 157, 158, 159, 160, 161, 162, 163, 164, 165, 166, 167, 168, 169, 170, 171, 172, 173, 174, 175, 176, 177, 178, 179, 180, 181, 182, 183, 184, 185, 186, 187, 188, 189, 190, 191, 192, 193, 194, 195, 196, 197, 198, 199, 200, 201, 202, 203, 204, 205, 206, 207, 208, 209, 210, 211, 212, 213, 214, 215, 216, 217, 218, 219] (by decide +kernel) (by decide +kernel)
set_option maxRecDepth 20000 in
theorem gX12_allHits_X12_isSet : GoodIn wsX12_allHits (wsV RX12 491 RX12 yX12_isSet wsX12_isSet) := goodIn_app (goodIn_of _ (by decide +kernel)) ggX12_allHits_X12_isSet
set_option maxRecDepth 20000 in
theorem ggX12_allHits_X12_layAll : GoodIn wsX12_allHits wsX12_layAll := goodIn_r _ [18, 19, 20, 21, 4, 22, 23, 24, 25, 26, 27, 28, 29, 30, 31, 32, 33, 34, 35, 36, 37, 38, 39, 40, 41, 42, 43, 44, 45, 46, 47, 48, 49, 50, 51, 52, 53, 54, 55, 56, 57, 58, 59, 60, 61, 62, 63, 64, 65, 66, 67, 68, 69, 70, 71, 72, 73, 74, 75, 76, 77, 78, 79, 80, 81, 82, 83, 84, 85, 86, 87, 88, 89, 90, 91, 92, 93, 94, 95, 96, 97, 98, 99, 100, 101, 102, 103, 6, 104, 105, 106, 107, 108, 109, 110, 111, 112, 113, 114, 115, 116, 117, 118, 119, 120, 121, 122, 139, 140, 141, 142, 143, 144, 145, 146, 147, 148, 149, 150, 151, 152, 153, 154, 155, 156, 157, 158, 159, 160, 161, 162, 163, 164, 165, 166, 167, 168, 169, 170, 171, 172, 173, 174, 175, 176, 177, 178, 179, 180, 181, 182, 183, 184, 185, 186, 187, 188, 189, 190, 191, 192, 193, 194, 195, 196, 197, 198, 199, 200, 201, 202, 203, 204, 205, 206, 207, 208, 209, 210, 211, 212, 213, 214, 215, 216, 217, 218, 219] (by decide +kernel) (by decide +kernel)
set_option maxRecDepth 20000 in
theorem gX12_allHits_X12_layAll : GoodIn wsX12_allHits (wsV RX12 494 RX12 yX12_layAll wsX12_layAll) := goodIn_app (goodIn_of _ (by decide +kernel)) ggX12_allHits_X12_layAll
set_option maxRecDepth 20000 in
theorem ggX12_allHits_X12_hitsOf : GoodIn wsX12_allHits wsX12_hitsOf := goodIn_r _ [126, 28, 29, 127, 128, 129, 4, 130, 131, 132, 133, 134, 6, 104, 135, 136, 137, 138, 58, 59, 60, 139, 140, 141, 142, 143, 144, 145, 146, 147, 148, 149, 150, 151, 152, 153, 154, 155, 156, 157, 158, 159, 160, 161, 162, 163, 164, 165, 166, 167, 168, 169, 170, 171, 172, 173, 174, 175, 176, 177, 178, 179, 180, 181, 182, 183, 184, 185, 186, 187, 188, 189, 190, 191, 192, 193, 194, 195, 196, 197, 198, 199, 200, 201, 202, 203, 204, 205, 206, 207, 208, 209, 210, 211, 212, 213, 214, 215, 216, 217, 218, 219] (by decide +kernel) (by decide +kernel)
set_option maxRecDepth 20000 in
theorem gX12_allHits_X12_hitsOf : GoodIn wsX12_allHits (wsV RX12 497 RX12 yX12_hitsOf wsX12_hitsOf) := goodIn_app (goodIn_of _ (by decide +kernel)) ggX12_allHits_X12_hitsOf
theorem dX12_allHits_0 : decode cX12_allHits 0 = .ok (.aload_n 0, 1) := by decide +kernel
theorem dX12_allHits_1 : decode cX12_allHits 1 = .ok (.iload_n 1, 1) := by decide +kernel
theorem dX12_allHits_2 : decode cX12_allHits 2 = .ok (.iload_n 2, 1) := by decide +kernel
theorem dX12_allHits_3 : decode cX12_allHits 3 = .ok (.iload_n 3, 1) := by decide +kernel
theorem dX12_allHits_4 : decode cX12_allHits 4 = .ok (.invokevirtual 491, 3) := by decide +kernel
theorem dX12_allHits_7 : decode cX12_allHits 7 = .ok (.ifCond .ne 5, 3) := by decide +kernel
theorem dX12_allHits_10 : decode cX12_allHits 10 = .ok (.iconst (-1), 1) := by decide +kernel
theorem dX12_allHits_11 : decode cX12_allHits 11 = .ok (.ireturn, 1) := by decide +kernel
theorem dX12_allHits_12 : decode cX12_allHits 12 = .ok (.aload_n 0, 1) := by decide +kernel
theorem dX12_allHits_13 : decode cX12_allHits 13 = .ok (.iload_n 2, 1) := by decide +kernel
theorem dX12_allHits_14 : decode cX12_allHits 14 = .ok (.iload_n 3, 1) := by decide +kernel
theorem dX12_allHits_15 : decode cX12_allHits 15 = .ok (.invokevirtual 494, 3) := by decide +kernel
theorem dX12_allHits_18 : decode cX12_allHits 18 = .ok (.iconst 0, 1) := by decide +kernel
theorem dX12_allHits_19 : decode cX12_allHits 19 = .ok (.istore 4, 2) := by decide +kernel
theorem dX12_allHits_21 : decode cX12_allHits 21 = .ok (.iconst 0, 1) := by decide +kernel
theorem dX12_allHits_22 : decode cX12_allHits 22 = .ok (.istore 5, 2) := by decide +kernel
theorem dX12_allHits_24 : decode cX12_allHits 24 = .ok (.iload 5, 2) := by decide +kernel
theorem dX12_allHits_26 : decode cX12_allHits 26 = .ok (.sipush 360, 3) := by decide +kernel
theorem dX12_allHits_29 : decode cX12_allHits 29 = .ok (.if_icmp .ge 22, 3) := by decide +kernel
theorem dX12_allHits_32 : decode cX12_allHits 32 = .ok (.iload 4, 2) := by decide +kernel
theorem dX12_allHits_34 : decode cX12_allHits 34 = .ok (.aload_n 0, 1) := by decide +kernel
theorem dX12_allHits_35 : decode cX12_allHits 35 = .ok (.iload_n 1, 1) := by decide +kernel
theorem dX12_allHits_36 : decode cX12_allHits 36 = .ok (.iload 5, 2) := by decide +kernel
theorem dX12_allHits_38 : decode cX12_allHits 38 = .ok (.iconst 0, 1) := by decide +kernel
theorem dX12_allHits_39 : decode cX12_allHits 39 = .ok (.invokevirtual 497, 3) := by decide +kernel
theorem dX12_allHits_42 : decode cX12_allHits 42 = .ok (.iadd, 1) := by decide +kernel
theorem dX12_allHits_43 : decode cX12_allHits 43 = .ok (.istore 4, 2) := by decide +kernel
theorem dX12_allHits_45 : decode cX12_allHits 45 = .ok (.iinc 5 1, 3) := by decide +kernel
theorem dX12_allHits_48 : decode cX12_allHits 48 = .ok (.goto (-24), 3) := by decide +kernel
theorem dX12_allHits_51 : decode cX12_allHits 51 = .ok (.iload 4, 2) := by decide +kernel
theorem dX12_allHits_53 : decode cX12_allHits 53 = .ok (.ireturn, 1) := by decide +kernel
set_option maxRecDepth 20000 in
theorem ggX12_alone_X12_isSet : GoodIn wsX12_alone wsX12_isSet := goodIn_r _ [11, 12, 13, 14, 10, 15, 16, 17, 18, 19, 20, 134, 135, 136, 137, 138, 139, 140, 141, 142, 143, 144, 145, 146, 147, 148, 149, 150, 151, 152, 153, 154, 155, 156, 157, 158, 159, 160, 161, 162, 163, 164, 165, 166, 167, 168, 169, 170, 171, 172, 173, 174, 175, 176, 177, 178, 179, 180, 181, 182, 183, 184, 185, 186, 187, 188, 189, 190, 191, 192, 193, 194, 195, 196, 197, 198, 199, 200, 201, 202, 203, 204, 205, 206, 207, 208, 209, 210, 211, 212, 213, 214] (by decide +kernel) (by decide +kernel)
set_option maxRecDepth 20000 in
theorem gX12_alone_X12_isSet : GoodIn wsX12_alone (wsV RX12 491 RX12 yX12_isSet wsX12_isSet) := goodIn_app (goodIn_of _ (by decide +kernel)) ggX12_alone_X12_isSet
set_option maxRecDepth 20000 in
theorem ggX12_alone_X12_layAll : GoodIn wsX12_alone wsX12_layAll := goodIn_r _ [24, 25, 26, 27, 10, 28, 29, 5, 30, 31, 32, 2, 3, 33, 34, 35, 36, 37, 38, 39, 40, 41, 42, 43, 44, 45, 46, 47, 48, 49, 50, 51, 52, 53, 54, 55, 56, 57, 58, 59, 60, 61, 62, 63, 64, 65, 66, 67, 68, 69, 70, 71, 72, 73, 74, 75, 76, 77, 78, 79, 80, 81, 82, 83, 84, 85, 86, 87, 88, 89, 90, 91, 92, 93, 94, 95, 96, 97, 98, 99, 100, 101, 102, 103, 104, 105, 106, 12, 107, 108, 109, 110, 111, 112, 113, 114, 115, 116, 117, 118, 119, 120, 121, 122, 123, 124, 125, 134, 135, 136, 137, 138, 139, 140, 141, 142, 143, 144, 145, 146, 147, 148, 149, 150, 151, 152, 153, 154, 155, 156, 157, 158, 159, 160, 161, 162, 163, 164, 165, 166, 167, 168, 169, 170, 171, 172, 173, 174, 175, 176, 177, 178, 179, 180, 181, 182, 183, 184, 185, 186, 187, 188, 189, 190, 191, 192, 193, 194, 195, 196, 197, 198, 199, 200, 201, 202, 203, 204, 205, 206, 207, 208, 209, 210, 211, 212, 213, 214] (by decide +kernel) (by decide +kernel)
set_option maxRecDepth 20000 in
theorem gX12_alone_X12_layAll : GoodIn wsX12_alone (wsV RX12 494 RX12 yX12_layAll wsX12_layAll) := goodIn_app (goodIn_of _ (by decide +kernel)) ggX12_alone_X12_layAll
set_option maxRecDepth 20000 in
theorem ggX12_alone_X12_hitBy : GoodIn wsX12_alone wsX12_hitBy := goodIn_r _ [129, 12, 107, 130, 131, 132, 10, 133, 61, 62, 63, 134, 135, 136, 137, 138, 139, 140, 141, 142, 143, 144, 145, 146, 147, 148, 149, 150, 151, 152, 153, 154, 155, 156, 157, 158, 159, 160, 161, 162, 163, 164, 165, 166, 167, 168, 169, 170, 171, 172, 173, 174, 175, 176, 177, 178, 179, 180, 181, 182, 183, 184, 185, 186, 187, 188, 189, 190, 191, 192, 193, 194, 195, 196, 197, 198, 199, 200, 201, 202, 203, 204, 205, 206, 207, 208, 209, 210, 211, 212, 213, 214] (by decide +kernel) (by decide +kernel)
set_option maxRecDepth 20000 in
theorem gX12_alone_X12_hitBy : GoodIn wsX12_alone (wsV RX12 484 RX12 yX12_hitBy wsX12_hitBy) := goodIn_app (goodIn_of _ (by decide +kernel)) ggX12_alone_X12_hitBy
theorem dX12_alone_0 : decode cX12_alone 0 = .ok (.aload_n 0, 1) := by decide +kernel
theorem dX12_alone_1 : decode cX12_alone 1 = .ok (.iload_n 1, 1) := by decide +kernel
theorem dX12_alone_2 : decode cX12_alone 2 = .ok (.iload_n 2, 1) := by decide +kernel
theorem dX12_alone_3 : decode cX12_alone 3 = .ok (.iload_n 3, 1) := by decide +kernel
theorem dX12_alone_4 : decode cX12_alone 4 = .ok (.invokevirtual 491, 3) := by decide +kernel
theorem dX12_alone_7 : decode cX12_alone 7 = .ok (.ifCond .ne 5, 3) := by decide +kernel
theorem dX12_alone_10 : decode cX12_alone 10 = .ok (.iconst (-1), 1) := by decide +kernel
theorem dX12_alone_11 : decode cX12_alone 11 = .ok (.ireturn, 1) := by decide +kernel
theorem dX12_alone_12 : decode cX12_alone 12 = .ok (.aload_n 0, 1) := by decide +kernel
theorem dX12_alone_13 : decode cX12_alone 13 = .ok (.iload_n 2, 1) := by decide +kernel
theorem dX12_alone_14 : decode cX12_alone 14 = .ok (.iload_n 3, 1) := by decide +kernel
theorem dX12_alone_15 : decode cX12_alone 15 = .ok (.invokevirtual 494, 3) := by decide +kernel
theorem dX12_alone_18 : decode cX12_alone 18 = .ok (.iconst 0, 1) := by decide +kernel
theorem dX12_alone_19 : decode cX12_alone 19 = .ok (.istore 4, 2) := by decide +kernel
theorem dX12_alone_21 : decode cX12_alone 21 = .ok (.iload 4, 2) := by decide +kernel
theorem dX12_alone_23 : decode cX12_alone 23 = .ok (.bipush 14, 2) := by decide +kernel
theorem dX12_alone_25 : decode cX12_alone 25 = .ok (.if_icmp .ge 17, 3) := by decide +kernel
theorem dX12_alone_28 : decode cX12_alone 28 = .ok (.aload_n 0, 1) := by decide +kernel
theorem dX12_alone_29 : decode cX12_alone 29 = .ok (.getfield 193, 3) := by decide +kernel
theorem dX12_alone_32 : decode cX12_alone 32 = .ok (.iload 4, 2) := by decide +kernel
theorem dX12_alone_34 : decode cX12_alone 34 = .ok (.iconst 0, 1) := by decide +kernel
theorem dX12_alone_35 : decode cX12_alone 35 = .ok (.iastore, 1) := by decide +kernel
theorem dX12_alone_36 : decode cX12_alone 36 = .ok (.iinc 4 1, 3) := by decide +kernel
theorem dX12_alone_39 : decode cX12_alone 39 = .ok (.goto (-18), 3) := by decide +kernel
theorem dX12_alone_42 : decode cX12_alone 42 = .ok (.iconst 0, 1) := by decide +kernel
theorem dX12_alone_43 : decode cX12_alone 43 = .ok (.istore 4, 2) := by decide +kernel
theorem dX12_alone_45 : decode cX12_alone 45 = .ok (.iload 4, 2) := by decide +kernel
theorem dX12_alone_47 : decode cX12_alone 47 = .ok (.sipush 196, 3) := by decide +kernel
theorem dX12_alone_50 : decode cX12_alone 50 = .ok (.if_icmp .ge 85, 3) := by decide +kernel
theorem dX12_alone_53 : decode cX12_alone 53 = .ok (.aload_n 0, 1) := by decide +kernel
theorem dX12_alone_54 : decode cX12_alone 54 = .ok (.getfield 178, 3) := by decide +kernel
theorem dX12_alone_57 : decode cX12_alone 57 = .ok (.iload 4, 2) := by decide +kernel
theorem dX12_alone_59 : decode cX12_alone 59 = .ok (.baload, 1) := by decide +kernel
theorem dX12_alone_60 : decode cX12_alone 60 = .ok (.ifCond .eq 69, 3) := by decide +kernel
theorem dX12_alone_63 : decode cX12_alone 63 = .ok (.aload_n 0, 1) := by decide +kernel
theorem dX12_alone_64 : decode cX12_alone 64 = .ok (.aload_n 0, 1) := by decide +kernel
theorem dX12_alone_65 : decode cX12_alone 65 = .ok (.getfield 172, 3) := by decide +kernel
theorem dX12_alone_68 : decode cX12_alone 68 = .ok (.iload 4, 2) := by decide +kernel
theorem dX12_alone_70 : decode cX12_alone 70 = .ok (.iaload, 1) := by decide +kernel
theorem dX12_alone_71 : decode cX12_alone 71 = .ok (.aload_n 0, 1) := by decide +kernel
theorem dX12_alone_72 : decode cX12_alone 72 = .ok (.getfield 34, 3) := by decide +kernel
theorem dX12_alone_75 : decode cX12_alone 75 = .ok (.iconst 0, 1) := by decide +kernel
theorem dX12_alone_76 : decode cX12_alone 76 = .ok (.iaload, 1) := by decide +kernel
theorem dX12_alone_77 : decode cX12_alone 77 = .ok (.iconst 0, 1) := by decide +kernel
theorem dX12_alone_78 : decode cX12_alone 78 = .ok (.invokevirtual 484, 3) := by decide +kernel
theorem dX12_alone_81 : decode cX12_alone 81 = .ok (.iload_n 1, 1) := by decide +kernel
theorem dX12_alone_82 : decode cX12_alone 82 = .ok (.iand, 1) := by decide +kernel
theorem dX12_alone_83 : decode cX12_alone 83 = .ok (.ifCond .ne 6, 3) := by decide +kernel
theorem dX12_alone_86 : decode cX12_alone 86 = .ok (.goto 43, 3) := by decide +kernel
theorem dX12_alone_89 : decode cX12_alone 89 = .ok (.aload_n 0, 1) := by decide +kernel
theorem dX12_alone_90 : decode cX12_alone 90 = .ok (.getfield 193, 3) := by decide +kernel
theorem dX12_alone_93 : decode cX12_alone 93 = .ok (.iload 4, 2) := by decide +kernel
theorem dX12_alone_95 : decode cX12_alone 95 = .ok (.bipush 14, 2) := by decide +kernel
theorem dX12_alone_97 : decode cX12_alone 97 = .ok (.idiv, 1) := by decide +kernel
theorem dX12_alone_98 : decode cX12_alone 98 = .ok (.dup2, 1) := by decide +kernel
theorem dX12_alone_99 : decode cX12_alone 99 = .ok (.iaload, 1) := by decide +kernel
theorem dX12_alone_100 : decode cX12_alone 100 = .ok (.iconst 1, 1) := by decide +kernel
theorem dX12_alone_101 : decode cX12_alone 101 = .ok (.iload 4, 2) := by decide +kernel
theorem dX12_alone_103 : decode cX12_alone 103 = .ok (.bipush 14, 2) := by decide +kernel
theorem dX12_alone_105 : decode cX12_alone 105 = .ok (.irem, 1) := by decide +kernel
theorem dX12_alone_106 : decode cX12_alone 106 = .ok (.ishl, 1) := by decide +kernel
theorem dX12_alone_107 : decode cX12_alone 107 = .ok (.ior, 1) := by decide +kernel
theorem dX12_alone_108 : decode cX12_alone 108 = .ok (.iastore, 1) := by decide +kernel
theorem dX12_alone_109 : decode cX12_alone 109 = .ok (.aload_n 0, 1) := by decide +kernel
theorem dX12_alone_110 : decode cX12_alone 110 = .ok (.getfield 193, 3) := by decide +kernel
theorem dX12_alone_113 : decode cX12_alone 113 = .ok (.iload 4, 2) := by decide +kernel
theorem dX12_alone_115 : decode cX12_alone 115 = .ok (.bipush 14, 2) := by decide +kernel
theorem dX12_alone_117 : decode cX12_alone 117 = .ok (.irem, 1) := by decide +kernel
theorem dX12_alone_118 : decode cX12_alone 118 = .ok (.dup2, 1) := by decide +kernel
theorem dX12_alone_119 : decode cX12_alone 119 = .ok (.iaload, 1) := by decide +kernel
theorem dX12_alone_120 : decode cX12_alone 120 = .ok (.iconst 1, 1) := by decide +kernel
theorem dX12_alone_121 : decode cX12_alone 121 = .ok (.iload 4, 2) := by decide +kernel
theorem dX12_alone_123 : decode cX12_alone 123 = .ok (.bipush 14, 2) := by decide +kernel
theorem dX12_alone_125 : decode cX12_alone 125 = .ok (.idiv, 1) := by decide +kernel
theorem dX12_alone_126 : decode cX12_alone 126 = .ok (.ishl, 1) := by decide +kernel
theorem dX12_alone_127 : decode cX12_alone 127 = .ok (.ior, 1) := by decide +kernel
theorem dX12_alone_128 : decode cX12_alone 128 = .ok (.iastore, 1) := by decide +kernel
theorem dX12_alone_129 : decode cX12_alone 129 = .ok (.iinc 4 1, 3) := by decide +kernel
theorem dX12_alone_132 : decode cX12_alone 132 = .ok (.goto (-87), 3) := by decide +kernel
theorem dX12_alone_135 : decode cX12_alone 135 = .ok (.iconst 1, 1) := by decide +kernel
theorem dX12_alone_136 : decode cX12_alone 136 = .ok (.aload_n 0, 1) := by decide +kernel
theorem dX12_alone_137 : decode cX12_alone 137 = .ok (.getfield 37, 3) := by decide +kernel
theorem dX12_alone_140 : decode cX12_alone 140 = .ok (.iconst 0, 1) := by decide +kernel
theorem dX12_alone_141 : decode cX12_alone 141 = .ok (.iaload, 1) := by decide +kernel
theorem dX12_alone_142 : decode cX12_alone 142 = .ok (.ishl, 1) := by decide +kernel
theorem dX12_alone_143 : decode cX12_alone 143 = .ok (.istore 4, 2) := by decide +kernel
theorem dX12_alone_145 : decode cX12_alone 145 = .ok (.aload_n 0, 1) := by decide +kernel
theorem dX12_alone_146 : decode cX12_alone 146 = .ok (.getfield 190, 3) := by decide +kernel
theorem dX12_alone_149 : decode cX12_alone 149 = .ok (.iconst 0, 1) := by decide +kernel
theorem dX12_alone_150 : decode cX12_alone 150 = .ok (.iconst 0, 1) := by decide +kernel
theorem dX12_alone_151 : decode cX12_alone 151 = .ok (.iastore, 1) := by decide +kernel
theorem dX12_alone_152 : decode cX12_alone 152 = .ok (.iconst 1, 1) := by decide +kernel
theorem dX12_alone_153 : decode cX12_alone 153 = .ok (.istore 5, 2) := by decide +kernel
theorem dX12_alone_155 : decode cX12_alone 155 = .ok (.iload 5, 2) := by decide +kernel
theorem dX12_alone_157 : decode cX12_alone 157 = .ok (.iload 4, 2) := by decide +kernel
theorem dX12_alone_159 : decode cX12_alone 159 = .ok (.if_icmp .ge 133, 3) := by decide +kernel
theorem dX12_alone_162 : decode cX12_alone 162 = .ok (.iconst 0, 1) := by decide +kernel
theorem dX12_alone_163 : decode cX12_alone 163 = .ok (.istore 6, 2) := by decide +kernel
theorem dX12_alone_165 : decode cX12_alone 165 = .ok (.iload 5, 2) := by decide +kernel
theorem dX12_alone_167 : decode cX12_alone 167 = .ok (.iload 6, 2) := by decide +kernel
theorem dX12_alone_169 : decode cX12_alone 169 = .ok (.ishr, 1) := by decide +kernel
theorem dX12_alone_170 : decode cX12_alone 170 = .ok (.iconst 1, 1) := by decide +kernel
theorem dX12_alone_171 : decode cX12_alone 171 = .ok (.iand, 1) := by decide +kernel
theorem dX12_alone_172 : decode cX12_alone 172 = .ok (.ifCond .ne 9, 3) := by decide +kernel
theorem dX12_alone_175 : decode cX12_alone 175 = .ok (.iinc 6 1, 3) := by decide +kernel
theorem dX12_alone_178 : decode cX12_alone 178 = .ok (.goto (-13), 3) := by decide +kernel
theorem dX12_alone_181 : decode cX12_alone 181 = .ok (.iload 5, 2) := by decide +kernel
theorem dX12_alone_183 : decode cX12_alone 183 = .ok (.iconst 1, 1) := by decide +kernel
theorem dX12_alone_184 : decode cX12_alone 184 = .ok (.iload 6, 2) := by decide +kernel
theorem dX12_alone_186 : decode cX12_alone 186 = .ok (.ishl, 1) := by decide +kernel
theorem dX12_alone_187 : decode cX12_alone 187 = .ok (.iconst (-1), 1) := by decide +kernel
theorem dX12_alone_188 : decode cX12_alone 188 = .ok (.ixor, 1) := by decide +kernel
theorem dX12_alone_189 : decode cX12_alone 189 = .ok (.iand, 1) := by decide +kernel
theorem dX12_alone_190 : decode cX12_alone 190 = .ok (.istore 7, 2) := by decide +kernel
theorem dX12_alone_192 : decode cX12_alone 192 = .ok (.aload_n 0, 1) := by decide +kernel
theorem dX12_alone_193 : decode cX12_alone 193 = .ok (.getfield 190, 3) := by decide +kernel
theorem dX12_alone_196 : decode cX12_alone 196 = .ok (.iload 7, 2) := by decide +kernel
theorem dX12_alone_198 : decode cX12_alone 198 = .ok (.iaload, 1) := by decide +kernel
theorem dX12_alone_199 : decode cX12_alone 199 = .ok (.istore 8, 2) := by decide +kernel
theorem dX12_alone_201 : decode cX12_alone 201 = .ok (.iload 6, 2) := by decide +kernel
theorem dX12_alone_203 : decode cX12_alone 203 = .ok (.iconst 1, 1) := by decide +kernel
theorem dX12_alone_204 : decode cX12_alone 204 = .ok (.iadd, 1) := by decide +kernel
theorem dX12_alone_205 : decode cX12_alone 205 = .ok (.istore 9, 2) := by decide +kernel
theorem dX12_alone_207 : decode cX12_alone 207 = .ok (.iload 9, 2) := by decide +kernel
theorem dX12_alone_209 : decode cX12_alone 209 = .ok (.bipush 14, 2) := by decide +kernel
theorem dX12_alone_211 : decode cX12_alone 211 = .ok (.if_icmp .ge 66, 3) := by decide +kernel
theorem dX12_alone_214 : decode cX12_alone 214 = .ok (.iload 7, 2) := by decide +kernel
theorem dX12_alone_216 : decode cX12_alone 216 = .ok (.iload 9, 2) := by decide +kernel
theorem dX12_alone_218 : decode cX12_alone 218 = .ok (.ishr, 1) := by decide +kernel
theorem dX12_alone_219 : decode cX12_alone 219 = .ok (.iconst 1, 1) := by decide +kernel
theorem dX12_alone_220 : decode cX12_alone 220 = .ok (.iand, 1) := by decide +kernel
theorem dX12_alone_221 : decode cX12_alone 221 = .ok (.ifCond .eq 50, 3) := by decide +kernel
theorem dX12_alone_224 : decode cX12_alone 224 = .ok (.aload_n 0, 1) := by decide +kernel
theorem dX12_alone_225 : decode cX12_alone 225 = .ok (.getfield 193, 3) := by decide +kernel
theorem dX12_alone_228 : decode cX12_alone 228 = .ok (.iload 6, 2) := by decide +kernel
theorem dX12_alone_230 : decode cX12_alone 230 = .ok (.iaload, 1) := by decide +kernel
theorem dX12_alone_231 : decode cX12_alone 231 = .ok (.iload 9, 2) := by decide +kernel
theorem dX12_alone_233 : decode cX12_alone 233 = .ok (.ishr, 1) := by decide +kernel
theorem dX12_alone_234 : decode cX12_alone 234 = .ok (.iconst 1, 1) := by decide +kernel
theorem dX12_alone_235 : decode cX12_alone 235 = .ok (.iand, 1) := by decide +kernel
theorem dX12_alone_236 : decode cX12_alone 236 = .ok (.ifCond .ne 6, 3) := by decide +kernel
theorem dX12_alone_239 : decode cX12_alone 239 = .ok (.goto 32, 3) := by decide +kernel
theorem dX12_alone_242 : decode cX12_alone 242 = .ok (.aload_n 0, 1) := by decide +kernel
theorem dX12_alone_243 : decode cX12_alone 243 = .ok (.getfield 190, 3) := by decide +kernel
theorem dX12_alone_246 : decode cX12_alone 246 = .ok (.iload 7, 2) := by decide +kernel
theorem dX12_alone_248 : decode cX12_alone 248 = .ok (.iconst 1, 1) := by decide +kernel
theorem dX12_alone_249 : decode cX12_alone 249 = .ok (.iload 9, 2) := by decide +kernel
theorem dX12_alone_251 : decode cX12_alone 251 = .ok (.ishl, 1) := by decide +kernel
theorem dX12_alone_252 : decode cX12_alone 252 = .ok (.iconst (-1), 1) := by decide +kernel
theorem dX12_alone_253 : decode cX12_alone 253 = .ok (.ixor, 1) := by decide +kernel
theorem dX12_alone_254 : decode cX12_alone 254 = .ok (.iand, 1) := by decide +kernel
theorem dX12_alone_255 : decode cX12_alone 255 = .ok (.iaload, 1) := by decide +kernel
theorem dX12_alone_256 : decode cX12_alone 256 = .ok (.iconst 1, 1) := by decide +kernel
theorem dX12_alone_257 : decode cX12_alone 257 = .ok (.iadd, 1) := by decide +kernel
theorem dX12_alone_258 : decode cX12_alone 258 = .ok (.istore 10, 2) := by decide +kernel
theorem dX12_alone_260 : decode cX12_alone 260 = .ok (.iload 10, 2) := by decide +kernel
theorem dX12_alone_262 : decode cX12_alone 262 = .ok (.iload 8, 2) := by decide +kernel
theorem dX12_alone_264 : decode cX12_alone 264 = .ok (.if_icmp .le 7, 3) := by decide +kernel
theorem dX12_alone_267 : decode cX12_alone 267 = .ok (.iload 10, 2) := by decide +kernel
theorem dX12_alone_269 : decode cX12_alone 269 = .ok (.istore 8, 2) := by decide +kernel
theorem dX12_alone_271 : decode cX12_alone 271 = .ok (.iinc 9 1, 3) := by decide +kernel
theorem dX12_alone_274 : decode cX12_alone 274 = .ok (.goto (-67), 3) := by decide +kernel
theorem dX12_alone_277 : decode cX12_alone 277 = .ok (.aload_n 0, 1) := by decide +kernel
theorem dX12_alone_278 : decode cX12_alone 278 = .ok (.getfield 190, 3) := by decide +kernel
theorem dX12_alone_281 : decode cX12_alone 281 = .ok (.iload 5, 2) := by decide +kernel
theorem dX12_alone_283 : decode cX12_alone 283 = .ok (.iload 8, 2) := by decide +kernel
theorem dX12_alone_285 : decode cX12_alone 285 = .ok (.iastore, 1) := by decide +kernel
theorem dX12_alone_286 : decode cX12_alone 286 = .ok (.iinc 5 1, 3) := by decide +kernel
theorem dX12_alone_289 : decode cX12_alone 289 = .ok (.goto (-134), 3) := by decide +kernel
theorem dX12_alone_292 : decode cX12_alone 292 = .ok (.aload_n 0, 1) := by decide +kernel
theorem dX12_alone_293 : decode cX12_alone 293 = .ok (.getfield 190, 3) := by decide +kernel
theorem dX12_alone_296 : decode cX12_alone 296 = .ok (.iload 4, 2) := by decide +kernel
theorem dX12_alone_298 : decode cX12_alone 298 = .ok (.iconst 1, 1) := by decide +kernel
theorem dX12_alone_299 : decode cX12_alone 299 = .ok (.isub, 1) := by decide +kernel
theorem dX12_alone_300 : decode cX12_alone 300 = .ok (.iaload, 1) := by decide +kernel
theorem dX12_alone_301 : decode cX12_alone 301 = .ok (.ireturn, 1) := by decide +kernel
set_option maxRecDepth 20000 in
theorem ggX12_strike_X12_turned : GoodIn wsX12_strike wsX12_turned := goodIn_r _ [9] (by decide +kernel) (by decide +kernel)
set_option maxRecDepth 20000 in
theorem gX12_strike_X12_turned : GoodIn wsX12_strike (va_wsS RX12 488 yX12_turned wsX12_turned) := goodIn_app (goodIn_of _ (by decide +kernel)) ggX12_strike_X12_turned
set_option maxRecDepth 20000 in
theorem ggX12_strike_X12_hitBy : GoodIn wsX12_strike wsX12_hitBy := goodIn_r _ [13, 5, 14, 15, 16, 17, 8, 18, 19, 20, 21, 28, 29, 30, 31, 32, 33, 34, 35, 36, 37, 38, 39, 40, 41, 42, 43, 44, 45, 46, 47, 48, 49, 50, 51, 52, 53, 54, 55, 56, 57, 58, 59, 60, 61, 62, 63, 64, 65, 66, 67, 68, 69, 70, 71, 72, 73, 74, 75, 76, 77, 78, 79, 80, 81, 82, 83, 84, 85, 86, 87, 88, 89, 90, 91, 92, 93, 94, 95, 96, 97, 98, 99, 100, 101, 102, 103, 104, 105, 106, 107, 108] (by decide +kernel) (by decide +kernel)
set_option maxRecDepth 20000 in
theorem gX12_strike_X12_hitBy : GoodIn wsX12_strike (wsV RX12 484 RX12 yX12_hitBy wsX12_hitBy) := goodIn_app (goodIn_of _ (by decide +kernel)) ggX12_strike_X12_hitBy
set_option maxRecDepth 20000 in
theorem ggX12_strike_X12_strikeBy : GoodIn wsX12_strike wsX12_strikeBy := goodIn_r _ [25, 26, 2, 27, 1, 28, 29, 30, 31, 32, 33, 34, 35, 36, 37, 38, 39, 40, 41, 42, 43, 44, 45, 46, 47, 48, 49, 50, 51, 52, 53, 54, 55, 56, 57, 58, 59, 60, 61, 62, 63, 64, 65, 66, 67, 68, 69, 70, 71, 72, 73, 74, 75, 76, 77, 78, 79, 80, 81, 82, 83, 84, 85, 86, 87, 88, 89, 90, 91, 92, 93, 94, 95, 96, 97, 98, 99, 100, 101, 102, 103, 104, 105, 106, 107, 108] (by decide +kernel) (by decide +kernel)
set_option maxRecDepth 20000 in
theorem gX12_strike_X12_strikeBy : GoodIn wsX12_strike (wsV RX12 503 RX12 yX12_strikeBy wsX12_strikeBy) := goodIn_app (goodIn_of _ (by decide +kernel)) ggX12_strike_X12_strikeBy
theorem dX12_strike_0 : decode cX12_strike 0 = .ok (.iconst 0, 1) := by decide +kernel
theorem dX12_strike_1 : decode cX12_strike 1 = .ok (.istore_n 1, 1) := by decide +kernel
theorem dX12_strike_2 : decode cX12_strike 2 = .ok (.iload_n 1, 1) := by decide +kernel
theorem dX12_strike_3 : decode cX12_strike 3 = .ok (.sipush 360, 3) := by decide +kernel
theorem dX12_strike_6 : decode cX12_strike 6 = .ok (.if_icmp .ge 18, 3) := by decide +kernel
theorem dX12_strike_9 : decode cX12_strike 9 = .ok (.aload_n 0, 1) := by decide +kernel
theorem dX12_strike_10 : decode cX12_strike 10 = .ok (.getfield 196, 3) := by decide +kernel
theorem dX12_strike_13 : decode cX12_strike 13 = .ok (.iload_n 1, 1) := by decide +kernel
theorem dX12_strike_14 : decode cX12_strike 14 = .ok (.sipush 360, 3) := by decide +kernel
theorem dX12_strike_17 : decode cX12_strike 17 = .ok (.iastore, 1) := by decide +kernel
theorem dX12_strike_18 : decode cX12_strike 18 = .ok (.iinc 1 1, 3) := by decide +kernel
theorem dX12_strike_21 : decode cX12_strike 21 = .ok (.goto (-19), 3) := by decide +kernel
theorem dX12_strike_24 : decode cX12_strike 24 = .ok (.iconst 0, 1) := by decide +kernel
theorem dX12_strike_25 : decode cX12_strike 25 = .ok (.istore_n 1, 1) := by decide +kernel
theorem dX12_strike_26 : decode cX12_strike 26 = .ok (.iload_n 1, 1) := by decide +kernel
theorem dX12_strike_27 : decode cX12_strike 27 = .ok (.iconst 5, 1) := by decide +kernel
theorem dX12_strike_28 : decode cX12_strike 28 = .ok (.if_icmp .ge 105, 3) := by decide +kernel
theorem dX12_strike_31 : decode cX12_strike 31 = .ok (.iconst 0, 1) := by decide +kernel
theorem dX12_strike_32 : decode cX12_strike 32 = .ok (.istore_n 2, 1) := by decide +kernel
theorem dX12_strike_33 : decode cX12_strike 33 = .ok (.iload_n 2, 1) := by decide +kernel
theorem dX12_strike_34 : decode cX12_strike 34 = .ok (.sipush 360, 3) := by decide +kernel
theorem dX12_strike_37 : decode cX12_strike 37 = .ok (.if_icmp .ge 65, 3) := by decide +kernel
theorem dX12_strike_40 : decode cX12_strike 40 = .ok (.iconst 0, 1) := by decide +kernel
theorem dX12_strike_41 : decode cX12_strike 41 = .ok (.istore_n 3, 1) := by decide +kernel
theorem dX12_strike_42 : decode cX12_strike 42 = .ok (.iload_n 3, 1) := by decide +kernel
theorem dX12_strike_43 : decode cX12_strike 43 = .ok (.sipush 196, 3) := by decide +kernel
theorem dX12_strike_46 : decode cX12_strike 46 = .ok (.if_icmp .ge 50, 3) := by decide +kernel
theorem dX12_strike_49 : decode cX12_strike 49 = .ok (.aload_n 0, 1) := by decide +kernel
theorem dX12_strike_50 : decode cX12_strike 50 = .ok (.getfield 206, 3) := by decide +kernel
theorem dX12_strike_53 : decode cX12_strike 53 = .ok (.sipush 196, 3) := by decide +kernel
theorem dX12_strike_56 : decode cX12_strike 56 = .ok (.iload_n 2, 1) := by decide +kernel
theorem dX12_strike_57 : decode cX12_strike 57 = .ok (.imul, 1) := by decide +kernel
theorem dX12_strike_58 : decode cX12_strike 58 = .ok (.iload_n 3, 1) := by decide +kernel
theorem dX12_strike_59 : decode cX12_strike 59 = .ok (.iadd, 1) := by decide +kernel
theorem dX12_strike_60 : decode cX12_strike 60 = .ok (.aload_n 0, 1) := by decide +kernel
theorem dX12_strike_61 : decode cX12_strike 61 = .ok (.getfield 178, 3) := by decide +kernel
theorem dX12_strike_64 : decode cX12_strike 64 = .ok (.iload_n 3, 1) := by decide +kernel
theorem dX12_strike_65 : decode cX12_strike 65 = .ok (.baload, 1) := by decide +kernel
theorem dX12_strike_66 : decode cX12_strike 66 = .ok (.ifCond .eq 22, 3) := by decide +kernel
theorem dX12_strike_69 : decode cX12_strike 69 = .ok (.aload_n 0, 1) := by decide +kernel
theorem dX12_strike_70 : decode cX12_strike 70 = .ok (.aload_n 0, 1) := by decide +kernel
theorem dX12_strike_71 : decode cX12_strike 71 = .ok (.getfield 172, 3) := by decide +kernel
theorem dX12_strike_74 : decode cX12_strike 74 = .ok (.iload_n 3, 1) := by decide +kernel
theorem dX12_strike_75 : decode cX12_strike 75 = .ok (.iaload, 1) := by decide +kernel
theorem dX12_strike_76 : decode cX12_strike 76 = .ok (.iload_n 2, 1) := by decide +kernel
theorem dX12_strike_77 : decode cX12_strike 77 = .ok (.invokestatic 488, 3) := by decide +kernel
theorem dX12_strike_80 : decode cX12_strike 80 = .ok (.iload_n 1, 1) := by decide +kernel
theorem dX12_strike_81 : decode cX12_strike 81 = .ok (.iconst 0, 1) := by decide +kernel
theorem dX12_strike_82 : decode cX12_strike 82 = .ok (.invokevirtual 484, 3) := by decide +kernel
theorem dX12_strike_85 : decode cX12_strike 85 = .ok (.goto 4, 3) := by decide +kernel
theorem dX12_strike_88 : decode cX12_strike 88 = .ok (.iconst 0, 1) := by decide +kernel
theorem dX12_strike_89 : decode cX12_strike 89 = .ok (.iastore, 1) := by decide +kernel
theorem dX12_strike_90 : decode cX12_strike 90 = .ok (.iinc 3 1, 3) := by decide +kernel
theorem dX12_strike_93 : decode cX12_strike 93 = .ok (.goto (-51), 3) := by decide +kernel
theorem dX12_strike_96 : decode cX12_strike 96 = .ok (.iinc 2 1, 3) := by decide +kernel
theorem dX12_strike_99 : decode cX12_strike 99 = .ok (.goto (-66), 3) := by decide +kernel
theorem dX12_strike_102 : decode cX12_strike 102 = .ok (.iconst 1, 1) := by decide +kernel
theorem dX12_strike_103 : decode cX12_strike 103 = .ok (.istore_n 2, 1) := by decide +kernel
theorem dX12_strike_104 : decode cX12_strike 104 = .ok (.iload_n 2, 1) := by decide +kernel
theorem dX12_strike_105 : decode cX12_strike 105 = .ok (.iconst 1, 1) := by decide +kernel
theorem dX12_strike_106 : decode cX12_strike 106 = .ok (.aload_n 0, 1) := by decide +kernel
theorem dX12_strike_107 : decode cX12_strike 107 = .ok (.getfield 76, 3) := by decide +kernel
theorem dX12_strike_110 : decode cX12_strike 110 = .ok (.iconst 0, 1) := by decide +kernel
theorem dX12_strike_111 : decode cX12_strike 111 = .ok (.iaload, 1) := by decide +kernel
theorem dX12_strike_112 : decode cX12_strike 112 = .ok (.ishl, 1) := by decide +kernel
theorem dX12_strike_113 : decode cX12_strike 113 = .ok (.if_icmp .ge 14, 3) := by decide +kernel
theorem dX12_strike_116 : decode cX12_strike 116 = .ok (.aload_n 0, 1) := by decide +kernel
theorem dX12_strike_117 : decode cX12_strike 117 = .ok (.iload_n 2, 1) := by decide +kernel
theorem dX12_strike_118 : decode cX12_strike 118 = .ok (.invokevirtual 503, 3) := by decide +kernel
theorem dX12_strike_121 : decode cX12_strike 121 = .ok (.iinc 2 1, 3) := by decide +kernel
theorem dX12_strike_124 : decode cX12_strike 124 = .ok (.goto (-20), 3) := by decide +kernel
theorem dX12_strike_127 : decode cX12_strike 127 = .ok (.iinc 1 1, 3) := by decide +kernel
theorem dX12_strike_130 : decode cX12_strike 130 = .ok (.goto (-104), 3) := by decide +kernel
theorem dX12_strike_133 : decode cX12_strike 133 = .ok (.return_, 1) := by decide +kernel
theorem dX12_strikeBy_0 : decode cX12_strikeBy 0 = .ok (.iconst 0, 1) := by decide +kernel
theorem dX12_strikeBy_1 : decode cX12_strikeBy 1 = .ok (.istore_n 2, 1) := by decide +kernel
theorem dX12_strikeBy_2 : decode cX12_strikeBy 2 = .ok (.iload_n 2, 1) := by decide +kernel
theorem dX12_strikeBy_3 : decode cX12_strikeBy 3 = .ok (.sipush 200, 3) := by decide +kernel
theorem dX12_strikeBy_6 : decode cX12_strikeBy 6 = .ok (.if_icmp .ge 16, 3) := by decide +kernel
theorem dX12_strikeBy_9 : decode cX12_strikeBy 9 = .ok (.aload_n 0, 1) := by decide +kernel
theorem dX12_strikeBy_10 : decode cX12_strikeBy 10 = .ok (.getfield 202, 3) := by decide +kernel
theorem dX12_strikeBy_13 : decode cX12_strikeBy 13 = .ok (.iload_n 2, 1) := by decide +kernel
