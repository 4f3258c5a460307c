theorem dX12_anything_54 : decode cX12_anything 54 = .ok (.ireturn, 1) := by decide +kernel
theorem dX12_anything_55 : decode cX12_anything 55 = .ok (.iconst 0, 1) := by decide +kernel
theorem dX12_anything_56 : decode cX12_anything 56 = .ok (.istore 6, 2) := by decide +kernel
theorem dX12_anything_58 : decode cX12_anything 58 = .ok (.iconst 1, 1) := by decide +kernel
theorem dX12_anything_59 : decode cX12_anything 59 = .ok (.istore 7, 2) := by decide +kernel
theorem dX12_anything_61 : decode cX12_anything 61 = .ok (.iload 7, 2) := by decide +kernel
theorem dX12_anything_63 : decode cX12_anything 63 = .ok (.iload 5, 2) := by decide +kernel
theorem dX12_anything_65 : decode cX12_anything 65 = .ok (.if_icmp .gt 81, 3) := by decide +kernel
theorem dX12_anything_68 : decode cX12_anything 68 = .ok (.iconst 0, 1) := by decide +kernel
theorem dX12_anything_69 : decode cX12_anything 69 = .ok (.istore 8, 2) := by decide +kernel
theorem dX12_anything_71 : decode cX12_anything 71 = .ok (.iconst 1, 1) := by decide +kernel
theorem dX12_anything_72 : decode cX12_anything 72 = .ok (.istore 9, 2) := by decide +kernel
theorem dX12_anything_74 : decode cX12_anything 74 = .ok (.iload 9, 2) := by decide +kernel
theorem dX12_anything_76 : decode cX12_anything 76 = .ok (.iload_n 2, 1) := by decide +kernel
theorem dX12_anything_77 : decode cX12_anything 77 = .ok (.if_icmp .gt 48, 3) := by decide +kernel
theorem dX12_anything_80 : decode cX12_anything 80 = .ok (.iload 8, 2) := by decide +kernel
theorem dX12_anything_82 : decode cX12_anything 82 = .ok (.ifCond .ne 43, 3) := by decide +kernel
theorem dX12_anything_85 : decode cX12_anything 85 = .ok (.iconst 1, 1) := by decide +kernel
theorem dX12_anything_86 : decode cX12_anything 86 = .ok (.istore 10, 2) := by decide +kernel
theorem dX12_anything_88 : decode cX12_anything 88 = .ok (.iload 10, 2) := by decide +kernel
theorem dX12_anything_90 : decode cX12_anything 90 = .ok (.iload_n 3, 1) := by decide +kernel
theorem dX12_anything_91 : decode cX12_anything 91 = .ok (.if_icmp .gt 28, 3) := by decide +kernel
theorem dX12_anything_94 : decode cX12_anything 94 = .ok (.iload 8, 2) := by decide +kernel
theorem dX12_anything_96 : decode cX12_anything 96 = .ok (.ifCond .ne 23, 3) := by decide +kernel
theorem dX12_anything_99 : decode cX12_anything 99 = .ok (.iload_n 1, 1) := by decide +kernel
theorem dX12_anything_100 : decode cX12_anything 100 = .ok (.iload 9, 2) := by decide +kernel
theorem dX12_anything_102 : decode cX12_anything 102 = .ok (.iload 10, 2) := by decide +kernel
theorem dX12_anything_104 : decode cX12_anything 104 = .ok (.iload 7, 2) := by decide +kernel
theorem dX12_anything_106 : decode cX12_anything 106 = .ok (.iload 4, 2) := by decide +kernel
theorem dX12_anything_108 : decode cX12_anything 108 = .ok (.invokestatic 548, 3) := by decide +kernel
theorem dX12_anything_111 : decode cX12_anything 111 = .ok (.istore 8, 2) := by decide +kernel
theorem dX12_anything_113 : decode cX12_anything 113 = .ok (.iinc 10 1, 3) := by decide +kernel
theorem dX12_anything_116 : decode cX12_anything 116 = .ok (.goto (-28), 3) := by decide +kernel
theorem dX12_anything_119 : decode cX12_anything 119 = .ok (.iinc 9 1, 3) := by decide +kernel
theorem dX12_anything_122 : decode cX12_anything 122 = .ok (.goto (-48), 3) := by decide +kernel
theorem dX12_anything_125 : decode cX12_anything 125 = .ok (.iload 6, 2) := by decide +kernel
theorem dX12_anything_127 : decode cX12_anything 127 = .ok (.iload 8, 2) := by decide +kernel
theorem dX12_anything_129 : decode cX12_anything 129 = .ok (.ifCond .eq 7, 3) := by decide +kernel
theorem dX12_anything_132 : decode cX12_anything 132 = .ok (.iconst 1, 1) := by decide +kernel
theorem dX12_anything_133 : decode cX12_anything 133 = .ok (.goto 4, 3) := by decide +kernel
theorem dX12_anything_136 : decode cX12_anything 136 = .ok (.iconst 0, 1) := by decide +kernel
theorem dX12_anything_137 : decode cX12_anything 137 = .ok (.iadd, 1) := by decide +kernel
theorem dX12_anything_138 : decode cX12_anything 138 = .ok (.istore 6, 2) := by decide +kernel
theorem dX12_anything_140 : decode cX12_anything 140 = .ok (.iinc 7 1, 3) := by decide +kernel
theorem dX12_anything_143 : decode cX12_anything 143 = .ok (.goto (-82), 3) := by decide +kernel
theorem dX12_anything_146 : decode cX12_anything 146 = .ok (.iload 6, 2) := by decide +kernel
theorem dX12_anything_148 : decode cX12_anything 148 = .ok (.ireturn, 1) := by decide +kernel
set_option maxRecDepth 20000 in
theorem ggX12_life_X12_isYear : GoodIn wsX12_life wsX12_isYear := goodIn_r _ [4] (by decide +kernel) (by decide +kernel)
set_option maxRecDepth 20000 in
theorem gX12_life_X12_isYear : GoodIn wsX12_life (va_wsS RX12 472 yX12_isYear wsX12_isYear) := goodIn_app (goodIn_of _ (by decide +kernel)) ggX12_life_X12_isYear
set_option maxRecDepth 20000 in
theorem ggX12_life_X12_isIn : GoodIn wsX12_life wsX12_isIn := goodIn_r _ [7] (by decide +kernel) (by decide +kernel)
set_option maxRecDepth 20000 in
theorem gX12_life_X12_isIn : GoodIn wsX12_life (va_wsS RX12 407 yX12_isIn wsX12_isIn) := goodIn_app (goodIn_of _ (by decide +kernel)) ggX12_life_X12_isIn
theorem dX12_life_0 : decode cX12_life 0 = .ok (.iload_n 1, 1) := by decide +kernel
theorem dX12_life_1 : decode cX12_life 1 = .ok (.invokestatic 472, 3) := by decide +kernel
theorem dX12_life_4 : decode cX12_life 4 = .ok (.ifCond .eq 34, 3) := by decide +kernel
theorem dX12_life_7 : decode cX12_life 7 = .ok (.iload_n 2, 1) := by decide +kernel
theorem dX12_life_8 : decode cX12_life 8 = .ok (.iconst 1, 1) := by decide +kernel
theorem dX12_life_9 : decode cX12_life 9 = .ok (.bipush 90, 2) := by decide +kernel
theorem dX12_life_11 : decode cX12_life 11 = .ok (.invokestatic 407, 3) := by decide +kernel
theorem dX12_life_14 : decode cX12_life 14 = .ok (.ifCond .eq 24, 3) := by decide +kernel
theorem dX12_life_17 : decode cX12_life 17 = .ok (.iload_n 3, 1) := by decide +kernel
theorem dX12_life_18 : decode cX12_life 18 = .ok (.iconst 2, 1) := by decide +kernel
theorem dX12_life_19 : decode cX12_life 19 = .ok (.bipush 60, 2) := by decide +kernel
theorem dX12_life_21 : decode cX12_life 21 = .ok (.invokestatic 407, 3) := by decide +kernel
theorem dX12_life_24 : decode cX12_life 24 = .ok (.ifCond .eq 14, 3) := by decide +kernel
theorem dX12_life_27 : decode cX12_life 27 = .ok (.iload 4, 2) := by decide +kernel
theorem dX12_life_29 : decode cX12_life 29 = .ok (.ifCond .lt 9, 3) := by decide +kernel
theorem dX12_life_32 : decode cX12_life 32 = .ok (.iload 4, 2) := by decide +kernel
theorem dX12_life_34 : decode cX12_life 34 = .ok (.iload_n 3, 1) := by decide +kernel
theorem dX12_life_35 : decode cX12_life 35 = .ok (.if_icmp .lt 5, 3) := by decide +kernel
theorem dX12_life_38 : decode cX12_life 38 = .ok (.iconst (-1), 1) := by decide +kernel
theorem dX12_life_39 : decode cX12_life 39 = .ok (.ireturn, 1) := by decide +kernel
theorem dX12_life_40 : decode cX12_life 40 = .ok (.iconst 0, 1) := by decide +kernel
theorem dX12_life_41 : decode cX12_life 41 = .ok (.istore 5, 2) := by decide +kernel
theorem dX12_life_43 : decode cX12_life 43 = .ok (.iload_n 1, 1) := by decide +kernel
theorem dX12_life_44 : decode cX12_life 44 = .ok (.istore 6, 2) := by decide +kernel
theorem dX12_life_46 : decode cX12_life 46 = .ok (.iload 6, 2) := by decide +kernel
theorem dX12_life_48 : decode cX12_life 48 = .ok (.iload_n 1, 1) := by decide +kernel
theorem dX12_life_49 : decode cX12_life 49 = .ok (.iload_n 2, 1) := by decide +kernel
theorem dX12_life_50 : decode cX12_life 50 = .ok (.iadd, 1) := by decide +kernel
theorem dX12_life_51 : decode cX12_life 51 = .ok (.if_icmp .ge 28, 3) := by decide +kernel
theorem dX12_life_54 : decode cX12_life 54 = .ok (.iload 5, 2) := by decide +kernel
theorem dX12_life_56 : decode cX12_life 56 = .ok (.iload 6, 2) := by decide +kernel
theorem dX12_life_58 : decode cX12_life 58 = .ok (.iload_n 3, 1) := by decide +kernel
theorem dX12_life_59 : decode cX12_life 59 = .ok (.irem, 1) := by decide +kernel
theorem dX12_life_60 : decode cX12_life 60 = .ok (.iload 4, 2) := by decide +kernel
theorem dX12_life_62 : decode cX12_life 62 = .ok (.if_icmp .ne 7, 3) := by decide +kernel
theorem dX12_life_65 : decode cX12_life 65 = .ok (.iconst 1, 1) := by decide +kernel
theorem dX12_life_66 : decode cX12_life 66 = .ok (.goto 4, 3) := by decide +kernel
theorem dX12_life_69 : decode cX12_life 69 = .ok (.iconst 0, 1) := by decide +kernel
theorem dX12_life_70 : decode cX12_life 70 = .ok (.iadd, 1) := by decide +kernel
theorem dX12_life_71 : decode cX12_life 71 = .ok (.istore 5, 2) := by decide +kernel
theorem dX12_life_73 : decode cX12_life 73 = .ok (.iinc 6 1, 3) := by decide +kernel
theorem dX12_life_76 : decode cX12_life 76 = .ok (.goto (-30), 3) := by decide +kernel
theorem dX12_life_79 : decode cX12_life 79 = .ok (.iload 5, 2) := by decide +kernel
theorem dX12_life_81 : decode cX12_life 81 = .ok (.ireturn, 1) := by decide +kernel
set_option maxRecDepth 20000 in
theorem ggX12_seen_X12_isIn : GoodIn wsX12_seen wsX12_isIn := goodIn_r _ [5] (by decide +kernel) (by decide +kernel)
set_option maxRecDepth 20000 in
theorem gX12_seen_X12_isIn : GoodIn wsX12_seen (va_wsS RX12 407 yX12_isIn wsX12_isIn) := goodIn_app (goodIn_of _ (by decide +kernel)) ggX12_seen_X12_isIn
set_option maxRecDepth 20000 in
theorem ggX12_seen_X12_rows : GoodIn wsX12_seen wsX12_rows := goodIn_r _ [8, 9, 10, 4, 11, 12, 13, 14] (by decide +kernel) (by decide +kernel)
set_option maxRecDepth 20000 in
theorem gX12_seen_X12_rows : GoodIn wsX12_seen (va_wsS RX12 526 yX12_rows wsX12_rows) := goodIn_app (goodIn_of _ (by decide +kernel)) ggX12_seen_X12_rows
theorem dX12_seen_0 : decode cX12_seen 0 = .ok (.iload_n 1, 1) := by decide +kernel
theorem dX12_seen_1 : decode cX12_seen 1 = .ok (.iconst 0, 1) := by decide +kernel
theorem dX12_seen_2 : decode cX12_seen 2 = .ok (.bipush 12, 2) := by decide +kernel
theorem dX12_seen_4 : decode cX12_seen 4 = .ok (.invokestatic 407, 3) := by decide +kernel
theorem dX12_seen_7 : decode cX12_seen 7 = .ok (.ifCond .eq 45, 3) := by decide +kernel
theorem dX12_seen_10 : decode cX12_seen 10 = .ok (.iload_n 2, 1) := by decide +kernel
theorem dX12_seen_11 : decode cX12_seen 11 = .ok (.iconst 0, 1) := by decide +kernel
theorem dX12_seen_12 : decode cX12_seen 12 = .ok (.bipush 13, 2) := by decide +kernel
theorem dX12_seen_14 : decode cX12_seen 14 = .ok (.invokestatic 407, 3) := by decide +kernel
theorem dX12_seen_17 : decode cX12_seen 17 = .ok (.ifCond .eq 35, 3) := by decide +kernel
theorem dX12_seen_20 : decode cX12_seen 20 = .ok (.iload 4, 2) := by decide +kernel
theorem dX12_seen_22 : decode cX12_seen 22 = .ok (.iconst 1, 1) := by decide +kernel
theorem dX12_seen_23 : decode cX12_seen 23 = .ok (.bipush 9, 2) := by decide +kernel
theorem dX12_seen_25 : decode cX12_seen 25 = .ok (.invokestatic 407, 3) := by decide +kernel
theorem dX12_seen_28 : decode cX12_seen 28 = .ok (.ifCond .eq 24, 3) := by decide +kernel
theorem dX12_seen_31 : decode cX12_seen 31 = .ok (.iload_n 3, 1) := by decide +kernel
theorem dX12_seen_32 : decode cX12_seen 32 = .ok (.iconst 0, 1) := by decide +kernel
theorem dX12_seen_33 : decode cX12_seen 33 = .ok (.iload 4, 2) := by decide +kernel
theorem dX12_seen_35 : decode cX12_seen 35 = .ok (.invokestatic 407, 3) := by decide +kernel
theorem dX12_seen_38 : decode cX12_seen 38 = .ok (.ifCond .eq 14, 3) := by decide +kernel
theorem dX12_seen_41 : decode cX12_seen 41 = .ok (.iload_n 1, 1) := by decide +kernel
theorem dX12_seen_42 : decode cX12_seen 42 = .ok (.iload_n 2, 1) := by decide +kernel
theorem dX12_seen_43 : decode cX12_seen 43 = .ok (.iload_n 3, 1) := by decide +kernel
theorem dX12_seen_44 : decode cX12_seen 44 = .ok (.iload 4, 2) := by decide +kernel
theorem dX12_seen_46 : decode cX12_seen 46 = .ok (.invokestatic 526, 3) := by decide +kernel
theorem dX12_seen_49 : decode cX12_seen 49 = .ok (.goto 6, 3) := by decide +kernel
theorem dX12_seen_52 : decode cX12_seen 52 = .ok (.ldc2_w 530, 3) := by decide +kernel
theorem dX12_seen_55 : decode cX12_seen 55 = .ok (.lreturn, 1) := by decide +kernel
set_option maxRecDepth 20000 in
theorem ggX12_say_X12_isIn : GoodIn wsX12_say wsX12_isIn := goodIn_r _ [9] (by decide +kernel) (by decide +kernel)
set_option maxRecDepth 20000 in
theorem gX12_say_X12_isIn : GoodIn wsX12_say (va_wsS RX12 407 yX12_isIn wsX12_isIn) := goodIn_app (goodIn_of _ (by decide +kernel)) ggX12_say_X12_isIn
set_option maxRecDepth 20000 in
theorem ggX12_say_X12_isYear : GoodIn wsX12_say wsX12_isYear := goodIn_r _ [12] (by decide +kernel) (by decide +kernel)
set_option maxRecDepth 20000 in
theorem gX12_say_X12_isYear : GoodIn wsX12_say (va_wsS RX12 472 yX12_isYear wsX12_isYear) := goodIn_app (goodIn_of _ (by decide +kernel)) ggX12_say_X12_isYear
set_option maxRecDepth 20000 in
theorem ggX12_say_X12_isKnown : GoodIn wsX12_say wsX12_isKnown := goodIn_r _ [16, 17, 142, 143, 144, 145, 146, 147, 148, 149, 150, 151, 152, 153, 154, 155, 156, 157, 158, 159, 160, 161, 162, 163, 164, 165, 166, 167, 168, 169, 170, 171, 172, 173, 174, 175, 176, 177, 178, 179, 180, 181, 182, 183, 184, 185, 186, 187, 188, 189, 190, 191, 192, 193, 194, 195, 196, 197, 198, 199, 200, 201, 202, 203, 204, 205, 206, 207, 208, 209, 210, 211, 212, 213, 214, 215, 216, 217, 218, 219, 220, 221, 222] (by decide +kernel) (by decide +kernel)
set_option maxRecDepth 20000 in
theorem gX12_say_X12_isKnown : GoodIn wsX12_say (wsV RX12 457 RX12 yX12_isKnown wsX12_isKnown) := goodIn_app (goodIn_of _ (by decide +kernel)) ggX12_say_X12_isKnown
set_option maxRecDepth 20000 in
theorem ggX12_say_X12_layAll : GoodIn wsX12_say wsX12_layAll := goodIn_r _ [21, 22, 23, 24, 8, 25, 1, 26, 27, 28, 29, 2, 3, 30, 31, 32, 33, 34, 35, 36, 37, 38, 39, 40, 41, 42, 43, 44, 45, 46, 47, 48, 49, 50, 51, 52, 53, 54, 55, 56, 57, 58, 59, 60, 61, 62, 63, 64, 65, 66, 67, 68, 69, 70, 71, 72, 73, 74, 75, 76, 77, 78, 79, 80, 81, 82, 83, 84, 85, 86, 87, 88, 89, 90, 91, 92, 93, 94, 95, 96, 97, 98, 99, 100, 101, 102, 103, 5, 104, 105, 106, 107, 108, 109, 110, 111, 112, 113, 114, 115, 116, 117, 118, 119, 120, 121, 122, 142, 143, 144, 145, 146, 147, 148, 149, 150, 151, 152, 153, 154, 155, 156, 157, 158, 159, 160, 161, 162, 163, 164, 165, 166, 167, 168, 169, 170, 171, 172, 173, 174, 175, 176, 177, 178, 179, 180, 181, 182, 183, 184, 185, 186, 187, 188, 189, 190, 191, 192, 193, 194, 195, 196, 197, 198, 199, 200, 201, 202, 203, 204, 205, 206, 207, 208, 209, 210, 211, 212, 213, 214, 215, 216, 217, 218, 219, 220, 221, 222] (by decide +kernel) (by decide +kernel)
set_option maxRecDepth 20000 in
theorem gX12_say_X12_layAll : GoodIn wsX12_say (wsV RX12 494 RX12 yX12_layAll wsX12_layAll) := goodIn_app (goodIn_of _ (by decide +kernel)) ggX12_say_X12_layAll
set_option maxRecDepth 20000 in
theorem ggX12_say_X12_hitBy : GoodIn wsX12_say wsX12_hitBy := goodIn_r _ [126, 5, 104, 127, 128, 129, 8, 130, 58, 59, 60, 142, 143, 144, 145, 146, 147, 148, 149, 150, 151, 152, 153, 154, 155, 156, 157, 158, 159, 160, 161, 162, 163, 164, 165, 166, 167, 168, 169, 170, 171, 172, 173, 174, 175, 176, 177, 178, 179, 180, 181, 182, 183, 184, 185, 186, 187, 188, 189, 190, 191, 192, 193, 194, 195, 196, 197, 198, 199, 200, 201, 202, 203, 204, 205, 206, 207, 208, 209, 210, 211, 212, 213, 214, 215, 216, 217, 218, 219, 220, 221, 222] (by decide +kernel) (by decide +kernel)
set_option maxRecDepth 20000 in
theorem gX12_say_X12_hitBy : GoodIn wsX12_say (wsV RX12 484 RX12 yX12_hitBy wsX12_hitBy) := goodIn_app (goodIn_of _ (by decide +kernel)) ggX12_say_X12_hitBy
set_option maxRecDepth 20000 in
theorem ggX12_say_X12_asMany : GoodIn wsX12_say wsX12_asMany := goodIn_r _ [134, 135, 136, 137, 8, 138, 2, 3, 4, 139, 140, 141, 123, 124, 125, 126, 5, 104, 127, 128, 129, 130, 58, 59, 60, 142, 143, 144, 145, 146, 147, 148, 149, 150, 151, 152, 153, 154, 155, 156, 157, 158, 159, 160, 161, 162, 163, 164, 165, 166, 167, 168, 169, 170, 171, 172, 173, 174, 175, 176, 177, 178, 179, 180, 181, 182, 183, 184, 185, 186, 187, 188, 189, 190, 191, 192, 193, 194, 195, 196, 197, 198, 199, 200, 201, 202, 203, 204, 205, 206, 207, 208, 209, 210, 211, 212, 213, 214, 215, 216, 217, 218, 219, 220, 221, 222] (by decide +kernel) (by decide +kernel)
set_option maxRecDepth 20000 in
theorem gX12_say_X12_asMany : GoodIn wsX12_say (wsV RX12 500 RX12 yX12_asMany wsX12_asMany) := goodIn_app (goodIn_of _ (by decide +kernel)) ggX12_say_X12_asMany
set_option maxRecDepth 20000 in
theorem ggX12_say_X12_isDoor : GoodIn wsX12_say wsX12_isDoor := goodIn_r _ [74, 75, 76, 77, 142, 143, 144, 145, 146, 147, 148, 149, 150, 151, 152, 153, 154, 155, 156, 157, 158, 159, 160, 161, 162, 163, 164, 165, 166, 167, 168, 169, 170, 171, 172, 173, 174, 175, 176, 177, 178, 179, 180, 181, 182, 183, 184, 185, 186, 187, 188, 189, 190, 191, 192, 193, 194, 195, 196, 197, 198, 199, 200, 201, 202, 203, 204, 205, 206, 207, 208, 209, 210, 211, 212, 213, 214, 215, 216, 217, 218, 219, 220, 221, 222] (by decide +kernel) (by decide +kernel)
set_option maxRecDepth 20000 in
theorem gX12_say_X12_isDoor : GoodIn wsX12_say (wsV RX12 444 RX12 yX12_isDoor wsX12_isDoor) := goodIn_app (goodIn_of _ (by decide +kernel)) ggX12_say_X12_isDoor
theorem dX12_say_0 : decode cX12_say 0 = .ok (.iload_n 1, 1) := by decide +kernel
theorem dX12_say_1 : decode cX12_say 1 = .ok (.iconst 0, 1) := by decide +kernel
theorem dX12_say_2 : decode cX12_say 2 = .ok (.sipush 195, 3) := by decide +kernel
theorem dX12_say_5 : decode cX12_say 5 = .ok (.invokestatic 407, 3) := by decide +kernel
theorem dX12_say_8 : decode cX12_say 8 = .ok (.ifCond .eq 18, 3) := by decide +kernel
theorem dX12_say_11 : decode cX12_say 11 = .ok (.iload_n 2, 1) := by decide +kernel
theorem dX12_say_12 : decode cX12_say 12 = .ok (.invokestatic 472, 3) := by decide +kernel
theorem dX12_say_15 : decode cX12_say 15 = .ok (.ifCond .eq 11, 3) := by decide +kernel
theorem dX12_say_18 : decode cX12_say 18 = .ok (.aload_n 0, 1) := by decide +kernel
theorem dX12_say_19 : decode cX12_say 19 = .ok (.iload_n 3, 1) := by decide +kernel
theorem dX12_say_20 : decode cX12_say 20 = .ok (.invokevirtual 457, 3) := by decide +kernel
theorem dX12_say_23 : decode cX12_say 23 = .ok (.ifCond .ne 5, 3) := by decide +kernel
theorem dX12_say_26 : decode cX12_say 26 = .ok (.iconst (-1), 1) := by decide +kernel
theorem dX12_say_27 : decode cX12_say 27 = .ok (.ireturn, 1) := by decide +kernel
theorem dX12_say_28 : decode cX12_say 28 = .ok (.aload_n 0, 1) := by decide +kernel
theorem dX12_say_29 : decode cX12_say 29 = .ok (.iload_n 2, 1) := by decide +kernel
theorem dX12_say_30 : decode cX12_say 30 = .ok (.iload_n 3, 1) := by decide +kernel
theorem dX12_say_31 : decode cX12_say 31 = .ok (.invokevirtual 494, 3) := by decide +kernel
theorem dX12_say_34 : decode cX12_say 34 = .ok (.aload_n 0, 1) := by decide +kernel
theorem dX12_say_35 : decode cX12_say 35 = .ok (.getfield 169, 3) := by decide +kernel
theorem dX12_say_38 : decode cX12_say 38 = .ok (.iload_n 1, 1) := by decide +kernel
theorem dX12_say_39 : decode cX12_say 39 = .ok (.baload, 1) := by decide +kernel
theorem dX12_say_40 : decode cX12_say 40 = .ok (.ifCond .ne 5, 3) := by decide +kernel
theorem dX12_say_43 : decode cX12_say 43 = .ok (.iconst 0, 1) := by decide +kernel
theorem dX12_say_44 : decode cX12_say 44 = .ok (.ireturn, 1) := by decide +kernel
theorem dX12_say_45 : decode cX12_say 45 = .ok (.aload_n 0, 1) := by decide +kernel
theorem dX12_say_46 : decode cX12_say 46 = .ok (.getfield 178, 3) := by decide +kernel
theorem dX12_say_49 : decode cX12_say 49 = .ok (.iload_n 1, 1) := by decide +kernel
theorem dX12_say_50 : decode cX12_say 50 = .ok (.baload, 1) := by decide +kernel
theorem dX12_say_51 : decode cX12_say 51 = .ok (.ifCond .ne 5, 3) := by decide +kernel
theorem dX12_say_54 : decode cX12_say 54 = .ok (.iconst 1, 1) := by decide +kernel
theorem dX12_say_55 : decode cX12_say 55 = .ok (.ireturn, 1) := by decide +kernel
theorem dX12_say_56 : decode cX12_say 56 = .ok (.aload_n 0, 1) := by decide +kernel
theorem dX12_say_57 : decode cX12_say 57 = .ok (.aload_n 0, 1) := by decide +kernel
theorem dX12_say_58 : decode cX12_say 58 = .ok (.getfield 172, 3) := by decide +kernel
theorem dX12_say_61 : decode cX12_say 61 = .ok (.iload_n 1, 1) := by decide +kernel
theorem dX12_say_62 : decode cX12_say 62 = .ok (.iaload, 1) := by decide +kernel
theorem dX12_say_63 : decode cX12_say 63 = .ok (.aload_n 0, 1) := by decide +kernel
theorem dX12_say_64 : decode cX12_say 64 = .ok (.getfield 34, 3) := by decide +kernel
theorem dX12_say_67 : decode cX12_say 67 = .ok (.iconst 0, 1) := by decide +kernel
theorem dX12_say_68 : decode cX12_say 68 = .ok (.iaload, 1) := by decide +kernel
theorem dX12_say_69 : decode cX12_say 69 = .ok (.iconst 0, 1) := by decide +kernel
theorem dX12_say_70 : decode cX12_say 70 = .ok (.invokevirtual 484, 3) := by decide +kernel
theorem dX12_say_73 : decode cX12_say 73 = .ok (.ifCond .ne 5, 3) := by decide +kernel
theorem dX12_say_76 : decode cX12_say 76 = .ok (.iconst 2, 1) := by decide +kernel
theorem dX12_say_77 : decode cX12_say 77 = .ok (.ireturn, 1) := by decide +kernel
theorem dX12_say_78 : decode cX12_say 78 = .ok (.aload_n 0, 1) := by decide +kernel
theorem dX12_say_79 : decode cX12_say 79 = .ok (.iconst 1, 1) := by decide +kernel
theorem dX12_say_80 : decode cX12_say 80 = .ok (.aload_n 0, 1) := by decide +kernel
theorem dX12_say_81 : decode cX12_say 81 = .ok (.getfield 76, 3) := by decide +kernel
theorem dX12_say_84 : decode cX12_say 84 = .ok (.iconst 0, 1) := by decide +kernel
theorem dX12_say_85 : decode cX12_say 85 = .ok (.iaload, 1) := by decide +kernel
theorem dX12_say_86 : decode cX12_say 86 = .ok (.ishl, 1) := by decide +kernel
theorem dX12_say_87 : decode cX12_say 87 = .ok (.iconst 1, 1) := by decide +kernel
theorem dX12_say_88 : decode cX12_say 88 = .ok (.isub, 1) := by decide +kernel
theorem dX12_say_89 : decode cX12_say 89 = .ok (.invokevirtual 500, 3) := by decide +kernel
theorem dX12_say_92 : decode cX12_say 92 = .ok (.bipush 18, 2) := by decide +kernel
theorem dX12_say_94 : decode cX12_say 94 = .ok (.if_icmp .le 5, 3) := by decide +kernel
theorem dX12_say_97 : decode cX12_say 97 = .ok (.iconst 3, 1) := by decide +kernel
theorem dX12_say_98 : decode cX12_say 98 = .ok (.ireturn, 1) := by decide +kernel
theorem dX12_say_99 : decode cX12_say 99 = .ok (.aload_n 0, 1) := by decide +kernel
theorem dX12_say_100 : decode cX12_say 100 = .ok (.iload_n 1, 1) := by decide +kernel
theorem dX12_say_101 : decode cX12_say 101 = .ok (.bipush 14, 2) := by decide +kernel
theorem dX12_say_103 : decode cX12_say 103 = .ok (.idiv, 1) := by decide +kernel
theorem dX12_say_104 : decode cX12_say 104 = .ok (.iload_n 1, 1) := by decide +kernel
theorem dX12_say_105 : decode cX12_say 105 = .ok (.bipush 14, 2) := by decide +kernel
theorem dX12_say_107 : decode cX12_say 107 = .ok (.irem, 1) := by decide +kernel
theorem dX12_say_108 : decode cX12_say 108 = .ok (.invokevirtual 444, 3) := by decide +kernel
theorem dX12_say_111 : decode cX12_say 111 = .ok (.ifCond .ne 20, 3) := by decide +kernel
theorem dX12_say_114 : decode cX12_say 114 = .ok (.aload_n 0, 1) := by decide +kernel
theorem dX12_say_115 : decode cX12_say 115 = .ok (.iload_n 1, 1) := by decide +kernel
theorem dX12_say_116 : decode cX12_say 116 = .ok (.bipush 14, 2) := by decide +kernel
theorem dX12_say_118 : decode cX12_say 118 = .ok (.irem, 1) := by decide +kernel
theorem dX12_say_119 : decode cX12_say 119 = .ok (.iload_n 1, 1) := by decide +kernel
theorem dX12_say_120 : decode cX12_say 120 = .ok (.bipush 14, 2) := by decide +kernel
theorem dX12_say_122 : decode cX12_say 122 = .ok (.idiv, 1) := by decide +kernel
theorem dX12_say_123 : decode cX12_say 123 = .ok (.invokevirtual 444, 3) := by decide +kernel
theorem dX12_say_126 : decode cX12_say 126 = .ok (.ifCond .ne 5, 3) := by decide +kernel
theorem dX12_say_129 : decode cX12_say 129 = .ok (.iconst 4, 1) := by decide +kernel
theorem dX12_say_130 : decode cX12_say 130 = .ok (.ireturn, 1) := by decide +kernel
theorem dX12_say_131 : decode cX12_say 131 = .ok (.aload_n 0, 1) := by decide +kernel
theorem dX12_say_132 : decode cX12_say 132 = .ok (.aload_n 0, 1) := by decide +kernel
theorem dX12_say_133 : decode cX12_say 133 = .ok (.getfield 172, 3) := by decide +kernel
theorem dX12_say_136 : decode cX12_say 136 = .ok (.iload_n 1, 1) := by decide +kernel
theorem dX12_say_137 : decode cX12_say 137 = .ok (.iaload, 1) := by decide +kernel
theorem dX12_say_138 : decode cX12_say 138 = .ok (.aload_n 0, 1) := by decide +kernel
theorem dX12_say_139 : decode cX12_say 139 = .ok (.getfield 34, 3) := by decide +kernel
theorem dX12_say_142 : decode cX12_say 142 = .ok (.iconst 0, 1) := by decide +kernel
theorem dX12_say_143 : decode cX12_say 143 = .ok (.iaload, 1) := by decide +kernel
theorem dX12_say_144 : decode cX12_say 144 = .ok (.iconst 1, 1) := by decide +kernel
theorem dX12_say_145 : decode cX12_say 145 = .ok (.invokevirtual 484, 3) := by decide +kernel
theorem dX12_say_148 : decode cX12_say 148 = .ok (.ifCond .ne 7, 3) := by decide +kernel
theorem dX12_say_151 : decode cX12_say 151 = .ok (.iconst 5, 1) := by decide +kernel
theorem dX12_say_152 : decode cX12_say 152 = .ok (.goto 5, 3) := by decide +kernel
theorem dX12_say_155 : decode cX12_say 155 = .ok (.bipush 6, 2) := by decide +kernel
theorem dX12_say_157 : decode cX12_say 157 = .ok (.ireturn, 1) := by decide +kernel
theorem dX12_count_0 : decode cX12_count 0 = .ok (.iload_n 1, 1) := by decide +kernel
theorem dX12_count_1 : decode cX12_count 1 = .ok (.tableswitch 159 0 9 #[55, 62, 69, 76, 83, 90, 97, 104, 109, 114], 55) := by decide +kernel
theorem dX12_count_56 : decode cX12_count 56 = .ok (.aload_n 0, 1) := by decide +kernel
theorem dX12_count_57 : decode cX12_count 57 = .ok (.getfield 37, 3) := by decide +kernel
theorem dX12_count_60 : decode cX12_count 60 = .ok (.iconst 0, 1) := by decide +kernel
theorem dX12_count_61 : decode cX12_count 61 = .ok (.iaload, 1) := by decide +kernel
theorem dX12_count_62 : decode cX12_count 62 = .ok (.ireturn, 1) := by decide +kernel
theorem dX12_count_63 : decode cX12_count 63 = .ok (.aload_n 0, 1) := by decide +kernel
theorem dX12_count_64 : decode cX12_count 64 = .ok (.getfield 55, 3) := by decide +kernel
theorem dX12_count_67 : decode cX12_count 67 = .ok (.iconst 0, 1) := by decide +kernel
theorem dX12_count_68 : decode cX12_count 68 = .ok (.iaload, 1) := by decide +kernel
theorem dX12_count_69 : decode cX12_count 69 = .ok (.ireturn, 1) := by decide +kernel
theorem dX12_count_70 : decode cX12_count 70 = .ok (.aload_n 0, 1) := by decide +kernel
theorem dX12_count_71 : decode cX12_count 71 = .ok (.getfield 64, 3) := by decide +kernel
theorem dX12_count_74 : decode cX12_count 74 = .ok (.iconst 0, 1) := by decide +kernel
theorem dX12_count_75 : decode cX12_count 75 = .ok (.iaload, 1) := by decide +kernel
theorem dX12_count_76 : decode cX12_count 76 = .ok (.ireturn, 1) := by decide +kernel
theorem dX12_count_77 : decode cX12_count 77 = .ok (.aload_n 0, 1) := by decide +kernel
theorem dX12_count_78 : decode cX12_count 78 = .ok (.getfield 76, 3) := by decide +kernel
theorem dX12_count_81 : decode cX12_count 81 = .ok (.iconst 0, 1) := by decide +kernel
theorem dX12_count_82 : decode cX12_count 82 = .ok (.iaload, 1) := by decide +kernel
theorem dX12_count_83 : decode cX12_count 83 = .ok (.ireturn, 1) := by decide +kernel
theorem dX12_count_84 : decode cX12_count 84 = .ok (.aload_n 0, 1) := by decide +kernel
theorem dX12_count_85 : decode cX12_count 85 = .ok (.getfield 88, 3) := by decide +kernel
theorem dX12_count_88 : decode cX12_count 88 = .ok (.iconst 0, 1) := by decide +kernel
theorem dX12_count_89 : decode cX12_count 89 = .ok (.iaload, 1) := by decide +kernel
theorem dX12_count_90 : decode cX12_count 90 = .ok (.ireturn, 1) := by decide +kernel
theorem dX12_count_91 : decode cX12_count 91 = .ok (.aload_n 0, 1) := by decide +kernel
theorem dX12_count_92 : decode cX12_count 92 = .ok (.getfield 34, 3) := by decide +kernel
theorem dX12_count_95 : decode cX12_count 95 = .ok (.iconst 0, 1) := by decide +kernel
theorem dX12_count_96 : decode cX12_count 96 = .ok (.iaload, 1) := by decide +kernel
theorem dX12_count_97 : decode cX12_count 97 = .ok (.ireturn, 1) := by decide +kernel
theorem dX12_count_98 : decode cX12_count 98 = .ok (.aload_n 0, 1) := by decide +kernel
theorem dX12_count_99 : decode cX12_count 99 = .ok (.getfield 127, 3) := by decide +kernel
theorem dX12_count_102 : decode cX12_count 102 = .ok (.iconst 0, 1) := by decide +kernel
theorem dX12_count_103 : decode cX12_count 103 = .ok (.iaload, 1) := by decide +kernel
theorem dX12_count_104 : decode cX12_count 104 = .ok (.ireturn, 1) := by decide +kernel
theorem dX12_count_105 : decode cX12_count 105 = .ok (.aload_n 0, 1) := by decide +kernel
theorem dX12_count_106 : decode cX12_count 106 = .ok (.getfield 513, 3) := by decide +kernel
theorem dX12_count_109 : decode cX12_count 109 = .ok (.ireturn, 1) := by decide +kernel
theorem dX12_count_110 : decode cX12_count 110 = .ok (.aload_n 0, 1) := by decide +kernel
theorem dX12_count_111 : decode cX12_count 111 = .ok (.getfield 222, 3) := by decide +kernel
theorem dX12_count_114 : decode cX12_count 114 = .ok (.ireturn, 1) := by decide +kernel
theorem dX12_count_115 : decode cX12_count 115 = .ok (.aload_n 0, 1) := by decide +kernel
theorem dX12_count_116 : decode cX12_count 116 = .ok (.getfield 30, 3) := by decide +kernel
theorem dX12_count_119 : decode cX12_count 119 = .ok (.iconst 2, 1) := by decide +kernel
theorem dX12_count_120 : decode cX12_count 120 = .ok (.baload, 1) := by decide +kernel
theorem dX12_count_121 : decode cX12_count 121 = .ok (.ifCond .eq 7, 3) := by decide +kernel
theorem dX12_count_124 : decode cX12_count 124 = .ok (.iconst 1, 1) := by decide +kernel
theorem dX12_count_125 : decode cX12_count 125 = .ok (.goto 4, 3) := by decide +kernel
theorem dX12_count_128 : decode cX12_count 128 = .ok (.iconst 0, 1) := by decide +kernel
theorem dX12_count_129 : decode cX12_count 129 = .ok (.aload_n 0, 1) := by decide +kernel
theorem dX12_count_130 : decode cX12_count 130 = .ok (.getfield 30, 3) := by decide +kernel
theorem dX12_count_133 : decode cX12_count 133 = .ok (.iconst 3, 1) := by decide +kernel
theorem dX12_count_134 : decode cX12_count 134 = .ok (.baload, 1) := by decide +kernel
theorem dX12_count_135 : decode cX12_count 135 = .ok (.ifCond .eq 7, 3) := by decide +kernel
theorem dX12_count_138 : decode cX12_count 138 = .ok (.iconst 1, 1) := by decide +kernel
theorem dX12_count_139 : decode cX12_count 139 = .ok (.goto 4, 3) := by decide +kernel
theorem dX12_count_142 : decode cX12_count 142 = .ok (.iconst 0, 1) := by decide +kernel
theorem dX12_count_143 : decode cX12_count 143 = .ok (.iadd, 1) := by decide +kernel
theorem dX12_count_144 : decode cX12_count 144 = .ok (.aload_n 0, 1) := by decide +kernel
theorem dX12_count_145 : decode cX12_count 145 = .ok (.getfield 30, 3) := by decide +kernel
theorem dX12_count_148 : decode cX12_count 148 = .ok (.iconst 4, 1) := by decide +kernel
theorem dX12_count_149 : decode cX12_count 149 = .ok (.baload, 1) := by decide +kernel
theorem dX12_count_150 : decode cX12_count 150 = .ok (.ifCond .eq 7, 3) := by decide +kernel
theorem dX12_count_153 : decode cX12_count 153 = .ok (.iconst 1, 1) := by decide +kernel
theorem dX12_count_154 : decode cX12_count 154 = .ok (.goto 4, 3) := by decide +kernel
theorem dX12_count_157 : decode cX12_count 157 = .ok (.iconst 0, 1) := by decide +kernel
theorem dX12_count_158 : decode cX12_count 158 = .ok (.iadd, 1) := by decide +kernel
theorem dX12_count_159 : decode cX12_count 159 = .ok (.ireturn, 1) := by decide +kernel
theorem dX12_count_160 : decode cX12_count 160 = .ok (.iconst (-1), 1) := by decide +kernel
theorem dX12_count_161 : decode cX12_count 161 = .ok (.ireturn, 1) := by decide +kernel
theorem dJ9_floorMod_7cf53_0 : decode cJ9_floorMod_7cf53 0 = .ok (.iload_n 0, 1) := by decide +kernel
theorem dJ9_floorMod_7cf53_1 : decode cJ9_floorMod_7cf53 1 = .ok (.iload_n 1, 1) := by decide +kernel
theorem dJ9_floorMod_7cf53_2 : decode cJ9_floorMod_7cf53 2 = .ok (.irem, 1) := by decide +kernel
theorem dJ9_floorMod_7cf53_3 : decode cJ9_floorMod_7cf53 3 = .ok (.istore_n 2, 1) := by decide +kernel
theorem dJ9_floorMod_7cf53_4 : decode cJ9_floorMod_7cf53 4 = .ok (.iload_n 0, 1) := by decide +kernel
theorem dJ9_floorMod_7cf53_5 : decode cJ9_floorMod_7cf53 5 = .ok (.iload_n 1, 1) := by decide +kernel
theorem dJ9_floorMod_7cf53_6 : decode cJ9_floorMod_7cf53 6 = .ok (.ixor, 1) := by decide +kernel
theorem dJ9_floorMod_7cf53_7 : decode cJ9_floorMod_7cf53 7 = .ok (.ifCond .ge 11, 3) := by decide +kernel
theorem dJ9_floorMod_7cf53_10 : decode cJ9_floorMod_7cf53 10 = .ok (.iload_n 2, 1) := by decide +kernel
theorem dJ9_floorMod_7cf53_11 : decode cJ9_floorMod_7cf53 11 = .ok (.ifCond .eq 7, 3) := by decide +kernel
theorem dJ9_floorMod_7cf53_14 : decode cJ9_floorMod_7cf53 14 = .ok (.iload_n 2, 1) := by decide +kernel
theorem dJ9_floorMod_7cf53_15 : decode cJ9_floorMod_7cf53 15 = .ok (.iload_n 1, 1) := by decide +kernel
theorem dJ9_floorMod_7cf53_16 : decode cJ9_floorMod_7cf53 16 = .ok (.iadd, 1) := by decide +kernel
theorem dJ9_floorMod_7cf53_17 : decode cJ9_floorMod_7cf53 17 = .ok (.ireturn, 1) := by decide +kernel
theorem dJ9_floorMod_7cf53_18 : decode cJ9_floorMod_7cf53 18 = .ok (.iload_n 2, 1) := by decide +kernel
theorem dJ9_floorMod_7cf53_19 : decode cJ9_floorMod_7cf53 19 = .ok (.ireturn, 1) := by decide +kernel
theorem dJ9_abs_0f7a4_0 : decode cJ9_abs_0f7a4 0 = .ok (.iload_n 0, 1) := by decide +kernel
theorem dJ9_abs_0f7a4_1 : decode cJ9_abs_0f7a4 1 = .ok (.ifCond .ge 8, 3) := by decide +kernel
theorem dJ9_abs_0f7a4_4 : decode cJ9_abs_0f7a4 4 = .ok (.iload_n 0, 1) := by decide +kernel
theorem dJ9_abs_0f7a4_5 : decode cJ9_abs_0f7a4 5 = .ok (.ineg, 1) := by decide +kernel
theorem dJ9_abs_0f7a4_6 : decode cJ9_abs_0f7a4 6 = .ok (.goto 4, 3) := by decide +kernel
theorem dJ9_abs_0f7a4_9 : decode cJ9_abs_0f7a4 9 = .ok (.iload_n 0, 1) := by decide +kernel
theorem dJ9_abs_0f7a4_10 : decode cJ9_abs_0f7a4 10 = .ok (.ireturn, 1) := by decide +kernel
theorem dJ9_max_7cf53_0 : decode cJ9_max_7cf53 0 = .ok (.iload_n 0, 1) := by decide +kernel
theorem dJ9_max_7cf53_1 : decode cJ9_max_7cf53 1 = .ok (.iload_n 1, 1) := by decide +kernel
theorem dJ9_max_7cf53_2 : decode cJ9_max_7cf53 2 = .ok (.if_icmp .lt 7, 3) := by decide +kernel
theorem dJ9_max_7cf53_5 : decode cJ9_max_7cf53 5 = .ok (.iload_n 0, 1) := by decide +kernel
theorem dJ9_max_7cf53_6 : decode cJ9_max_7cf53 6 = .ok (.goto 4, 3) := by decide +kernel
theorem dJ9_max_7cf53_9 : decode cJ9_max_7cf53 9 = .ok (.iload_n 1, 1) := by decide +kernel
theorem dJ9_max_7cf53_10 : decode cJ9_max_7cf53 10 = .ok (.ireturn, 1) := by decide +kernel
theorem dJ9_min_7cf53_0 : decode cJ9_min_7cf53 0 = .ok (.iload_n 0, 1) := by decide +kernel
theorem dJ9_min_7cf53_1 : decode cJ9_min_7cf53 1 = .ok (.iload_n 1, 1) := by decide +kernel
theorem dJ9_min_7cf53_2 : decode cJ9_min_7cf53 2 = .ok (.if_icmp .gt 7, 3) := by decide +kernel
theorem dJ9_min_7cf53_5 : decode cJ9_min_7cf53 5 = .ok (.iload_n 0, 1) := by decide +kernel
theorem dJ9_min_7cf53_6 : decode cJ9_min_7cf53 6 = .ok (.goto 4, 3) := by decide +kernel
theorem dJ9_min_7cf53_9 : decode cJ9_min_7cf53 9 = .ok (.iload_n 1, 1) := by decide +kernel
theorem dJ9_min_7cf53_10 : decode cJ9_min_7cf53 10 = .ok (.ireturn, 1) := by decide +kernel
set_option maxRecDepth 20000 in
theorem ggJ0_length_8abf5_J0_coder_7d493 : GoodIn wsJ0_length_8abf5 wsJ0_coder_7d493 := goodIn_r _ [6, 7, 8] (by decide +kernel) (by decide +kernel)
set_option maxRecDepth 20000 in
theorem gJ0_length_8abf5_J0_coder_7d493 : GoodIn wsJ0_length_8abf5 (wsV RJ0 335 RJ0 yJ0_coder_7d493 wsJ0_coder_7d493) := goodIn_app (goodIn_of _ (by decide +kernel)) ggJ0_length_8abf5_J0_coder_7d493
theorem dJ0_length_8abf5_0 : decode cJ0_length_8abf5 0 = .ok (.aload_n 0, 1) := by decide +kernel
theorem dJ0_length_8abf5_1 : decode cJ0_length_8abf5 1 = .ok (.getfield 9, 3) := by decide +kernel
theorem dJ0_length_8abf5_4 : decode cJ0_length_8abf5 4 = .ok (.arraylength, 1) := by decide +kernel
theorem dJ0_length_8abf5_5 : decode cJ0_length_8abf5 5 = .ok (.aload_n 0, 1) := by decide +kernel
theorem dJ0_length_8abf5_6 : decode cJ0_length_8abf5 6 = .ok (.invokevirtual 335, 3) := by decide +kernel
theorem dJ0_length_8abf5_9 : decode cJ0_length_8abf5 9 = .ok (.ishr, 1) := by decide +kernel
theorem dJ0_length_8abf5_10 : decode cJ0_length_8abf5 10 = .ok (.ireturn, 1) := by decide +kernel
set_option maxRecDepth 20000 in
theorem ggJ0_charAt_5068e_J0_isLatin1_aae02 : GoodIn wsJ0_charAt_5068e wsJ0_isLatin1_aae02 := goodIn_r _ [6, 7, 8] (by decide +kernel) (by decide +kernel)
set_option maxRecDepth 20000 in
theorem gJ0_charAt_5068e_J0_isLatin1_aae02 : GoodIn wsJ0_charAt_5068e (wsV RJ0 492 RJ0 yJ0_isLatin1_aae02 wsJ0_isLatin1_aae02) := goodIn_app (goodIn_of _ (by decide +kernel)) ggJ0_charAt_5068e_J0_isLatin1_aae02
set_option maxRecDepth 20000 in
theorem ggJ0_charAt_5068e_J1_charAt_3b067 : GoodIn wsJ0_charAt_5068e wsJ1_charAt_3b067 := goodIn_r _ [12, 13, 14, 5, 15, 16, 17, 18, 19, 20] (by decide +kernel) (by decide +kernel)
set_option maxRecDepth 20000 in
theorem gJ0_charAt_5068e_J1_charAt_3b067 : GoodIn wsJ0_charAt_5068e (va_wsS RJ0 495 yJ1_charAt_3b067 wsJ1_charAt_3b067) := goodIn_app (goodIn_of _ (by decide +kernel)) ggJ0_charAt_5068e_J1_charAt_3b067
set_option maxRecDepth 20000 in
theorem ggJ0_charAt_5068e_J2_charAt_3b067 : GoodIn wsJ0_charAt_5068e wsJ2_charAt_3b067 := goodIn_r _ [24, 25, 26, 23, 27, 28, 29, 30, 31, 14, 5, 15, 16, 17, 18, 19, 20, 32, 33, 34, 35, 36, 37] (by decide +kernel) (by decide +kernel)
set_option maxRecDepth 20000 in
theorem gJ0_charAt_5068e_J2_charAt_3b067 : GoodIn wsJ0_charAt_5068e (va_wsS RJ0 498 yJ2_charAt_3b067 wsJ2_charAt_3b067) := goodIn_app (goodIn_of _ (by decide +kernel)) ggJ0_charAt_5068e_J2_charAt_3b067
theorem dJ0_charAt_5068e_0 : decode cJ0_charAt_5068e 0 = .ok (.aload_n 0, 1) := by decide +kernel
theorem dJ0_charAt_5068e_1 : decode cJ0_charAt_5068e 1 = .ok (.invokevirtual 492, 3) := by decide +kernel
theorem dJ0_charAt_5068e_4 : decode cJ0_charAt_5068e 4 = .ok (.ifCond .eq 12, 3) := by decide +kernel
theorem dJ0_charAt_5068e_7 : decode cJ0_charAt_5068e 7 = .ok (.aload_n 0, 1) := by decide +kernel
theorem dJ0_charAt_5068e_8 : decode cJ0_charAt_5068e 8 = .ok (.getfield 9, 3) := by decide +kernel
theorem dJ0_charAt_5068e_11 : decode cJ0_charAt_5068e 11 = .ok (.iload_n 1, 1) := by decide +kernel
theorem dJ0_charAt_5068e_12 : decode cJ0_charAt_5068e 12 = .ok (.invokestatic 495, 3) := by decide +kernel
theorem dJ0_charAt_5068e_15 : decode cJ0_charAt_5068e 15 = .ok (.ireturn, 1) := by decide +kernel
theorem dJ0_charAt_5068e_16 : decode cJ0_charAt_5068e 16 = .ok (.aload_n 0, 1) := by decide +kernel
theorem dJ0_charAt_5068e_17 : decode cJ0_charAt_5068e 17 = .ok (.getfield 9, 3) := by decide +kernel
theorem dJ0_charAt_5068e_20 : decode cJ0_charAt_5068e 20 = .ok (.iload_n 1, 1) := by decide +kernel
theorem dJ0_charAt_5068e_21 : decode cJ0_charAt_5068e 21 = .ok (.invokestatic 498, 3) := by decide +kernel
theorem dJ0_charAt_5068e_24 : decode cJ0_charAt_5068e 24 = .ok (.ireturn, 1) := by decide +kernel
theorem dJ0_coder_7d493_0 : decode cJ0_coder_7d493 0 = .ok (.getstatic 38, 3) := by decide +kernel
theorem dJ0_coder_7d493_3 : decode cJ0_coder_7d493 3 = .ok (.ifCond .eq 10, 3) := by decide +kernel
theorem dJ0_coder_7d493_6 : decode cJ0_coder_7d493 6 = .ok (.aload_n 0, 1) := by decide +kernel
theorem dJ0_coder_7d493_7 : decode cJ0_coder_7d493 7 = .ok (.getfield 15, 3) := by decide +kernel
theorem dJ0_coder_7d493_10 : decode cJ0_coder_7d493 10 = .ok (.goto 4, 3) := by decide +kernel
theorem dJ0_coder_7d493_13 : decode cJ0_coder_7d493 13 = .ok (.iconst 1, 1) := by decide +kernel
theorem dJ0_coder_7d493_14 : decode cJ0_coder_7d493 14 = .ok (.ireturn, 1) := by decide +kernel
theorem dJ0_isLatin1_aae02_0 : decode cJ0_isLatin1_aae02 0 = .ok (.getstatic 38, 3) := by decide +kernel
theorem dJ0_isLatin1_aae02_3 : decode cJ0_isLatin1_aae02 3 = .ok (.ifCond .eq 14, 3) := by decide +kernel
theorem dJ0_isLatin1_aae02_6 : decode cJ0_isLatin1_aae02 6 = .ok (.aload_n 0, 1) := by decide +kernel
theorem dJ0_isLatin1_aae02_7 : decode cJ0_isLatin1_aae02 7 = .ok (.getfield 15, 3) := by decide +kernel
theorem dJ0_isLatin1_aae02_10 : decode cJ0_isLatin1_aae02 10 = .ok (.ifCond .ne 7, 3) := by decide +kernel
theorem dJ0_isLatin1_aae02_13 : decode cJ0_isLatin1_aae02 13 = .ok (.iconst 1, 1) := by decide +kernel
theorem dJ0_isLatin1_aae02_14 : decode cJ0_isLatin1_aae02 14 = .ok (.goto 4, 3) := by decide +kernel
theorem dJ0_isLatin1_aae02_17 : decode cJ0_isLatin1_aae02 17 = .ok (.iconst 0, 1) := by decide +kernel
theorem dJ0_isLatin1_aae02_18 : decode cJ0_isLatin1_aae02 18 = .ok (.ireturn, 1) := by decide +kernel
set_option maxRecDepth 20000 in
theorem ggJ0_checkIndex_df160_J3_checkIndex_8e157 : GoodIn wsJ0_checkIndex_df160 wsJ3_checkIndex_8e157 := goodIn_r _ [5] (by decide +kernel) (by decide +kernel)
set_option maxRecDepth 20000 in
theorem gJ0_checkIndex_df160_J3_checkIndex_8e157 : GoodIn wsJ0_checkIndex_df160 (va_wsS RJ0 1059 yJ3_checkIndex_8e157 wsJ3_checkIndex_8e157) := goodIn_app (goodIn_of _ (by decide +kernel)) ggJ0_checkIndex_df160_J3_checkIndex_8e157
theorem dJ0_checkIndex_df160_0 : decode cJ0_checkIndex_df160 0 = .ok (.iload_n 0, 1) := by decide +kernel
theorem dJ0_checkIndex_df160_1 : decode cJ0_checkIndex_df160 1 = .ok (.iload_n 1, 1) := by decide +kernel
theorem dJ0_checkIndex_df160_2 : decode cJ0_checkIndex_df160 2 = .ok (.getstatic 1053, 3) := by decide +kernel
theorem dJ0_checkIndex_df160_5 : decode cJ0_checkIndex_df160 5 = .ok (.invokestatic 1059, 3) := by decide +kernel
theorem dJ0_checkIndex_df160_8 : decode cJ0_checkIndex_df160 8 = .ok (.pop, 1) := by decide +kernel
theorem dJ0_checkIndex_df160_9 : decode cJ0_checkIndex_df160 9 = .ok (.return_, 1) := by decide +kernel
set_option maxRecDepth 20000 in
theorem ggJ1_charAt_3b067_J0_checkIndex_df160 : GoodIn wsJ1_charAt_3b067 wsJ0_checkIndex_df160 := goodIn_r _ [4, 5, 6, 7, 8, 9] (by decide +kernel) (by decide +kernel)
set_option maxRecDepth 20000 in
theorem gJ1_charAt_3b067_J0_checkIndex_df160 : GoodIn wsJ1_charAt_3b067 (va_wsS RJ1 9 yJ0_checkIndex_df160 wsJ0_checkIndex_df160) := goodIn_app (goodIn_of _ (by decide +kernel)) ggJ1_charAt_3b067_J0_checkIndex_df160
theorem dJ1_charAt_3b067_0 : decode cJ1_charAt_3b067 0 = .ok (.iload_n 1, 1) := by decide +kernel
theorem dJ1_charAt_3b067_1 : decode cJ1_charAt_3b067 1 = .ok (.aload_n 0, 1) := by decide +kernel
theorem dJ1_charAt_3b067_2 : decode cJ1_charAt_3b067 2 = .ok (.arraylength, 1) := by decide +kernel
theorem dJ1_charAt_3b067_3 : decode cJ1_charAt_3b067 3 = .ok (.invokestatic 9, 3) := by decide +kernel
theorem dJ1_charAt_3b067_6 : decode cJ1_charAt_3b067 6 = .ok (.aload_n 0, 1) := by decide +kernel
theorem dJ1_charAt_3b067_7 : decode cJ1_charAt_3b067 7 = .ok (.iload_n 1, 1) := by decide +kernel
theorem dJ1_charAt_3b067_8 : decode cJ1_charAt_3b067 8 = .ok (.baload, 1) := by decide +kernel
theorem dJ1_charAt_3b067_9 : decode cJ1_charAt_3b067 9 = .ok (.sipush 255, 3) := by decide +kernel
theorem dJ1_charAt_3b067_12 : decode cJ1_charAt_3b067 12 = .ok (.iand, 1) := by decide +kernel
theorem dJ1_charAt_3b067_13 : decode cJ1_charAt_3b067 13 = .ok (.i2c, 1) := by decide +kernel
theorem dJ1_charAt_3b067_14 : decode cJ1_charAt_3b067 14 = .ok (.ireturn, 1) := by decide +kernel
set_option maxRecDepth 20000 in
theorem ggJ2_getChar_3b067_J2_length_9d52b : GoodIn wsJ2_getChar_3b067 wsJ2_length_9d52b := goodIn_r _ [7] (by decide +kernel) (by decide +kernel)
set_option maxRecDepth 20000 in
theorem gJ2_getChar_3b067_J2_length_9d52b : GoodIn wsJ2_getChar_3b067 (va_wsS RJ2 48 yJ2_length_9d52b wsJ2_length_9d52b) := goodIn_app (goodIn_of _ (by decide +kernel)) ggJ2_getChar_3b067_J2_length_9d52b
theorem dJ2_getChar_3b067_0 : decode cJ2_getChar_3b067 0 = .ok (.getstatic 44, 3) := by decide +kernel
theorem dJ2_getChar_3b067_3 : decode cJ2_getChar_3b067 3 = .ok (.ifCond .ne 25, 3) := by decide +kernel
theorem dJ2_getChar_3b067_6 : decode cJ2_getChar_3b067 6 = .ok (.iload_n 1, 1) := by decide +kernel
theorem dJ2_getChar_3b067_7 : decode cJ2_getChar_3b067 7 = .ok (.ifCond .lt 11, 3) := by decide +kernel
theorem dJ2_getChar_3b067_10 : decode cJ2_getChar_3b067 10 = .ok (.iload_n 1, 1) := by decide +kernel
theorem dJ2_getChar_3b067_11 : decode cJ2_getChar_3b067 11 = .ok (.aload_n 0, 1) := by decide +kernel
theorem dJ2_getChar_3b067_12 : decode cJ2_getChar_3b067 12 = .ok (.invokestatic 48, 3) := by decide +kernel
theorem dJ2_getChar_3b067_15 : decode cJ2_getChar_3b067 15 = .ok (.if_icmp .lt 13, 3) := by decide +kernel
theorem dJ2_getChar_3b067_18 : decode cJ2_getChar_3b067 18 = .ok (.new 52, 3) := by decide +kernel
theorem dJ2_getChar_3b067_21 : decode cJ2_getChar_3b067 21 = .ok (.dup, 1) := by decide +kernel
theorem dJ2_getChar_3b067_22 : decode cJ2_getChar_3b067 22 = .ok (.ldc 54, 2) := by decide +kernel
theorem dJ2_getChar_3b067_24 : decode cJ2_getChar_3b067 24 = .ok (.invokespecial 56, 3) := by decide +kernel
theorem dJ2_getChar_3b067_27 : decode cJ2_getChar_3b067 27 = .ok (.athrow, 1) := by decide +kernel
theorem dJ2_getChar_3b067_28 : decode cJ2_getChar_3b067 28 = .ok (.iload_n 1, 1) := by decide +kernel
theorem dJ2_getChar_3b067_29 : decode cJ2_getChar_3b067 29 = .ok (.iconst 1, 1) := by decide +kernel
theorem dJ2_getChar_3b067_30 : decode cJ2_getChar_3b067 30 = .ok (.ishl, 1) := by decide +kernel
theorem dJ2_getChar_3b067_31 : decode cJ2_getChar_3b067 31 = .ok (.istore_n 1, 1) := by decide +kernel
theorem dJ2_getChar_3b067_32 : decode cJ2_getChar_3b067 32 = .ok (.aload_n 0, 1) := by decide +kernel
theorem dJ2_getChar_3b067_33 : decode cJ2_getChar_3b067 33 = .ok (.iload_n 1, 1) := by decide +kernel
theorem dJ2_getChar_3b067_34 : decode cJ2_getChar_3b067 34 = .ok (.iinc 1 1, 3) := by decide +kernel
theorem dJ2_getChar_3b067_37 : decode cJ2_getChar_3b067 37 = .ok (.baload, 1) := by decide +kernel
theorem dJ2_getChar_3b067_38 : decode cJ2_getChar_3b067 38 = .ok (.sipush 255, 3) := by decide +kernel
theorem dJ2_getChar_3b067_41 : decode cJ2_getChar_3b067 41 = .ok (.iand, 1) := by decide +kernel
theorem dJ2_getChar_3b067_42 : decode cJ2_getChar_3b067 42 = .ok (.getstatic 59, 3) := by decide +kernel
theorem dJ2_getChar_3b067_45 : decode cJ2_getChar_3b067 45 = .ok (.ishl, 1) := by decide +kernel
theorem dJ2_getChar_3b067_46 : decode cJ2_getChar_3b067 46 = .ok (.aload_n 0, 1) := by decide +kernel
theorem dJ2_getChar_3b067_47 : decode cJ2_getChar_3b067 47 = .ok (.iload_n 1, 1) := by decide +kernel
theorem dJ2_getChar_3b067_48 : decode cJ2_getChar_3b067 48 = .ok (.baload, 1) := by decide +kernel
theorem dJ2_getChar_3b067_49 : decode cJ2_getChar_3b067 49 = .ok (.sipush 255, 3) := by decide +kernel
theorem dJ2_getChar_3b067_52 : decode cJ2_getChar_3b067 52 = .ok (.iand, 1) := by decide +kernel
theorem dJ2_getChar_3b067_53 : decode cJ2_getChar_3b067 53 = .ok (.getstatic 63, 3) := by decide +kernel
theorem dJ2_getChar_3b067_56 : decode cJ2_getChar_3b067 56 = .ok (.ishl, 1) := by decide +kernel
theorem dJ2_getChar_3b067_57 : decode cJ2_getChar_3b067 57 = .ok (.ior, 1) := by decide +kernel
theorem dJ2_getChar_3b067_58 : decode cJ2_getChar_3b067 58 = .ok (.i2c, 1) := by decide +kernel
theorem dJ2_getChar_3b067_59 : decode cJ2_getChar_3b067 59 = .ok (.ireturn, 1) := by decide +kernel
theorem dJ2_length_9d52b_0 : decode cJ2_length_9d52b 0 = .ok (.aload_n 0, 1) := by decide +kernel
theorem dJ2_length_9d52b_1 : decode cJ2_length_9d52b 1 = .ok (.arraylength, 1) := by decide +kernel
theorem dJ2_length_9d52b_2 : decode cJ2_length_9d52b 2 = .ok (.iconst 1, 1) := by decide +kernel
theorem dJ2_length_9d52b_3 : decode cJ2_length_9d52b 3 = .ok (.ishr, 1) := by decide +kernel
theorem dJ2_length_9d52b_4 : decode cJ2_length_9d52b 4 = .ok (.ireturn, 1) := by decide +kernel
set_option maxRecDepth 20000 in
theorem ggJ2_charAt_3b067_J2_checkIndex_2214a : GoodIn wsJ2_charAt_3b067 wsJ2_checkIndex_2214a := goodIn_r _ [4, 5, 6, 3, 7, 8, 9, 10, 11, 12, 13, 14, 15, 16] (by decide +kernel) (by decide +kernel)
set_option maxRecDepth 20000 in
theorem gJ2_charAt_3b067_J2_checkIndex_2214a : GoodIn wsJ2_charAt_3b067 (va_wsS RJ2 67 yJ2_checkIndex_2214a wsJ2_checkIndex_2214a) := goodIn_app (goodIn_of _ (by decide +kernel)) ggJ2_charAt_3b067_J2_checkIndex_2214a
set_option maxRecDepth 20000 in
theorem ggJ2_charAt_3b067_J2_getChar_3b067 : GoodIn wsJ2_charAt_3b067 wsJ2_getChar_3b067 := goodIn_r _ [19, 20, 21, 22, 5, 6, 3, 7] (by decide +kernel) (by decide +kernel)
set_option maxRecDepth 20000 in
theorem gJ2_charAt_3b067_J2_getChar_3b067 : GoodIn wsJ2_charAt_3b067 (va_wsS RJ2 71 yJ2_getChar_3b067 wsJ2_getChar_3b067) := goodIn_app (goodIn_of _ (by decide +kernel)) ggJ2_charAt_3b067_J2_getChar_3b067
theorem dJ2_charAt_3b067_0 : decode cJ2_charAt_3b067 0 = .ok (.iload_n 1, 1) := by decide +kernel
theorem dJ2_charAt_3b067_1 : decode cJ2_charAt_3b067 1 = .ok (.aload_n 0, 1) := by decide +kernel
theorem dJ2_charAt_3b067_2 : decode cJ2_charAt_3b067 2 = .ok (.invokestatic 67, 3) := by decide +kernel
theorem dJ2_charAt_3b067_5 : decode cJ2_charAt_3b067 5 = .ok (.aload_n 0, 1) := by decide +kernel
theorem dJ2_charAt_3b067_6 : decode cJ2_charAt_3b067 6 = .ok (.iload_n 1, 1) := by decide +kernel
theorem dJ2_charAt_3b067_7 : decode cJ2_charAt_3b067 7 = .ok (.invokestatic 71, 3) := by decide +kernel
theorem dJ2_charAt_3b067_10 : decode cJ2_charAt_3b067 10 = .ok (.ireturn, 1) := by decide +kernel
set_option maxRecDepth 20000 in
theorem ggJ2_checkIndex_2214a_J2_length_9d52b : GoodIn wsJ2_checkIndex_2214a wsJ2_length_9d52b := goodIn_r _ [4] (by decide +kernel) (by decide +kernel)
set_option maxRecDepth 20000 in
theorem gJ2_checkIndex_2214a_J2_length_9d52b : GoodIn wsJ2_checkIndex_2214a (va_wsS RJ2 48 yJ2_length_9d52b wsJ2_length_9d52b) := goodIn_app (goodIn_of _ (by decide +kernel)) ggJ2_checkIndex_2214a_J2_length_9d52b
set_option maxRecDepth 20000 in
theorem ggJ2_checkIndex_2214a_J0_checkIndex_df160 : GoodIn wsJ2_checkIndex_2214a wsJ0_checkIndex_df160 := goodIn_r _ [8, 9, 10, 11, 12, 13] (by decide +kernel) (by decide +kernel)
set_option maxRecDepth 20000 in
theorem gJ2_checkIndex_2214a_J0_checkIndex_df160 : GoodIn wsJ2_checkIndex_2214a (va_wsS RJ2 414 yJ0_checkIndex_df160 wsJ0_checkIndex_df160) := goodIn_app (goodIn_of _ (by decide +kernel)) ggJ2_checkIndex_2214a_J0_checkIndex_df160
theorem dJ2_checkIndex_2214a_0 : decode cJ2_checkIndex_2214a 0 = .ok (.iload_n 0, 1) := by decide +kernel
theorem dJ2_checkIndex_2214a_1 : decode cJ2_checkIndex_2214a 1 = .ok (.aload_n 1, 1) := by decide +kernel
theorem dJ2_checkIndex_2214a_2 : decode cJ2_checkIndex_2214a 2 = .ok (.invokestatic 48, 3) := by decide +kernel
theorem dJ2_checkIndex_2214a_5 : decode cJ2_checkIndex_2214a 5 = .ok (.invokestatic 414, 3) := by decide +kernel
theorem dJ2_checkIndex_2214a_8 : decode cJ2_checkIndex_2214a 8 = .ok (.return_, 1) := by decide +kernel
theorem dJ7_fill_53178_0 : decode cJ7_fill_53178 0 = .ok (.iconst 0, 1) := by decide +kernel
theorem dJ7_fill_53178_1 : decode cJ7_fill_53178 1 = .ok (.istore_n 2, 1) := by decide +kernel
theorem dJ7_fill_53178_2 : decode cJ7_fill_53178 2 = .ok (.aload_n 0, 1) := by decide +kernel
theorem dJ7_fill_53178_3 : decode cJ7_fill_53178 3 = .ok (.arraylength, 1) := by decide +kernel
theorem dJ7_fill_53178_4 : decode cJ7_fill_53178 4 = .ok (.istore_n 3, 1) := by decide +kernel
theorem dJ7_fill_53178_5 : decode cJ7_fill_53178 5 = .ok (.iload_n 2, 1) := by decide +kernel
theorem dJ7_fill_53178_6 : decode cJ7_fill_53178 6 = .ok (.iload_n 3, 1) := by decide +kernel
theorem dJ7_fill_53178_7 : decode cJ7_fill_53178 7 = .ok (.if_icmp .ge 13, 3) := by decide +kernel
theorem dJ7_fill_53178_10 : decode cJ7_fill_53178 10 = .ok (.aload_n 0, 1) := by decide +kernel
theorem dJ7_fill_53178_11 : decode cJ7_fill_53178 11 = .ok (.iload_n 2, 1) := by decide +kernel
theorem dJ7_fill_53178_12 : decode cJ7_fill_53178 12 = .ok (.iload_n 1, 1) := by decide +kernel
theorem dJ7_fill_53178_13 : decode cJ7_fill_53178 13 = .ok (.iastore, 1) := by decide +kernel
theorem dJ7_fill_53178_14 : decode cJ7_fill_53178 14 = .ok (.iinc 2 1, 3) := by decide +kernel
theorem dJ7_fill_53178_17 : decode cJ7_fill_53178 17 = .ok (.goto (-12), 3) := by decide +kernel
theorem dJ7_fill_53178_20 : decode cJ7_fill_53178 20 = .ok (.return_, 1) := by decide +kernel
theorem dJ3_checkIndex_8e157_0 : decode cJ3_checkIndex_8e157 0 = .ok (.iload_n 0, 1) := by decide +kernel
theorem dJ3_checkIndex_8e157_1 : decode cJ3_checkIndex_8e157 1 = .ok (.ifCond .lt 8, 3) := by decide +kernel
theorem dJ3_checkIndex_8e157_4 : decode cJ3_checkIndex_8e157 4 = .ok (.iload_n 0, 1) := by decide +kernel
theorem dJ3_checkIndex_8e157_5 : decode cJ3_checkIndex_8e157 5 = .ok (.iload_n 1, 1) := by decide +kernel
theorem dJ3_checkIndex_8e157_6 : decode cJ3_checkIndex_8e157 6 = .ok (.if_icmp .lt 10, 3) := by decide +kernel
theorem dJ3_checkIndex_8e157_9 : decode cJ3_checkIndex_8e157 9 = .ok (.aload_n 2, 1) := by decide +kernel
theorem dJ3_checkIndex_8e157_10 : decode cJ3_checkIndex_8e157 10 = .ok (.iload_n 0, 1) := by decide +kernel
theorem dJ3_checkIndex_8e157_11 : decode cJ3_checkIndex_8e157 11 = .ok (.iload_n 1, 1) := by decide +kernel
theorem dJ3_checkIndex_8e157_12 : decode cJ3_checkIndex_8e157 12 = .ok (.invokestatic 95, 3) := by decide +kernel
theorem dJ3_checkIndex_8e157_15 : decode cJ3_checkIndex_8e157 15 = .ok (.athrow, 1) := by decide +kernel
theorem dJ3_checkIndex_8e157_16 : decode cJ3_checkIndex_8e157 16 = .ok (.iload_n 0, 1) := by decide +kernel
theorem dJ3_checkIndex_8e157_17 : decode cJ3_checkIndex_8e157 17 = .ok (.ireturn, 1) := by decide +kernel
set_option maxRecDepth 20000 in
theorem ggL_law_X11_init : GoodIn wsL_law wsX11_init := goodIn_r _ [8, 9, 10, 11, 12, 13, 14, 15, 16, 17, 18, 19, 20, 21, 22, 23, 24, 25, 26, 27, 28, 29, 30, 31, 32, 33, 34, 35, 36, 37, 38, 39, 40, 41, 42, 43, 44, 45, 46, 47, 48, 49, 50, 51, 52, 53, 54, 55, 56, 57, 58, 59, 60, 61, 62, 63, 64, 65, 66, 67, 68, 69, 70, 71, 72, 73, 74, 75, 76, 77, 78, 79, 80, 81, 82, 83, 84, 85, 86, 87, 88, 89, 90, 91, 92, 93, 94, 95, 96, 97, 98, 99, 100, 101, 102, 103, 104, 105, 106, 107, 108, 109, 110, 111, 112, 113, 114, 115, 116, 117, 118, 119, 120, 121, 122, 123, 124, 125, 126, 127, 128, 129, 130, 131, 132, 133, 134, 135, 136, 137, 138, 139, 140, 141, 142, 143, 144, 145, 146, 147, 148, 149, 150, 151, 152, 153, 154, 155, 156, 157, 158, 159, 160, 161, 162, 163, 164, 165, 1592, 1593, 1594, 1595, 1596, 1597, 1598, 1495, 1496, 1497, 1498, 1499, 1500, 1501, 1502, 1503, 1504, 1505, 1506, 1507, 1508, 1509, 1510, 1599, 1600, 1601, 1602, 1603, 1604, 1605, 1606, 1607, 1608, 1609, 1610, 1611, 1612, 1613, 1614, 1615, 1616, 1617, 1618, 1619, 1620, 1621, 1622, 1623, 1624, 1625, 1626, 1627, 1628, 1629, 1630, 1631, 1632, 1633, 1634, 1635, 1636, 1637, 1638, 1639, 1640, 1641, 1642, 1643, 1644, 1645, 1646, 1647, 1648, 1649, 1650, 1651, 1652, 1653, 1654, 1655, 1656, 1657, 1658, 1659, 1660, 1661, 1662, 1663, 1664] (by decide +kernel) (by decide +kernel)
set_option maxRecDepth 20000 in
theorem gL_law_X11_init : GoodIn wsL_law (wsX11_init) := ggL_law_X11_init
set_option maxRecDepth 20000 in
theorem ggL_law_X12_init : GoodIn wsL_law wsX12_init := goodIn_r _ [168, 169, 10, 11, 52, 170, 171, 172, 173, 67, 174, 175, 55, 176, 177, 178, 179, 180, 181, 182, 183, 184, 185, 186, 187, 188, 189, 190, 191, 192, 193, 194, 195, 196, 197, 198, 199, 200, 201, 202, 203, 204, 205, 206, 207, 208, 209, 210, 211, 212, 213, 214, 215, 216, 217, 218, 219, 220, 221, 222, 223, 224, 225, 226, 227, 228, 229, 230, 231, 232, 233, 234, 235, 236, 237, 238, 239, 240, 241, 5, 242, 243, 1511, 1512, 1513, 1514, 1515, 1516, 1517, 1518, 1519, 1520, 1521, 1522, 1523, 1524, 1525, 1526, 1527, 1528, 1529, 1530, 1531, 1532, 1533, 1534, 1535, 1536, 1537, 1538, 1539, 1540, 1541, 1542, 1543, 1544, 1545, 1546, 1547, 1548, 1549, 1550, 1551, 1552, 1553, 1554, 1555, 1556, 1557, 1558, 1559, 1560, 1561, 1562, 1563, 1564, 1565, 1566, 1567, 1568, 1569, 1570, 1571, 1572, 1573, 1574, 1575, 1576, 1577, 1578, 1579, 1580, 1581, 1582, 1583, 1584, 1585, 1586, 1587, 1588, 1589, 1590, 1591] (by decide +kernel) (by decide +kernel)
set_option maxRecDepth 20000 in
theorem gL_law_X12_init : GoodIn wsL_law (wsX12_init) := ggL_law_X12_init
set_option maxRecDepth 20000 in
theorem ggL_law_X11_feed : GoodIn wsL_law wsX11_feed := goodIn_r _ [247, 15, 248, 249, 250, 251, 14, 252, 60, 62, 1495, 1496, 1497, 1498, 1499, 1500, 1501, 1502, 1503, 1504, 1505, 1506, 1507, 1508, 1509, 1510, 1592, 1593, 1594, 1595, 1596, 1597, 1598] (by decide +kernel) (by decide +kernel)
set_option maxRecDepth 20000 in
theorem gL_law_X11_feed : GoodIn wsL_law (wsV RL 13 RX11 yX11_feed wsX11_feed) := goodIn_app (goodIn_of _ (by decide +kernel)) ggL_law_X11_feed
set_option maxRecDepth 20000 in
theorem ggL_law_X12_feed : GoodIn wsL_law wsX12_feed := goodIn_r _ [256, 257, 258, 259, 260, 5, 261, 170, 1511, 1512, 1513, 1514, 1515, 1516, 1517, 1518, 1519, 1520, 1521, 1522, 1523, 1524, 1525, 1526, 1527, 1528, 1529, 1530, 1531, 1532, 1533, 1534, 1535, 1536, 1537, 1538, 1539, 1540, 1541, 1542, 1543, 1544, 1545, 1546, 1547, 1548, 1549, 1550, 1551, 1552, 1553, 1554, 1555, 1556, 1557, 1558, 1559, 1560, 1561, 1562, 1563, 1564, 1565, 1566, 1567, 1568, 1569, 1570, 1571, 1572, 1573, 1574, 1575, 1576, 1577, 1578, 1579, 1580, 1581, 1582, 1583, 1584, 1585, 1586, 1587, 1588, 1589, 1590, 1591] (by decide +kernel) (by decide +kernel)
set_option maxRecDepth 20000 in
theorem gL_law_X12_feed : GoodIn wsL_law (wsV RL 17 RX12 yX12_feed wsX12_feed) := goodIn_app (goodIn_of _ (by decide +kernel)) ggL_law_X12_feed
set_option maxRecDepth 20000 in
theorem ggL_law_X11_back : GoodIn wsL_law wsX11_back := goodIn_r _ [265, 15, 248, 1495, 1496, 1497, 1498, 1499, 1500, 1501, 1502, 1503, 1504, 1505, 1506, 1507, 1508, 1509, 1510, 1592, 1593, 1594, 1595, 1596, 1597, 1598] (by decide +kernel) (by decide +kernel)
set_option maxRecDepth 20000 in
theorem gL_law_X11_back : GoodIn wsL_law (wsV RL 18 RX11 yX11_back wsX11_back) := goodIn_app (goodIn_of _ (by decide +kernel)) ggL_law_X11_back
set_option maxRecDepth 20000 in
theorem ggL_law_X12_back : GoodIn wsL_law wsX12_back := goodIn_r _ [269, 257, 1511, 1512, 1513, 1514, 1515, 1516, 1517, 1518, 1519, 1520, 1521, 1522, 1523, 1524, 1525, 1526, 1527, 1528, 1529, 1530, 1531, 1532, 1533, 1534, 1535, 1536, 1537, 1538, 1539, 1540, 1541, 1542, 1543, 1544, 1545, 1546, 1547, 1548, 1549, 1550, 1551, 1552, 1553, 1554, 1555, 1556, 1557, 1558, 1559, 1560, 1561, 1562, 1563, 1564, 1565, 1566, 1567, 1568, 1569, 1570, 1571, 1572, 1573, 1574, 1575, 1576, 1577, 1578, 1579, 1580, 1581, 1582, 1583, 1584, 1585, 1586, 1587, 1588, 1589, 1590, 1591] (by decide +kernel) (by decide +kernel)
set_option maxRecDepth 20000 in
theorem gL_law_X12_back : GoodIn wsL_law (wsV RL 22 RX12 yX12_back wsX12_back) := goodIn_app (goodIn_of _ (by decide +kernel)) ggL_law_X12_back
set_option maxRecDepth 20000 in
theorem ggL_law_X11_read : GoodIn wsL_law wsX11_read := goodIn_r _ [273, 15, 248, 20, 24, 274, 19, 28, 275, 276, 277, 14, 278, 63, 60, 65, 64, 279, 280, 281, 282, 283, 284, 285, 286, 62, 287, 288, 289, 290, 291, 292, 293, 294, 295, 296, 297, 298, 299, 68, 300, 301, 302, 303, 304, 305, 306, 307, 308, 309, 310, 311, 312, 313, 314, 315, 316, 317, 318, 319, 320, 321, 322, 323, 324, 325, 326, 327, 328, 329, 330, 331, 332, 333, 334, 335, 336, 337, 338, 339, 340, 341, 342, 343, 344, 345, 346, 347, 348, 349, 350, 351, 352, 353, 354, 355, 356, 357, 358, 359, 360, 361, 362, 363, 66, 364, 365, 366, 367, 368, 369, 18, 370, 72, 73, 78, 80, 84, 86, 79, 90, 371, 372, 373, 374, 375, 376, 377, 89, 378, 94, 379, 380, 381, 23, 382, 113, 107, 105, 106, 108, 109, 383, 384, 385, 386, 112, 387, 388, 389, 390, 391, 392, 393, 110, 394, 395, 396, 397, 398, 399, 400, 401, 402, 403, 404, 405, 406, 407, 408, 409, 410, 411, 412, 413, 414, 415, 416, 111, 417, 418, 419, 420, 421, 422, 423, 424, 425, 426, 427, 428, 429, 430, 431, 432, 74, 75, 433, 434, 435, 436, 437, 438, 439, 440, 441, 442, 443, 444, 445, 446, 447, 448, 449, 450, 451, 452, 453, 454, 455, 456, 97, 98, 457, 458, 459, 460, 461, 462, 463, 464, 465, 466, 467, 95, 96, 468, 469, 470, 471, 472, 473, 474, 475, 476, 477, 478, 479, 480, 481, 482, 483, 484, 485, 486, 487, 488, 489, 490, 491, 492, 493, 27, 494, 117, 118, 1495, 1496, 1497, 1498, 1499, 1500, 1501, 1502, 1503, 1504, 1505, 1506, 1507, 1508, 1509, 1510, 1592, 1593, 1594, 1595, 1596, 1597, 1598, 1615, 1616, 1617, 1618, 1619, 1620, 1621, 1622, 1623, 1599, 1600, 1601, 1602, 1603, 1604, 1605, 1606, 1607, 1608, 1609, 1610, 1611, 1612, 1613, 1614, 1658, 1659, 1660, 1661, 1662, 1663, 1664, 1624, 1625, 1626, 1627, 1628, 1629, 1630] (by decide +kernel) (by decide +kernel)
set_option maxRecDepth 20000 in
theorem gL_law_X11_read : GoodIn wsL_law (wsV RL 23 RX11 yX11_read wsX11_read) := goodIn_app (goodIn_of _ (by decide +kernel)) ggL_law_X11_read
set_option maxRecDepth 20000 in
theorem ggL_law_X12_read : GoodIn wsL_law wsX12_read := goodIn_r _ [498, 499, 175, 500, 501, 257, 502, 503, 504, 5, 505, 506, 171, 507, 508, 509, 510, 170, 511, 512, 513, 514, 515, 516, 174, 517, 518, 519, 520, 521, 522, 523, 524, 525, 526, 527, 528, 529, 530, 531, 532, 533, 534, 535, 536, 537, 538, 539, 540, 541, 542, 543, 544, 545, 546, 547, 548, 172, 173, 549, 550, 551, 552, 553, 554, 555, 556, 239, 240, 241, 242, 177, 178, 184, 187, 191, 195, 198, 201, 208, 243, 557, 558, 559, 560, 561, 562, 563, 564, 565, 566, 567, 568, 569, 570, 180, 181, 182, 179, 183, 571, 572, 573, 574, 575, 576, 577, 578, 579, 580, 581, 582, 213, 214, 583, 584, 585, 586, 587, 588, 589, 590, 591, 592, 593, 594, 595, 596, 597, 598, 185, 186, 599, 600, 601, 602, 603, 604, 605, 606, 188, 189, 190, 607, 608, 609, 610, 192, 193, 611, 194, 612, 613, 614, 615, 616, 617, 618, 619, 620, 621, 622, 623, 624, 625, 626, 627, 628, 217, 629, 630, 631, 632, 633, 634, 635, 199, 200, 636, 637, 638, 639, 640, 641, 642, 643, 644, 645, 646, 196, 647, 197, 648, 649, 650, 651, 204, 205, 203, 206, 202, 207, 652, 653, 654, 655, 209, 210, 211, 212, 1511, 1512, 1513, 1514, 1515, 1516, 1517, 1518, 1519, 1520, 1521, 1522, 1523, 1524, 1525, 1526, 1527, 1528, 1529, 1530, 1531, 1532, 1533, 1534, 1535, 1536, 1537, 1538, 1539, 1540, 1541, 1542, 1543, 1544, 1545, 1546, 1547, 1548, 1549, 1550, 1551, 1552, 1553, 1554, 1555, 1556, 1557, 1558, 1559, 1560, 1561, 1562, 1563, 1564, 1565, 1566, 1567, 1568, 1569, 1570, 1571, 1572, 1573, 1574, 1575, 1576, 1577, 1578, 1579, 1580, 1581, 1582, 1583, 1584, 1585, 1586, 1587, 1588, 1589, 1590, 1591] (by decide +kernel) (by decide +kernel)
set_option maxRecDepth 20000 in
theorem gL_law_X12_read : GoodIn wsL_law (wsV RL 27 RX12 yX12_read wsX12_read) := goodIn_app (goodIn_of _ (by decide +kernel)) ggL_law_X12_read
set_option maxRecDepth 20000 in
theorem ggL_law_X11_place : GoodIn wsL_law wsX11_place := goodIn_r _ [659, 24, 660, 1495, 1496, 1497, 1498, 1499, 1500, 1501, 1502, 1503, 1504, 1505, 1506, 1507, 1508, 1509, 1510, 1615, 1616, 1617, 1618, 1619, 1620, 1621, 1622, 1623] (by decide +kernel) (by decide +kernel)
set_option maxRecDepth 20000 in
theorem gL_law_X11_place : GoodIn wsL_law (wsV RL 28 RX11 yX11_place wsX11_place) := goodIn_app (goodIn_of _ (by decide +kernel)) ggL_law_X11_place
set_option maxRecDepth 20000 in
theorem ggL_law_X12_place : GoodIn wsL_law wsX12_place := goodIn_r _ [664, 175, 1511, 1512, 1513, 1514, 1515, 1516, 1517, 1518, 1519, 1520, 1521, 1522, 1523, 1524, 1525, 1526, 1527, 1528, 1529, 1530, 1531, 1532, 1533, 1534, 1535, 1536, 1537, 1538, 1539, 1540, 1541, 1542, 1543, 1544, 1545, 1546, 1547, 1548, 1549, 1550, 1551, 1552, 1553, 1554, 1555, 1556, 1557, 1558, 1559, 1560, 1561, 1562, 1563, 1564, 1565, 1566, 1567, 1568, 1569, 1570, 1571, 1572, 1573, 1574, 1575, 1576, 1577, 1578, 1579, 1580, 1581, 1582, 1583, 1584, 1585, 1586, 1587, 1588, 1589, 1590, 1591] (by decide +kernel) (by decide +kernel)
set_option maxRecDepth 20000 in
theorem gL_law_X12_place : GoodIn wsL_law (wsV RL 31 RX12 yX12_place wsX12_place) := goodIn_app (goodIn_of _ (by decide +kernel)) ggL_law_X12_place
set_option maxRecDepth 20000 in
theorem ggL_law_X11_found : GoodIn wsL_law wsX11_found := goodIn_r _ [668, 28, 669, 670, 671, 672, 673, 2, 674, 19, 675, 676, 677, 678, 679, 680, 681, 682, 683, 684, 27, 685, 117, 119, 120, 121, 122, 123, 1495, 1496, 1497, 1498, 1499, 1500, 1501, 1502, 1503, 1504, 1505, 1506, 1507, 1508, 1509, 1510, 1624, 1625, 1626, 1627, 1628, 1629, 1630, 1599, 1600, 1601, 1602, 1603, 1604, 1605, 1606, 1607, 1608, 1609, 1610, 1611, 1612, 1613, 1614] (by decide +kernel) (by decide +kernel)
set_option maxRecDepth 20000 in
theorem gL_law_X11_found : GoodIn wsL_law (wsV RL 32 RX11 yX11_found wsX11_found) := goodIn_app (goodIn_of _ (by decide +kernel)) ggL_law_X11_found
set_option maxRecDepth 20000 in
theorem ggL_law_X12_found : GoodIn wsL_law wsX12_found := goodIn_r _ [689, 178, 208, 183, 179, 180, 181, 182, 690, 691, 5, 692, 693, 694, 695, 696, 209, 210, 211, 212, 1511, 1512, 1513, 1514, 1515, 1516, 1517, 1518, 1519, 1520, 1521, 1522, 1523, 1524, 1525, 1526, 1527, 1528, 1529, 1530, 1531, 1532, 1533, 1534, 1535, 1536, 1537, 1538, 1539, 1540, 1541, 1542, 1543, 1544, 1545, 1546, 1547, 1548, 1549, 1550, 1551, 1552, 1553, 1554, 1555, 1556, 1557, 1558, 1559, 1560, 1561, 1562, 1563, 1564, 1565, 1566, 1567, 1568, 1569, 1570, 1571, 1572, 1573, 1574, 1575, 1576, 1577, 1578, 1579, 1580, 1581, 1582, 1583, 1584, 1585, 1586, 1587, 1588, 1589, 1590, 1591] (by decide +kernel) (by decide +kernel)
set_option maxRecDepth 20000 in
theorem gL_law_X12_found : GoodIn wsL_law (wsV RL 36 RX12 yX12_found wsX12_found) := goodIn_app (goodIn_of _ (by decide +kernel)) ggL_law_X12_found
set_option maxRecDepth 20000 in
theorem ggL_law_X11_move : GoodIn wsL_law wsX11_move := goodIn_r _ [700, 28, 701, 702, 703, 2, 704, 671, 672, 673, 674, 19, 675, 670, 676, 677, 678, 682, 683, 684, 27, 685, 117, 119, 120, 121, 122, 123, 1495, 1496, 1497, 1498, 1499, 1500, 1501, 1502, 1503, 1504, 1505, 1506, 1507, 1508, 1509, 1510, 1599, 1600, 1601, 1602, 1603, 1604, 1605, 1606, 1607, 1608, 1609, 1610, 1611, 1612, 1613, 1614, 1624, 1625, 1626, 1627, 1628, 1629, 1630] (by decide +kernel) (by decide +kernel)
set_option maxRecDepth 20000 in
theorem gL_law_X11_move : GoodIn wsL_law (wsV RL 37 RX11 yX11_move wsX11_move) := goodIn_app (goodIn_of _ (by decide +kernel)) ggL_law_X11_move
set_option maxRecDepth 20000 in
theorem ggL_law_X12_move : GoodIn wsL_law wsX12_move := goodIn_r _ [708, 709, 710, 711, 5, 712, 178, 690, 691, 692, 693, 694, 695, 696, 208, 209, 210, 211, 212, 1511, 1512, 1513, 1514, 1515, 1516, 1517, 1518, 1519, 1520, 1521, 1522, 1523, 1524, 1525, 1526, 1527, 1528, 1529, 1530, 1531, 1532, 1533, 1534, 1535, 1536, 1537, 1538, 1539, 1540, 1541, 1542, 1543, 1544, 1545, 1546, 1547, 1548, 1549, 1550, 1551, 1552, 1553, 1554, 1555, 1556, 1557, 1558, 1559, 1560, 1561, 1562, 1563, 1564, 1565, 1566, 1567, 1568, 1569, 1570, 1571, 1572, 1573, 1574, 1575, 1576, 1577, 1578, 1579, 1580, 1581, 1582, 1583, 1584, 1585, 1586, 1587, 1588, 1589, 1590, 1591] (by decide +kernel) (by decide +kernel)
set_option maxRecDepth 20000 in
theorem gL_law_X12_move : GoodIn wsL_law (wsV RL 40 RX12 yX12_move wsX12_move) := goodIn_app (goodIn_of _ (by decide +kernel)) ggL_law_X12_move
set_option maxRecDepth 20000 in
theorem ggL_law_X11_gone : GoodIn wsL_law wsX11_gone := goodIn_r _ [716, 28, 701, 702, 703, 2, 704, 671, 672, 673, 674, 19, 675, 670, 682, 683, 684, 27, 685, 117, 119, 120, 121, 122, 123, 1495, 1496, 1497, 1498, 1499, 1500, 1501, 1502, 1503, 1504, 1505, 1506, 1507, 1508, 1509, 1510, 1599, 1600, 1601, 1602, 1603, 1604, 1605, 1606, 1607, 1608, 1609, 1610, 1611, 1612, 1613, 1614, 1624, 1625, 1626, 1627, 1628, 1629, 1630] (by decide +kernel) (by decide +kernel)
set_option maxRecDepth 20000 in
theorem gL_law_X11_gone : GoodIn wsL_law (wsV RL 41 RX11 yX11_gone wsX11_gone) := goodIn_app (goodIn_of _ (by decide +kernel)) ggL_law_X11_gone
set_option maxRecDepth 20000 in
theorem ggL_law_X12_gone : GoodIn wsL_law wsX12_gone := goodIn_r _ [720, 709, 710, 711, 5, 712, 178, 693, 694, 695, 696, 208, 209, 210, 211, 212, 1511, 1512, 1513, 1514, 1515, 1516, 1517, 1518, 1519, 1520, 1521, 1522, 1523, 1524, 1525, 1526, 1527, 1528, 1529, 1530, 1531, 1532, 1533, 1534, 1535, 1536, 1537, 1538, 1539, 1540, 1541, 1542, 1543, 1544, 1545, 1546, 1547, 1548, 1549, 1550, 1551, 1552, 1553, 1554, 1555, 1556, 1557, 1558, 1559, 1560, 1561, 1562, 1563, 1564, 1565, 1566, 1567, 1568, 1569, 1570, 1571, 1572, 1573, 1574, 1575, 1576, 1577, 1578, 1579, 1580, 1581, 1582, 1583, 1584, 1585, 1586, 1587, 1588, 1589, 1590, 1591] (by decide +kernel) (by decide +kernel)
set_option maxRecDepth 20000 in
theorem gL_law_X12_gone : GoodIn wsL_law (wsV RL 44 RX12 yX12_gone wsX12_gone) := goodIn_app (goodIn_of _ (by decide +kernel)) ggL_law_X12_gone
set_option maxRecDepth 20000 in
theorem ggL_law_X11_date : GoodIn wsL_law wsX11_date := goodIn_r _ [724, 28, 701, 702, 703, 2, 704, 671, 672, 673, 674, 19, 675, 670, 679, 680, 681, 682, 683, 684, 27, 685, 117, 119, 120, 121, 122, 123, 1495, 1496, 1497, 1498, 1499, 1500, 1501, 1502, 1503, 1504, 1505, 1506, 1507, 1508, 1509, 1510, 1599, 1600, 1601, 1602, 1603, 1604, 1605, 1606, 1607, 1608, 1609, 1610, 1611, 1612, 1613, 1614, 1624, 1625, 1626, 1627, 1628, 1629, 1630] (by decide +kernel) (by decide +kernel)
set_option maxRecDepth 20000 in
theorem gL_law_X11_date : GoodIn wsL_law (wsV RL 45 RX11 yX11_date wsX11_date) := goodIn_app (goodIn_of _ (by decide +kernel)) ggL_law_X11_date
set_option maxRecDepth 20000 in
theorem ggL_law_X12_date : GoodIn wsL_law wsX12_date := goodIn_r _ [728, 709, 710, 711, 5, 712, 178, 690, 691, 692, 693, 694, 695, 696, 208, 209, 210, 211, 212, 1511, 1512, 1513, 1514, 1515, 1516, 1517, 1518, 1519, 1520, 1521, 1522, 1523, 1524, 1525, 1526, 1527, 1528, 1529, 1530, 1531, 1532, 1533, 1534, 1535, 1536, 1537, 1538, 1539, 1540, 1541, 1542, 1543, 1544, 1545, 1546, 1547, 1548, 1549, 1550, 1551, 1552, 1553, 1554, 1555, 1556, 1557, 1558, 1559, 1560, 1561, 1562, 1563, 1564, 1565, 1566, 1567, 1568, 1569, 1570, 1571, 1572, 1573, 1574, 1575, 1576, 1577, 1578, 1579, 1580, 1581, 1582, 1583, 1584, 1585, 1586, 1587, 1588, 1589, 1590, 1591] (by decide +kernel) (by decide +kernel)
set_option maxRecDepth 20000 in
theorem gL_law_X12_date : GoodIn wsL_law (wsV RL 49 RX12 yX12_date wsX12_date) := goodIn_app (goodIn_of _ (by decide +kernel)) ggL_law_X12_date
set_option maxRecDepth 20000 in
theorem ggL_law_X11_annul : GoodIn wsL_law wsX11_annul := goodIn_r _ [732, 28, 669, 733, 682, 683, 684, 27, 685, 117, 119, 120, 121, 122, 123, 1495, 1496, 1497, 1498, 1499, 1500, 1501, 1502, 1503, 1504, 1505, 1506, 1507, 1508, 1509, 1510, 1624, 1625, 1626, 1627, 1628, 1629, 1630] (by decide +kernel) (by decide +kernel)
set_option maxRecDepth 20000 in
theorem gL_law_X11_annul : GoodIn wsL_law (wsV RL 50 RX11 yX11_annul wsX11_annul) := goodIn_app (goodIn_of _ (by decide +kernel)) ggL_law_X11_annul
set_option maxRecDepth 20000 in
theorem ggL_law_X12_annul : GoodIn wsL_law wsX12_annul := goodIn_r _ [737, 208, 209, 690, 691, 5, 692, 693, 694, 695, 696, 210, 211, 212, 1511, 1512, 1513, 1514, 1515, 1516, 1517, 1518, 1519, 1520, 1521, 1522, 1523, 1524, 1525, 1526, 1527, 1528, 1529, 1530, 1531, 1532, 1533, 1534, 1535, 1536, 1537, 1538, 1539, 1540, 1541, 1542, 1543, 1544, 1545, 1546, 1547, 1548, 1549, 1550, 1551, 1552, 1553, 1554, 1555, 1556, 1557, 1558, 1559, 1560, 1561, 1562, 1563, 1564, 1565, 1566, 1567, 1568, 1569, 1570, 1571, 1572, 1573, 1574, 1575, 1576, 1577, 1578, 1579, 1580, 1581, 1582, 1583, 1584, 1585, 1586, 1587, 1588, 1589, 1590, 1591] (by decide +kernel) (by decide +kernel)
set_option maxRecDepth 20000 in
theorem gL_law_X12_annul : GoodIn wsL_law (wsV RL 53 RX12 yX12_annul wsX12_annul) := goodIn_app (goodIn_of _ (by decide +kernel)) ggL_law_X12_annul
set_option maxRecDepth 20000 in
theorem ggL_law_X11_thing : GoodIn wsL_law wsX11_thing := goodIn_r _ [741, 34, 19, 28, 742, 743, 744, 745, 746, 701, 702, 703, 2, 704, 671, 672, 673, 674, 675, 670, 747, 748, 749, 750, 669, 751, 752, 753, 33, 754, 755, 127, 756, 128, 757, 758, 759, 760, 761, 129, 762, 130, 763, 131, 132, 764, 133, 765, 766, 767, 768, 769, 770, 771, 772, 773, 1495, 1496, 1497, 1498, 1499, 1500, 1501, 1502, 1503, 1504, 1505, 1506, 1507, 1508, 1509, 1510, 1631, 1632, 1633, 1634, 1635, 1636, 1637, 1638, 1639, 1640, 1641, 1599, 1600, 1601, 1602, 1603, 1604, 1605, 1606, 1607, 1608, 1609, 1610, 1611, 1612, 1613, 1614, 1624, 1625, 1626, 1627, 1628, 1629, 1630] (by decide +kernel) (by decide +kernel)
set_option maxRecDepth 20000 in
theorem gL_law_X11_thing : GoodIn wsL_law (wsV RL 54 RX11 yX11_thing wsX11_thing) := goodIn_app (goodIn_of _ (by decide +kernel)) ggL_law_X11_thing
set_option maxRecDepth 20000 in
theorem ggL_law_X12_thing : GoodIn wsL_law wsX12_thing := goodIn_r _ [777, 218, 219, 220, 179, 221, 709, 710, 711, 5, 712, 178, 690, 691, 692, 778, 779, 780, 781, 208, 782, 783, 784, 785, 180, 211, 181, 212, 182, 183, 786, 787, 788, 789, 209, 210, 790, 791, 792, 793, 1511, 1512, 1513, 1514, 1515, 1516, 1517, 1518, 1519, 1520, 1521, 1522, 1523, 1524, 1525, 1526, 1527, 1528, 1529, 1530, 1531, 1532, 1533, 1534, 1535, 1536, 1537, 1538, 1539, 1540, 1541, 1542, 1543, 1544, 1545, 1546, 1547, 1548, 1549, 1550, 1551, 1552, 1553, 1554, 1555, 1556, 1557, 1558, 1559, 1560, 1561, 1562, 1563, 1564, 1565, 1566, 1567, 1568, 1569, 1570, 1571, 1572, 1573, 1574, 1575, 1576, 1577, 1578, 1579, 1580, 1581, 1582, 1583, 1584, 1585, 1586, 1587, 1588, 1589, 1590, 1591] (by decide +kernel) (by decide +kernel)
set_option maxRecDepth 20000 in
theorem gL_law_X12_thing : GoodIn wsL_law (wsV RL 57 RX12 yX12_thing wsX12_thing) := goodIn_app (goodIn_of _ (by decide +kernel)) ggL_law_X12_thing
set_option maxRecDepth 20000 in
theorem ggL_law_X11_degree : GoodIn wsL_law wsX11_degree := goodIn_r _ [797, 798, 799, 800, 801, 802, 803, 804, 805, 806, 807, 808, 809, 810, 811] (by decide +kernel) (by decide +kernel)
set_option maxRecDepth 20000 in
theorem gL_law_X11_degree : GoodIn wsL_law (wsV RL 58 RX11 yX11_degree wsX11_degree) := goodIn_app (goodIn_of _ (by decide +kernel)) ggL_law_X11_degree
set_option maxRecDepth 20000 in
theorem ggL_law_X12_degree : GoodIn wsL_law wsX12_degree := goodIn_r _ [815, 690, 691, 5, 692, 816, 817, 818, 819, 820, 821] (by decide +kernel) (by decide +kernel)
set_option maxRecDepth 20000 in
theorem gL_law_X12_degree : GoodIn wsL_law (wsV RL 61 RX12 yX12_degree wsX12_degree) := goodIn_app (goodIn_of _ (by decide +kernel)) ggL_law_X12_degree
set_option maxRecDepth 20000 in
theorem ggL_law_X11_vector : GoodIn wsL_law wsX11_vector := goodIn_r _ [825, 826, 827, 2, 828, 829, 830, 800, 831, 832, 833, 834] (by decide +kernel) (by decide +kernel)
set_option maxRecDepth 20000 in
theorem gL_law_X11_vector : GoodIn wsL_law (wsV RL 62 RX11 yX11_vector wsX11_vector) := goodIn_app (goodIn_of _ (by decide +kernel)) ggL_law_X11_vector
set_option maxRecDepth 20000 in
theorem ggL_law_X12_vector : GoodIn wsL_law wsX12_vector := goodIn_r _ [838, 690, 691, 5, 692, 839, 840, 841] (by decide +kernel) (by decide +kernel)
set_option maxRecDepth 20000 in
theorem gL_law_X12_vector : GoodIn wsL_law (wsV RL 65 RX12 yX12_vector wsX12_vector) := goodIn_app (goodIn_of _ (by decide +kernel)) ggL_law_X12_vector
set_option maxRecDepth 20000 in
theorem ggL_law_X11_line : GoodIn wsL_law wsX11_line := goodIn_r _ [845, 34, 19, 28, 846, 747, 748, 749, 2, 750, 669, 751, 752, 753, 33, 754, 755, 127, 756, 128, 757, 758, 759, 760, 761, 129, 762, 130, 763, 131, 132, 764, 133, 765, 766, 767, 768, 769, 770, 771, 772, 773, 847, 848, 849, 850, 851, 852, 853, 854, 855, 856, 134, 857, 858, 859, 860, 861, 803, 804, 805, 862, 807, 808, 863, 864, 810, 811, 865, 799, 800, 801, 802, 806, 809, 866, 867, 868, 89, 869, 100, 97, 98, 95, 99, 96, 870, 871, 872, 873, 874, 875, 876, 877, 878, 1495, 1496, 1497, 1498, 1499, 1500, 1501, 1502, 1503, 1504, 1505, 1506, 1507, 1508, 1509, 1510, 1631, 1632, 1633, 1634, 1635, 1636, 1637, 1638, 1639, 1640, 1641, 1624, 1625, 1626, 1627, 1628, 1629, 1630, 1599, 1600, 1601, 1602, 1603, 1604, 1605, 1606, 1607, 1608, 1609, 1610, 1611, 1612, 1613, 1614, 1658, 1659, 1660, 1661, 1662, 1663, 1664] (by decide +kernel) (by decide +kernel)
set_option maxRecDepth 20000 in
theorem gL_law_X11_line : GoodIn wsL_law (wsV RL 66 RX11 yX11_line wsX11_line) := goodIn_app (goodIn_of _ (by decide +kernel)) ggL_law_X11_line
set_option maxRecDepth 20000 in
theorem ggL_law_X12_line : GoodIn wsL_law wsX12_line := goodIn_r _ [882, 222, 225, 690, 691, 5, 692, 778, 779, 780, 781, 208, 883, 884, 885, 886, 178, 221, 218, 219, 223, 224, 195, 196, 197, 782, 783, 784, 785, 180, 211, 181, 212, 220, 182, 183, 786, 787, 788, 789, 209, 210, 790, 791, 792, 793, 816, 817, 818, 819, 820, 821, 887, 888, 889, 890, 226, 891, 892, 893, 894, 179, 895, 896, 897, 898, 184, 185, 186, 899, 900, 901, 902, 207, 903, 904, 905, 906, 204, 205, 907, 202, 206, 203, 908, 909, 910, 911, 199, 227, 200, 1511, 1512, 1513, 1514, 1515, 1516, 1517, 1518, 1519, 1520, 1521, 1522, 1523, 1524, 1525, 1526, 1527, 1528, 1529, 1530, 1531, 1532, 1533, 1534, 1535, 1536, 1537, 1538, 1539, 1540, 1541, 1542, 1543, 1544, 1545, 1546, 1547, 1548, 1549, 1550, 1551, 1552, 1553, 1554, 1555, 1556, 1557, 1558, 1559, 1560, 1561, 1562, 1563, 1564, 1565, 1566, 1567, 1568, 1569, 1570, 1571, 1572, 1573, 1574, 1575, 1576, 1577, 1578, 1579, 1580, 1581, 1582, 1583, 1584, 1585, 1586, 1587, 1588, 1589, 1590, 1591] (by decide +kernel) (by decide +kernel)
set_option maxRecDepth 20000 in
theorem gL_law_X12_line : GoodIn wsL_law (wsV RL 69 RX12 yX12_line wsX12_line) := goodIn_app (goodIn_of _ (by decide +kernel)) ggL_law_X12_line
set_option maxRecDepth 20000 in
theorem ggL_law_X11_lines : GoodIn wsL_law wsX11_lines := goodIn_r _ [915, 34, 19, 28, 916, 747, 748, 749, 2, 750, 669, 751, 752, 753, 33, 754, 755, 127, 756, 128, 757, 758, 759, 760, 761, 129, 762, 130, 763, 131, 132, 764, 133, 765, 766, 767, 768, 769, 770, 771, 772, 773, 917, 918, 919, 920, 921, 848, 849, 850, 922, 923, 924, 925, 135, 136, 137, 926, 852, 853, 854, 855, 856, 134, 857, 858, 859, 860, 861, 803, 804, 805, 862, 807, 808, 863, 864, 810, 811, 865, 799, 800, 801, 802, 806, 809, 866, 867, 868, 89, 869, 100, 97, 98, 95, 99, 96, 870, 871, 872, 873, 874, 875, 876, 877, 927, 928, 929, 930, 1495, 1496, 1497, 1498, 1499, 1500, 1501, 1502, 1503, 1504, 1505, 1506, 1507, 1508, 1509, 1510, 1631, 1632, 1633, 1634, 1635, 1636, 1637, 1638, 1639, 1640, 1641, 1624, 1625, 1626, 1627, 1628, 1629, 1630, 1599, 1600, 1601, 1602, 1603, 1604, 1605, 1606, 1607, 1608, 1609, 1610, 1611, 1612, 1613, 1614, 1658, 1659, 1660, 1661, 1662, 1663, 1664] (by decide +kernel) (by decide +kernel)
set_option maxRecDepth 20000 in
theorem gL_law_X11_lines : GoodIn wsL_law (wsV RL 70 RX11 yX11_lines wsX11_lines) := goodIn_app (goodIn_of _ (by decide +kernel)) ggL_law_X11_lines
set_option maxRecDepth 20000 in
theorem ggL_law_X12_lines : GoodIn wsL_law wsX12_lines := goodIn_r _ [934, 225, 222, 778, 779, 780, 5, 781, 208, 883, 884, 885, 886, 178, 221, 218, 219, 223, 224, 195, 196, 197, 782, 783, 784, 785, 180, 211, 181, 212, 220, 182, 183, 786, 787, 788, 789, 209, 210, 790, 791, 792, 793, 816, 817, 818, 819, 820, 821, 887, 888, 889, 890, 226, 891, 892, 893, 894, 179, 895, 896, 897, 898, 184, 185, 186, 899, 900, 901, 902, 207, 903, 904, 905, 906, 204, 205, 907, 202, 206, 203, 908, 909, 910, 911, 199, 227, 200, 1511, 1512, 1513, 1514, 1515, 1516, 1517, 1518, 1519, 1520, 1521, 1522, 1523, 1524, 1525, 1526, 1527, 1528, 1529, 1530, 1531, 1532, 1533, 1534, 1535, 1536, 1537, 1538, 1539, 1540, 1541, 1542, 1543, 1544, 1545, 1546, 1547, 1548, 1549, 1550, 1551, 1552, 1553, 1554, 1555, 1556, 1557, 1558, 1559, 1560, 1561, 1562, 1563, 1564, 1565, 1566, 1567, 1568, 1569, 1570, 1571, 1572, 1573, 1574, 1575, 1576, 1577, 1578, 1579, 1580, 1581, 1582, 1583, 1584, 1585, 1586, 1587, 1588, 1589, 1590, 1591] (by decide +kernel) (by decide +kernel)
set_option maxRecDepth 20000 in
theorem gL_law_X12_lines : GoodIn wsL_law (wsV RL 74 RX12 yX12_lines wsX12_lines) := goodIn_app (goodIn_of _ (by decide +kernel)) ggL_law_X12_lines
set_option maxRecDepth 20000 in
theorem ggL_law_X11_height : GoodIn wsL_law wsX11_height := goodIn_r _ [938, 19, 826, 827, 2, 828, 939, 940, 941, 18, 942, 80, 81, 82, 83, 1495, 1496, 1497, 1498, 1499, 1500, 1501, 1502, 1503, 1504, 1505, 1506, 1507, 1508, 1509, 1510, 1599, 1600, 1601, 1602, 1603, 1604, 1605, 1606, 1607, 1608, 1609, 1610, 1611, 1612, 1613, 1614] (by decide +kernel) (by decide +kernel)
set_option maxRecDepth 20000 in
theorem gL_law_X11_height : GoodIn wsL_law (wsV RL 75 RX11 yX11_height wsX11_height) := goodIn_app (goodIn_of _ (by decide +kernel)) ggL_law_X11_height
set_option maxRecDepth 20000 in
theorem ggL_law_X12_height : GoodIn wsL_law wsX12_height := goodIn_r _ [946, 690, 691, 5, 692, 947, 948, 949, 950, 187, 188, 189, 190, 1511, 1512, 1513, 1514, 1515, 1516, 1517, 1518, 1519, 1520, 1521, 1522, 1523, 1524, 1525, 1526, 1527, 1528, 1529, 1530, 1531, 1532, 1533, 1534, 1535, 1536, 1537, 1538, 1539, 1540, 1541, 1542, 1543, 1544, 1545, 1546, 1547, 1548, 1549, 1550, 1551, 1552, 1553, 1554, 1555, 1556, 1557, 1558, 1559, 1560, 1561, 1562, 1563, 1564, 1565, 1566, 1567, 1568, 1569, 1570, 1571, 1572, 1573, 1574, 1575, 1576, 1577, 1578, 1579, 1580, 1581, 1582, 1583, 1584, 1585, 1586, 1587, 1588, 1589, 1590, 1591] (by decide +kernel) (by decide +kernel)
set_option maxRecDepth 20000 in
theorem gL_law_X12_height : GoodIn wsL_law (wsV RL 78 RX12 yX12_height wsX12_height) := goodIn_app (goodIn_of _ (by decide +kernel)) ggL_law_X12_height
set_option maxRecDepth 20000 in
theorem ggL_law_X11_rise : GoodIn wsL_law wsX11_rise := goodIn_r _ [954, 38, 19, 955, 956, 957, 2, 958, 959, 960, 961, 962, 963, 964, 965, 37, 966, 144, 967, 968, 867, 868, 89, 869, 100, 97, 98, 95, 99, 96, 870, 871, 872, 873, 874, 875, 876, 877, 969, 970, 971, 972, 973, 940, 941, 18, 942, 80, 81, 82, 83, 1495, 1496, 1497, 1498, 1499, 1500, 1501, 1502, 1503, 1504, 1505, 1506, 1507, 1508, 1509, 1510, 1599, 1600, 1601, 1602, 1603, 1604, 1605, 1606, 1607, 1608, 1609, 1610, 1611, 1612, 1613, 1614, 1642, 1643, 1644, 1645, 1658, 1659, 1660, 1661, 1662, 1663, 1664] (by decide +kernel) (by decide +kernel)
set_option maxRecDepth 20000 in
theorem gL_law_X11_rise : GoodIn wsL_law (wsV RL 79 RX11 yX11_rise wsX11_rise) := goodIn_app (goodIn_of _ (by decide +kernel)) ggL_law_X11_rise
set_option maxRecDepth 20000 in
theorem ggL_law_X12_rise : GoodIn wsL_law wsX12_rise := goodIn_r _ [977, 191, 978, 979, 5, 980, 981, 982, 983, 984, 985, 986, 987, 988, 226, 193, 194, 908, 909, 910, 911, 907, 199, 227, 200, 947, 948, 949, 950, 187, 188, 189, 190, 1511, 1512, 1513, 1514, 1515, 1516, 1517, 1518, 1519, 1520, 1521, 1522, 1523, 1524, 1525, 1526, 1527, 1528, 1529, 1530, 1531, 1532, 1533, 1534, 1535, 1536, 1537, 1538, 1539, 1540, 1541, 1542, 1543, 1544, 1545, 1546, 1547, 1548, 1549, 1550, 1551, 1552, 1553, 1554, 1555, 1556, 1557, 1558, 1559, 1560, 1561, 1562, 1563, 1564, 1565, 1566, 1567, 1568, 1569, 1570, 1571, 1572, 1573, 1574, 1575, 1576, 1577, 1578, 1579, 1580, 1581, 1582, 1583, 1584, 1585, 1586, 1587, 1588, 1589, 1590, 1591] (by decide +kernel) (by decide +kernel)
set_option maxRecDepth 20000 in
theorem gL_law_X12_rise : GoodIn wsL_law (wsV RL 82 RX12 yX12_rise wsX12_rise) := goodIn_app (goodIn_of _ (by decide +kernel)) ggL_law_X12_rise
set_option maxRecDepth 20000 in
theorem ggL_law_X11_hit : GoodIn wsL_law wsX11_hit := goodIn_r _ [992, 34, 19, 28, 38, 993, 955, 956, 957, 2, 958, 959, 960, 961, 962, 747, 748, 749, 750, 669, 751, 752, 753, 33, 754, 755, 127, 756, 128, 757, 758, 759, 760, 761, 129, 762, 130, 763, 131, 132, 764, 133, 765, 766, 767, 768, 769, 770, 771, 772, 773, 847, 848, 849, 850, 994, 995, 996, 37, 997, 998, 141, 142, 143, 999, 1000, 964, 965, 966, 144, 967, 968, 867, 868, 89, 869, 100, 97, 98, 95, 99, 96, 870, 871, 872, 873, 874, 875, 876, 877, 969, 970, 971, 972, 973, 940, 941, 18, 942, 80, 81, 82, 83, 1001, 928, 929, 930, 865, 799, 800, 801, 802, 803, 804, 805, 806, 807, 808, 809, 810, 811, 1002, 1003, 1004, 1005, 1006, 1007, 1008, 1495, 1496, 1497, 1498, 1499, 1500, 1501, 1502, 1503, 1504, 1505, 1506, 1507, 1508, 1509, 1510, 1599, 1600, 1601, 1602, 1603, 1604, 1605, 1606, 1607, 1608, 1609, 1610, 1611, 1612, 1613, 1614, 1624, 1625, 1626, 1627, 1628, 1629, 1630, 1631, 1632, 1633, 1634, 1635, 1636, 1637, 1638, 1639, 1640, 1641, 1642, 1643, 1644, 1645, 1658, 1659, 1660, 1661, 1662, 1663, 1664] (by decide +kernel) (by decide +kernel)
set_option maxRecDepth 20000 in
theorem gL_law_X11_hit : GoodIn wsL_law (wsV RL 83 RX11 yX11_hit wsX11_hit) := goodIn_app (goodIn_of _ (by decide +kernel)) ggL_law_X11_hit
set_option maxRecDepth 20000 in
theorem ggL_law_X12_hit : GoodIn wsL_law wsX12_hit := goodIn_r _ [1012, 191, 222, 223, 177, 690, 691, 5, 692, 978, 979, 980, 778, 779, 780, 781, 208, 883, 884, 885, 886, 178, 221, 218, 219, 225, 224, 195, 196, 197, 782, 783, 784, 785, 180, 211, 181, 212, 220, 182, 183, 786, 787, 788, 789, 209, 210, 790, 791, 792, 793, 816, 817, 818, 819, 820, 821, 887, 888, 889, 890, 226, 891, 892, 893, 894, 179, 895, 896, 897, 898, 184, 185, 186, 899, 900, 901, 902, 207, 903, 904, 905, 906, 204, 205, 907, 202, 206, 203, 908, 909, 910, 911, 199, 227, 200, 1013, 1014, 1015, 1016, 228, 981, 982, 983, 984, 985, 986, 987, 988, 193, 194, 947, 948, 949, 950, 187, 188, 189, 190, 1017, 1018, 1019, 1020, 192, 1021, 1022, 1023, 1511, 1512, 1513, 1514, 1515, 1516, 1517, 1518, 1519, 1520, 1521, 1522, 1523, 1524, 1525, 1526, 1527, 1528, 1529, 1530, 1531, 1532, 1533, 1534, 1535, 1536, 1537, 1538, 1539, 1540, 1541, 1542, 1543, 1544, 1545, 1546, 1547, 1548, 1549, 1550, 1551, 1552, 1553, 1554, 1555, 1556, 1557, 1558, 1559, 1560, 1561, 1562, 1563, 1564, 1565, 1566, 1567, 1568, 1569, 1570, 1571, 1572, 1573, 1574, 1575, 1576, 1577, 1578, 1579, 1580, 1581, 1582, 1583, 1584, 1585, 1586, 1587, 1588, 1589, 1590, 1591] (by decide +kernel) (by decide +kernel)
set_option maxRecDepth 20000 in
theorem gL_law_X12_hit : GoodIn wsL_law (wsV RL 87 RX12 yX12_hit wsX12_hit) := goodIn_app (goodIn_of _ (by decide +kernel)) ggL_law_X12_hit
set_option maxRecDepth 20000 in
theorem ggL_law_X11_hits : GoodIn wsL_law wsX11_hits := goodIn_r _ [1027, 1028, 1029, 1030, 2, 1031, 19, 959, 960, 961, 962, 747, 748, 749, 750, 28, 669, 826, 827, 828, 1032, 1033, 1034, 1035, 34, 38, 751, 752, 753, 33, 754, 755, 127, 756, 128, 757, 758, 759, 760, 761, 129, 762, 130, 763, 131, 132, 764, 133, 765, 766, 767, 768, 769, 770, 771, 772, 773, 922, 923, 924, 925, 135, 136, 137, 921, 848, 849, 850, 926, 852, 853, 854, 855, 856, 134, 857, 858, 859, 860, 861, 803, 804, 805, 862, 807, 808, 863, 864, 810, 811, 865, 799, 800, 801, 802, 806, 809, 866, 867, 868, 89, 869, 100, 97, 98, 95, 99, 96, 870, 871, 872, 873, 874, 875, 876, 877, 927, 928, 929, 930, 994, 995, 996, 37, 997, 998, 141, 142, 143, 999, 1000, 964, 965, 966, 144, 967, 968, 969, 970, 971, 972, 973, 940, 941, 18, 942, 80, 81, 82, 83, 1036, 1037, 1038, 1039, 916, 1040, 1041, 1042, 1043, 1044, 1045, 1046, 1047, 993, 1002, 1003, 1004, 1005, 1006, 1007, 1008, 1495, 1496, 1497, 1498, 1499, 1500, 1501, 1502, 1503, 1504, 1505, 1506, 1507, 1508, 1509, 1510, 1599, 1600, 1601, 1602, 1603, 1604, 1605, 1606, 1607, 1608, 1609, 1610, 1611, 1612, 1613, 1614, 1624, 1625, 1626, 1627, 1628, 1629, 1630, 1631, 1632, 1633, 1634, 1635, 1636, 1637, 1638, 1639, 1640, 1641, 1658, 1659, 1660, 1661, 1662, 1663, 1664, 1642, 1643, 1644, 1645] (by decide +kernel) (by decide +kernel)
set_option maxRecDepth 20000 in
theorem gL_law_X11_hits : GoodIn wsL_law (wsV RL 88 RX11 yX11_hits wsX11_hits) := goodIn_app (goodIn_of _ (by decide +kernel)) ggL_law_X11_hits
set_option maxRecDepth 20000 in
theorem ggL_law_X12_hits : GoodIn wsL_law wsX12_hits := goodIn_r _ [1051, 1052, 1053, 1054, 5, 1055, 191, 978, 979, 980, 778, 779, 780, 781, 208, 690, 691, 692, 1056, 1057, 1058, 1059, 883, 884, 885, 886, 222, 178, 221, 218, 219, 225, 223, 224, 195, 196, 197, 782, 783, 784, 785, 180, 211, 181, 212, 220, 182, 183, 786, 787, 788, 789, 209, 210, 790, 791, 792, 793, 816, 817, 818, 819, 820, 821, 887, 888, 889, 890, 226, 891, 892, 893, 894, 179, 895, 896, 897, 898, 184, 185, 186, 899, 900, 901, 902, 207, 903, 904, 905, 906, 204, 205, 907, 202, 206, 203, 908, 909, 910, 911, 199, 227, 200, 1013, 1014, 1015, 1016, 228, 981, 982, 983, 984, 985, 986, 987, 988, 193, 194, 947, 948, 949, 950, 187, 188, 189, 190, 1060, 1061, 1062, 1063, 177, 1064, 1065, 1066, 1017, 1018, 1019, 1020, 192, 1021, 1022, 1023, 1511, 1512, 1513, 1514, 1515, 1516, 1517, 1518, 1519, 1520, 1521, 1522, 1523, 1524, 1525, 1526, 1527, 1528, 1529, 1530, 1531, 1532, 1533, 1534, 1535, 1536, 1537, 1538, 1539, 1540, 1541, 1542, 1543, 1544, 1545, 1546, 1547, 1548, 1549, 1550, 1551, 1552, 1553, 1554, 1555, 1556, 1557, 1558, 1559, 1560, 1561, 1562, 1563, 1564, 1565, 1566, 1567, 1568, 1569, 1570, 1571, 1572, 1573, 1574, 1575, 1576, 1577, 1578, 1579, 1580, 1581, 1582, 1583, 1584, 1585, 1586, 1587, 1588, 1589, 1590, 1591] (by decide +kernel) (by decide +kernel)
set_option maxRecDepth 20000 in
theorem gL_law_X12_hits : GoodIn wsL_law (wsV RL 92 RX12 yX12_hits wsX12_hits) := goodIn_app (goodIn_of _ (by decide +kernel)) ggL_law_X12_hits
set_option maxRecDepth 20000 in
theorem ggL_law_X11_hitAt : GoodIn wsL_law wsX11_hitAt := goodIn_r _ [1070, 34, 916, 1040, 1071, 1028, 1029, 1030, 2, 1031, 19, 959, 960, 961, 962, 747, 748, 749, 750, 28, 669, 1032, 1033, 1034, 1035, 38, 751, 752, 753, 33, 754, 755, 127, 756, 128, 757, 758, 759, 760, 761, 129, 762, 130, 763, 131, 132, 764, 133, 765, 766, 767, 768, 769, 770, 771, 772, 773, 922, 923, 924, 925, 135, 136, 137, 921, 848, 849, 850, 926, 852, 853, 854, 855, 856, 134, 857, 858, 859, 860, 861, 803, 804, 805, 862, 807, 808, 863, 864, 810, 811, 865, 799, 800, 801, 802, 806, 809, 866, 867, 868, 89, 869, 100, 97, 98, 95, 99, 96, 870, 871, 872, 873, 874, 875, 876, 877, 927, 928, 929, 930, 994, 995, 996, 37, 997, 998, 141, 142, 143, 999, 1000, 964, 965, 966, 144, 967, 968, 969, 970, 971, 972, 973, 940, 941, 18, 942, 80, 81, 82, 83, 1044, 1045, 1046, 1047, 993, 1002, 1003, 1004, 1005, 1006, 1007, 1008, 1495, 1496, 1497, 1498, 1499, 1500, 1501, 1502, 1503, 1504, 1505, 1506, 1507, 1508, 1509, 1510, 1631, 1632, 1633, 1634, 1635, 1636, 1637, 1638, 1639, 1640, 1641, 1599, 1600, 1601, 1602, 1603, 1604, 1605, 1606, 1607, 1608, 1609, 1610, 1611, 1612, 1613, 1614, 1624, 1625, 1626, 1627, 1628, 1629, 1630, 1658, 1659, 1660, 1661, 1662, 1663, 1664, 1642, 1643, 1644, 1645] (by decide +kernel) (by decide +kernel)
set_option maxRecDepth 20000 in
theorem gL_law_X11_hitAt : GoodIn wsL_law (wsV RL 93 RX11 yX11_hitAt wsX11_hitAt) := goodIn_app (goodIn_of _ (by decide +kernel)) ggL_law_X11_hitAt
set_option maxRecDepth 20000 in
theorem ggL_law_X12_hitAt : GoodIn wsL_law wsX12_hitAt := goodIn_r _ [1075, 225, 223, 177, 1052, 1053, 1054, 5, 1055, 191, 978, 979, 980, 778, 779, 780, 781, 208, 1056, 1057, 1058, 1059, 883, 884, 885, 886, 222, 178, 221, 218, 219, 224, 195, 196, 197, 782, 783, 784, 785, 180, 211, 181, 212, 220, 182, 183, 786, 787, 788, 789, 209, 210, 790, 791, 792, 793, 816, 817, 818, 819, 820, 821, 887, 888, 889, 890, 226, 891, 892, 893, 894, 179, 895, 896, 897, 898, 184, 185, 186, 899, 900, 901, 902, 207, 903, 904, 905, 906, 204, 205, 907, 202, 206, 203, 908, 909, 910, 911, 199, 227, 200, 1013, 1014, 1015, 1016, 228, 981, 982, 983, 984, 985, 986, 987, 988, 193, 194, 947, 948, 949, 950, 187, 188, 189, 190, 1017, 1018, 1019, 1020, 192, 1021, 1022, 1023, 1511, 1512, 1513, 1514, 1515, 1516, 1517, 1518, 1519, 1520, 1521, 1522, 1523, 1524, 1525, 1526, 1527, 1528, 1529, 1530, 1531, 1532, 1533, 1534, 1535, 1536, 1537, 1538, 1539, 1540, 1541, 1542, 1543, 1544, 1545, 1546, 1547, 1548, 1549, 1550, 1551, 1552, 1553, 1554, 1555, 1556, 1557, 1558, 1559, 1560, 1561, 1562, 1563, 1564, 1565, 1566, 1567, 1568, 1569, 1570, 1571, 1572, 1573, 1574, 1575, 1576, 1577, 1578, 1579, 1580, 1581, 1582, 1583, 1584, 1585, 1586, 1587, 1588, 1589, 1590, 1591] (by decide +kernel) (by decide +kernel)
set_option maxRecDepth 20000 in
theorem gL_law_X12_hitAt : GoodIn wsL_law (wsV RL 97 RX12 yX12_hitAt wsX12_hitAt) := goodIn_app (goodIn_of _ (by decide +kernel)) ggL_law_X12_hitAt
set_option maxRecDepth 20000 in
theorem ggL_law_X11_many : GoodIn wsL_law wsX11_many := goodIn_r _ [1079, 42, 1028, 1029, 1030, 2, 1031, 19, 959, 960, 961, 962, 747, 748, 749, 750, 28, 669, 1080, 1081, 1082, 1083, 34, 38, 993, 1032, 1033, 1034, 1035, 751, 752, 753, 33, 754, 755, 127, 756, 128, 757, 758, 759, 760, 761, 129, 762, 130, 763, 131, 132, 764, 133, 765, 766, 767, 768, 769, 770, 771, 772, 773, 922, 923, 924, 925, 135, 136, 137, 921, 848, 849, 850, 926, 852, 853, 854, 855, 856, 134, 857, 858, 859, 860, 861, 803, 804, 805, 862, 807, 808, 863, 864, 810, 811, 865, 799, 800, 801, 802, 806, 809, 866, 867, 868, 89, 869, 100, 97, 98, 95, 99, 96, 870, 871, 872, 873, 874, 875, 876, 877, 927, 928, 929, 930, 994, 995, 996, 37, 997, 998, 141, 142, 143, 999, 1000, 964, 965, 966, 144, 967, 968, 969, 970, 971, 972, 973, 940, 941, 18, 942, 80, 81, 82, 83, 1084, 1085, 1086, 41, 1087, 148, 1088, 1089, 1090, 372, 373, 374, 1091, 1092, 1093, 1094, 149, 1095, 1003, 1004, 1005, 1006, 1007, 1008, 1096, 1097, 1098, 1099, 150, 153, 154, 155, 1100, 1101, 1102, 1103, 1104, 1105, 1106, 1107, 1495, 1496, 1497, 1498, 1499, 1500, 1501, 1502, 1503, 1504, 1505, 1506, 1507, 1508, 1509, 1510, 1599, 1600, 1601, 1602, 1603, 1604, 1605, 1606, 1607, 1608, 1609, 1610, 1611, 1612, 1613, 1614, 1624, 1625, 1626, 1627, 1628, 1629, 1630, 1631, 1632, 1633, 1634, 1635, 1636, 1637, 1638, 1639, 1640, 1641, 1658, 1659, 1660, 1661, 1662, 1663, 1664, 1642, 1643, 1644, 1645, 1646, 1647, 1648, 1649, 1650, 1651, 1652, 1653] (by decide +kernel) (by decide +kernel)
set_option maxRecDepth 20000 in
theorem gL_law_X11_many : GoodIn wsL_law (wsV RL 98 RX11 yX11_many wsX11_many) := goodIn_app (goodIn_of _ (by decide +kernel)) ggL_law_X11_many
set_option maxRecDepth 20000 in
theorem ggL_law_X12_many : GoodIn wsL_law wsX12_many := goodIn_r _ [1111, 1052, 1053, 1054, 5, 1055, 191, 978, 979, 980, 778, 779, 780, 781, 208, 1056, 1057, 1058, 1059, 883, 884, 885, 886, 222, 178, 221, 218, 219, 225, 223, 224, 195, 196, 197, 782, 783, 784, 785, 180, 211, 181, 212, 220, 182, 183, 786, 787, 788, 789, 209, 210, 790, 791, 792, 793, 816, 817, 818, 819, 820, 821, 887, 888, 889, 890, 226, 891, 892, 893, 894, 179, 895, 896, 897, 898, 184, 185, 186, 899, 900, 901, 902, 207, 903, 904, 905, 906, 204, 205, 907, 202, 206, 203, 908, 909, 910, 911, 199, 227, 200, 1013, 1014, 1015, 1016, 228, 981, 982, 983, 984, 985, 986, 987, 988, 193, 194, 947, 948, 949, 950, 187, 188, 189, 190, 1112, 1113, 1114, 1115, 1060, 1061, 1062, 1063, 177, 1064, 1065, 1066, 1017, 1018, 1019, 1020, 192, 1021, 1022, 1023, 1511, 1512, 1513, 1514, 1515, 1516, 1517, 1518, 1519, 1520, 1521, 1522, 1523, 1524, 1525, 1526, 1527, 1528, 1529, 1530, 1531, 1532, 1533, 1534, 1535, 1536, 1537, 1538, 1539, 1540, 1541, 1542, 1543, 1544, 1545, 1546, 1547, 1548, 1549, 1550, 1551, 1552, 1553, 1554, 1555, 1556, 1557, 1558, 1559, 1560, 1561, 1562, 1563, 1564, 1565, 1566, 1567, 1568, 1569, 1570, 1571, 1572, 1573, 1574, 1575, 1576, 1577, 1578, 1579, 1580, 1581, 1582, 1583, 1584, 1585, 1586, 1587, 1588, 1589, 1590, 1591] (by decide +kernel) (by decide +kernel)
set_option maxRecDepth 20000 in
theorem gL_law_X12_many : GoodIn wsL_law (wsV RL 101 RX12 yX12_many wsX12_many) := goodIn_app (goodIn_of _ (by decide +kernel)) ggL_law_X12_many
set_option maxRecDepth 20000 in
theorem ggL_law_X11_allHits : GoodIn wsL_law wsX11_allHits := goodIn_r _ [1119, 42, 1028, 1029, 1030, 2, 1031, 19, 959, 960, 961, 962, 747, 748, 749, 750, 28, 669, 1080, 1081, 1082, 1083, 34, 38, 993, 1032, 1033, 1034, 1035, 751, 752, 753, 33, 754, 755, 127, 756, 128, 757, 758, 759, 760, 761, 129, 762, 130, 763, 131, 132, 764, 133, 765, 766, 767, 768, 769, 770, 771, 772, 773, 922, 923, 924, 925, 135, 136, 137, 921, 848, 849, 850, 926, 852, 853, 854, 855, 856, 134, 857, 858, 859, 860, 861, 803, 804, 805, 862, 807, 808, 863, 864, 810, 811, 865, 799, 800, 801, 802, 806, 809, 866, 867, 868, 89, 869, 100, 97, 98, 95, 99, 96, 870, 871, 872, 873, 874, 875, 876, 877, 927, 928, 929, 930, 994, 995, 996, 37, 997, 998, 141, 142, 143, 999, 1000, 964, 965, 966, 144, 967, 968, 969, 970, 971, 972, 973, 940, 941, 18, 942, 80, 81, 82, 83, 1084, 1085, 1086, 41, 1087, 148, 1088, 1089, 1090, 372, 373, 374, 1091, 1092, 1093, 1094, 149, 1095, 1003, 1004, 1005, 1006, 1007, 1008, 1096, 1097, 1098, 1099, 150, 153, 154, 155, 1100, 1101, 1102, 1103, 1120, 1121, 1122, 1123, 1495, 1496, 1497, 1498, 1499, 1500, 1501, 1502, 1503, 1504, 1505, 1506, 1507, 1508, 1509, 1510, 1599, 1600, 1601, 1602, 1603, 1604, 1605, 1606, 1607, 1608, 1609, 1610, 1611, 1612, 1613, 1614, 1624, 1625, 1626, 1627, 1628, 1629, 1630, 1631, 1632, 1633, 1634, 1635, 1636, 1637, 1638, 1639, 1640, 1641, 1658, 1659, 1660, 1661, 1662, 1663, 1664, 1642, 1643, 1644, 1645, 1646, 1647, 1648, 1649, 1650, 1651, 1652, 1653] (by decide +kernel) (by decide +kernel)
set_option maxRecDepth 20000 in
theorem gL_law_X11_allHits : GoodIn wsL_law (wsV RL 102 RX11 yX11_allHits wsX11_allHits) := goodIn_app (goodIn_of _ (by decide +kernel)) ggL_law_X11_allHits
set_option maxRecDepth 20000 in
theorem ggL_law_X12_allHits : GoodIn wsL_law wsX12_allHits := goodIn_r _ [1127, 1052, 1053, 1054, 5, 1055, 191, 978, 979, 980, 778, 779, 780, 781, 208, 1056, 1057, 1058, 1059, 883, 884, 885, 886, 222, 178, 221, 218, 219, 225, 223, 224, 195, 196, 197, 782, 783, 784, 785, 180, 211, 181, 212, 220, 182, 183, 786, 787, 788, 789, 209, 210, 790, 791, 792, 793, 816, 817, 818, 819, 820, 821, 887, 888, 889, 890, 226, 891, 892, 893, 894, 179, 895, 896, 897, 898, 184, 185, 186, 899, 900, 901, 902, 207, 903, 904, 905, 906, 204, 205, 907, 202, 206, 203, 908, 909, 910, 911, 199, 227, 200, 1013, 1014, 1015, 1016, 228, 981, 982, 983, 984, 985, 986, 987, 988, 193, 194, 947, 948, 949, 950, 187, 188, 189, 190, 1060, 1061, 1062, 1063, 177, 1064, 1065, 1066, 1017, 1018, 1019, 1020, 192, 1021, 1022, 1023, 1511, 1512, 1513, 1514, 1515, 1516, 1517, 1518, 1519, 1520, 1521, 1522, 1523, 1524, 1525, 1526, 1527, 1528, 1529, 1530, 1531, 1532, 1533, 1534, 1535, 1536, 1537, 1538, 1539, 1540, 1541, 1542, 1543, 1544, 1545, 1546, 1547, 1548, 1549, 1550, 1551, 1552, 1553, 1554, 1555, 1556, 1557, 1558, 1559, 1560, 1561, 1562, 1563, 1564, 1565, 1566, 1567, 1568, 1569, 1570, 1571, 1572, 1573, 1574, 1575, 1576, 1577, 1578, 1579, 1580, 1581, 1582, 1583, 1584, 1585, 1586, 1587, 1588, 1589, 1590, 1591] (by decide +kernel) (by decide +kernel)
set_option maxRecDepth 20000 in
theorem gL_law_X12_allHits : GoodIn wsL_law (wsV RL 105 RX12 yX12_allHits wsX12_allHits) := goodIn_app (goodIn_of _ (by decide +kernel)) ggL_law_X12_allHits
set_option maxRecDepth 20000 in
theorem ggL_law_X11_alone : GoodIn wsL_law wsX11_alone := goodIn_r _ [1131, 46, 34, 916, 1040, 1071, 1028, 1029, 1030, 2, 1031, 19, 959, 960, 961, 962, 747, 748, 749, 750, 28, 669, 1032, 1033, 1034, 1035, 38, 751, 752, 753, 33, 754, 755, 127, 756, 128, 757, 758, 759, 760, 761, 129, 762, 130, 763, 131, 132, 764, 133, 765, 766, 767, 768, 769, 770, 771, 772, 773, 922, 923, 924, 925, 135, 136, 137, 921, 848, 849, 850, 926, 852, 853, 854, 855, 856, 134, 857, 858, 859, 860, 861, 803, 804, 805, 862, 807, 808, 863, 864, 810, 811, 865, 799, 800, 801, 802, 806, 809, 866, 867, 868, 89, 869, 100, 97, 98, 95, 99, 96, 870, 871, 872, 873, 874, 875, 876, 877, 927, 928, 929, 930, 994, 995, 996, 37, 997, 998, 141, 142, 143, 999, 1000, 964, 965, 966, 144, 967, 968, 969, 970, 971, 972, 973, 940, 941, 18, 942, 80, 81, 82, 83, 1132, 1133, 1134, 45, 1135, 159, 1136, 372, 373, 374, 1044, 1045, 1046, 1047, 993, 1002, 1003, 1004, 1005, 1006, 1007, 1008, 1137, 1138, 1139, 1140, 1141, 1142, 1143, 1144, 160, 1145, 1146, 1147, 1148, 1149, 1150, 1151, 1152, 1153, 1154, 1155, 1156, 1157, 1158, 1159, 1160, 1161, 1162, 1163, 1164, 1165, 1495, 1496, 1497, 1498, 1499, 1500, 1501, 1502, 1503, 1504, 1505, 1506, 1507, 1508, 1509, 1510, 1631, 1632, 1633, 1634, 1635, 1636, 1637, 1638, 1639, 1640, 1641, 1599, 1600, 1601, 1602, 1603, 1604, 1605, 1606, 1607, 1608, 1609, 1610, 1611, 1612, 1613, 1614, 1624, 1625, 1626, 1627, 1628, 1629, 1630, 1658, 1659, 1660, 1661, 1662, 1663, 1664, 1642, 1643, 1644, 1645, 1654, 1655] (by decide +kernel) (by decide +kernel)
set_option maxRecDepth 20000 in
theorem gL_law_X11_alone : GoodIn wsL_law (wsV RL 106 RX11 yX11_alone wsX11_alone) := goodIn_app (goodIn_of _ (by decide +kernel)) ggL_law_X11_alone
set_option maxRecDepth 20000 in
theorem ggL_law_X12_alone : GoodIn wsL_law wsX12_alone := goodIn_r _ [1169, 230, 225, 223, 177, 178, 229, 1052, 1053, 1054, 5, 1055, 191, 978, 979, 980, 778, 779, 780, 781, 208, 1056, 1057, 1058, 1059, 883, 884, 885, 886, 222, 221, 218, 219, 224, 195, 196, 197, 782, 783, 784, 785, 180, 211, 181, 212, 220, 182, 183, 786, 787, 788, 789, 209, 210, 790, 791, 792, 793, 816, 817, 818, 819, 820, 821, 887, 888, 889, 890, 226, 891, 892, 893, 894, 179, 895, 896, 897, 898, 184, 185, 186, 899, 900, 901, 902, 207, 903, 904, 905, 906, 204, 205, 907, 202, 206, 203, 908, 909, 910, 911, 199, 227, 200, 1013, 1014, 1015, 1016, 228, 981, 982, 983, 984, 985, 986, 987, 988, 193, 194, 947, 948, 949, 950, 187, 188, 189, 190, 1017, 1018, 1019, 1020, 192, 1021, 1022, 1023, 1511, 1512, 1513, 1514, 1515, 1516, 1517, 1518, 1519, 1520, 1521, 1522, 1523, 1524, 1525, 1526, 1527, 1528, 1529, 1530, 1531, 1532, 1533, 1534, 1535, 1536, 1537, 1538, 1539, 1540, 1541, 1542, 1543, 1544, 1545, 1546, 1547, 1548, 1549, 1550, 1551, 1552, 1553, 1554, 1555, 1556, 1557, 1558, 1559, 1560, 1561, 1562, 1563, 1564, 1565, 1566, 1567, 1568, 1569, 1570, 1571, 1572, 1573, 1574, 1575, 1576, 1577, 1578, 1579, 1580, 1581, 1582, 1583, 1584, 1585, 1586, 1587, 1588, 1589, 1590, 1591] (by decide +kernel) (by decide +kernel)
set_option maxRecDepth 20000 in
theorem gL_law_X12_alone : GoodIn wsL_law (wsV RL 109 RX12 yX12_alone wsX12_alone) := goodIn_app (goodIn_of _ (by decide +kernel)) ggL_law_X12_alone
set_option maxRecDepth 20000 in
theorem ggL_law_X11_striking : GoodIn wsL_law wsX11_striking := goodIn_r _ [1173, 42, 34, 38, 1174, 960, 961, 2, 962, 826, 827, 828, 747, 748, 749, 750, 28, 669, 1032, 1033, 1034, 1035, 19, 751, 752, 753, 33, 754, 755, 127, 756, 128, 757, 758, 759, 760, 761, 129, 762, 130, 763, 131, 132, 764, 133, 765, 766, 767, 768, 769, 770, 771, 772, 773, 922, 923, 924, 925, 135, 136, 137, 921, 848, 849, 850, 926, 852, 853, 854, 855, 856, 134, 857, 858, 859, 860, 861, 803, 804, 805, 862, 807, 808, 863, 864, 810, 811, 865, 799, 800, 801, 802, 806, 809, 866, 867, 868, 89, 869, 100, 97, 98, 95, 99, 96, 870, 871, 872, 873, 874, 875, 876, 877, 927, 928, 929, 930, 994, 995, 996, 37, 997, 998, 141, 142, 143, 999, 1000, 964, 965, 966, 144, 967, 968, 969, 970, 971, 972, 973, 940, 941, 18, 942, 80, 81, 82, 83, 1175, 1176, 1177, 41, 1178, 151, 1179, 1090, 372, 373, 374, 1180, 1085, 1086, 1087, 148, 1088, 1089, 1181, 1092, 1093, 1094, 149, 1095, 1003, 1004, 1005, 1006, 1007, 1008, 1182, 1097, 1098, 1099, 150, 153, 154, 155, 1100, 1101, 1102, 1103, 1183, 1184, 1185, 1186, 152, 1187, 1495, 1496, 1497, 1498, 1499, 1500, 1501, 1502, 1503, 1504, 1505, 1506, 1507, 1508, 1509, 1510, 1646, 1647, 1648, 1649, 1650, 1651, 1652, 1653, 1624, 1625, 1626, 1627, 1628, 1629, 1630, 1599, 1600, 1601, 1602, 1603, 1604, 1605, 1606, 1607, 1608, 1609, 1610, 1611, 1612, 1613, 1614, 1631, 1632, 1633, 1634, 1635, 1636, 1637, 1638, 1639, 1640, 1641, 1658, 1659, 1660, 1661, 1662, 1663, 1664, 1642, 1643, 1644, 1645] (by decide +kernel) (by decide +kernel)
set_option maxRecDepth 20000 in
theorem gL_law_X11_striking : GoodIn wsL_law (wsV RL 110 RX11 yX11_striking wsX11_striking) := goodIn_app (goodIn_of _ (by decide +kernel)) ggL_law_X11_striking
set_option maxRecDepth 20000 in
theorem ggL_law_X12_striking : GoodIn wsL_law wsX12_striking := goodIn_r _ [1191, 231, 978, 979, 5, 980, 690, 691, 692, 778, 779, 780, 781, 208, 1056, 1057, 1058, 1059, 883, 884, 885, 886, 222, 178, 221, 218, 219, 225, 223, 224, 195, 196, 197, 782, 783, 784, 785, 180, 211, 181, 212, 220, 182, 183, 786, 787, 788, 789, 209, 210, 790, 791, 792, 793, 816, 817, 818, 819, 820, 821, 887, 888, 889, 890, 226, 891, 892, 893, 894, 179, 895, 896, 897, 898, 184, 185, 186, 899, 900, 901, 902, 207, 903, 904, 905, 906, 204, 205, 907, 202, 206, 203, 908, 909, 910, 911, 199, 227, 200, 1013, 1014, 1015, 1016, 191, 228, 981, 982, 983, 984, 985, 986, 987, 988, 193, 194, 947, 948, 949, 950, 187, 188, 189, 190, 1192, 1193, 1194, 1195, 235, 1064, 1065, 1066, 1017, 1018, 1019, 1020, 192, 1021, 1022, 1023, 1196, 1197, 1198, 1199, 233, 232, 1511, 1512, 1513, 1514, 1515, 1516, 1517, 1518, 1519, 1520, 1521, 1522, 1523, 1524, 1525, 1526, 1527, 1528, 1529, 1530, 1531, 1532, 1533, 1534, 1535, 1536, 1537, 1538, 1539, 1540, 1541, 1542, 1543, 1544, 1545, 1546, 1547, 1548, 1549, 1550, 1551, 1552, 1553, 1554, 1555, 1556, 1557, 1558, 1559, 1560, 1561, 1562, 1563, 1564, 1565, 1566, 1567, 1568, 1569, 1570, 1571, 1572, 1573, 1574, 1575, 1576, 1577, 1578, 1579, 1580, 1581, 1582, 1583, 1584, 1585, 1586, 1587, 1588, 1589, 1590, 1591] (by decide +kernel) (by decide +kernel)
set_option maxRecDepth 20000 in
theorem gL_law_X12_striking : GoodIn wsL_law (wsV RL 113 RX12 yX12_striking wsX12_striking) := goodIn_app (goodIn_of _ (by decide +kernel)) ggL_law_X12_striking
set_option maxRecDepth 20000 in
theorem ggL_law_X11_price : GoodIn wsL_law wsX11_price := goodIn_r _ [1203, 42, 34, 38, 1174, 960, 961, 2, 962, 747, 748, 749, 750, 28, 669, 1032, 1033, 1034, 1035, 19, 751, 752, 753, 33, 754, 755, 127, 756, 128, 757, 758, 759, 760, 761, 129, 762, 130, 763, 131, 132, 764, 133, 765, 766, 767, 768, 769, 770, 771, 772, 773, 922, 923, 924, 925, 135, 136, 137, 921, 848, 849, 850, 926, 852, 853, 854, 855, 856, 134, 857, 858, 859, 860, 861, 803, 804, 805, 862, 807, 808, 863, 864, 810, 811, 865, 799, 800, 801, 802, 806, 809, 866, 867, 868, 89, 869, 100, 97, 98, 95, 99, 96, 870, 871, 872, 873, 874, 875, 876, 877, 927, 928, 929, 930, 994, 995, 996, 37, 997, 998, 141, 142, 143, 999, 1000, 964, 965, 966, 144, 967, 968, 969, 970, 971, 972, 973, 940, 941, 18, 942, 80, 81, 82, 83, 1175, 1176, 1177, 41, 1178, 151, 1179, 1090, 372, 373, 374, 1180, 1085, 1086, 1087, 148, 1088, 1089, 1181, 1092, 1093, 1094, 149, 1095, 1003, 1004, 1005, 1006, 1007, 1008, 1182, 1097, 1098, 1099, 150, 153, 154, 155, 1100, 1101, 1102, 1103, 1183, 1184, 1185, 1186, 152, 1187, 1495, 1496, 1497, 1498, 1499, 1500, 1501, 1502, 1503, 1504, 1505, 1506, 1507, 1508, 1509, 1510, 1646, 1647, 1648, 1649, 1650, 1651, 1652, 1653, 1624, 1625, 1626, 1627, 1628, 1629, 1630, 1599, 1600, 1601, 1602, 1603, 1604, 1605, 1606, 1607, 1608, 1609, 1610, 1611, 1612, 1613, 1614, 1631, 1632, 1633, 1634, 1635, 1636, 1637, 1638, 1639, 1640, 1641, 1658, 1659, 1660, 1661, 1662, 1663, 1664, 1642, 1643, 1644, 1645] (by decide +kernel) (by decide +kernel)
set_option maxRecDepth 20000 in
theorem gL_law_X11_price : GoodIn wsL_law (wsV RL 114 RX11 yX11_price wsX11_price) := goodIn_app (goodIn_of _ (by decide +kernel)) ggL_law_X11_price
set_option maxRecDepth 20000 in
theorem ggL_law_X12_price : GoodIn wsL_law wsX12_price := goodIn_r _ [1207, 231, 978, 979, 5, 980, 778, 779, 780, 781, 208, 1056, 1057, 1058, 1059, 883, 884, 885, 886, 222, 178, 221, 218, 219, 225, 223, 224, 195, 196, 197, 782, 783, 784, 785, 180, 211, 181, 212, 220, 182, 183, 786, 787, 788, 789, 209, 210, 790, 791, 792, 793, 816, 817, 818, 819, 820, 821, 887, 888, 889, 890, 226, 891, 892, 893, 894, 179, 895, 896, 897, 898, 184, 185, 186, 899, 900, 901, 902, 207, 903, 904, 905, 906, 204, 205, 907, 202, 206, 203, 908, 909, 910, 911, 199, 227, 200, 1013, 1014, 1015, 1016, 191, 228, 981, 982, 983, 984, 985, 986, 987, 988, 193, 194, 947, 948, 949, 950, 187, 188, 189, 190, 1192, 1193, 1194, 1195, 235, 1064, 1065, 1066, 1017, 1018, 1019, 1020, 192, 1021, 1022, 1023, 1196, 1197, 1198, 1199, 233, 232, 1511, 1512, 1513, 1514, 1515, 1516, 1517, 1518, 1519, 1520, 1521, 1522, 1523, 1524, 1525, 1526, 1527, 1528, 1529, 1530, 1531, 1532, 1533, 1534, 1535, 1536, 1537, 1538, 1539, 1540, 1541, 1542, 1543, 1544, 1545, 1546, 1547, 1548, 1549, 1550, 1551, 1552, 1553, 1554, 1555, 1556, 1557, 1558, 1559, 1560, 1561, 1562, 1563, 1564, 1565, 1566, 1567, 1568, 1569, 1570, 1571, 1572, 1573, 1574, 1575, 1576, 1577, 1578, 1579, 1580, 1581, 1582, 1583, 1584, 1585, 1586, 1587, 1588, 1589, 1590, 1591] (by decide +kernel) (by decide +kernel)
set_option maxRecDepth 20000 in
theorem gL_law_X12_price : GoodIn wsL_law (wsV RL 117 RX12 yX12_price wsX12_price) := goodIn_app (goodIn_of _ (by decide +kernel)) ggL_law_X12_price
set_option maxRecDepth 20000 in
theorem ggL_law_X11_story : GoodIn wsL_law wsX11_story := goodIn_r _ [1211, 19, 1212, 34, 916, 42, 1028, 1029, 1030, 2, 1031, 959, 960, 961, 962, 747, 748, 749, 750, 28, 669, 1032, 1033, 1034, 1035, 38, 751, 752, 753, 33, 754, 755, 127, 756, 128, 757, 758, 759, 760, 761, 129, 762, 130, 763, 131, 132, 764, 133, 765, 766, 767, 768, 769, 770, 771, 772, 773, 922, 923, 924, 925, 135, 136, 137, 921, 848, 849, 850, 926, 852, 853, 854, 855, 856, 134, 857, 858, 859, 860, 861, 803, 804, 805, 862, 807, 808, 863, 864, 810, 811, 865, 799, 800, 801, 802, 806, 809, 866, 867, 868, 89, 869, 100, 97, 98, 95, 99, 96, 870, 871, 872, 873, 874, 875, 876, 877, 927, 928, 929, 930, 994, 995, 996, 37, 997, 998, 141, 142, 143, 999, 1000, 964, 965, 966, 144, 967, 968, 969, 970, 971, 972, 973, 940, 941, 18, 942, 80, 81, 82, 83, 1213, 1214, 1215, 1216, 1036, 1037, 1038, 1039, 1040, 1041, 1042, 1043, 1044, 1045, 1046, 1047, 993, 1002, 1003, 1004, 1005, 1006, 1007, 1008, 1080, 1081, 1082, 1083, 1084, 1085, 1086, 41, 1087, 148, 1088, 1089, 1090, 372, 373, 374, 1091, 1092, 1093, 1094, 149, 1095, 1096, 1097, 1098, 1099, 150, 153, 154, 155, 1100, 1101, 1102, 1103, 1104, 1105, 1106, 1107, 1495, 1496, 1497, 1498, 1499, 1500, 1501, 1502, 1503, 1504, 1505, 1506, 1507, 1508, 1509, 1510, 1599, 1600, 1601, 1602, 1603, 1604, 1605, 1606, 1607, 1608, 1609, 1610, 1611, 1612, 1613, 1614, 1631, 1632, 1633, 1634, 1635, 1636, 1637, 1638, 1639, 1640, 1641, 1624, 1625, 1626, 1627, 1628, 1629, 1630, 1658, 1659, 1660, 1661, 1662, 1663, 1664, 1642, 1643, 1644, 1645, 1646, 1647, 1648, 1649, 1650, 1651, 1652, 1653] (by decide +kernel) (by decide +kernel)
set_option maxRecDepth 20000 in
theorem gL_law_X11_story : GoodIn wsL_law (wsV RL 118 RX11 yX11_story wsX11_story) := goodIn_app (goodIn_of _ (by decide +kernel)) ggL_law_X11_story
set_option maxRecDepth 20000 in
theorem ggL_law_X12_story : GoodIn wsL_law wsX12_story := goodIn_r _ [1220, 195, 222, 225, 196, 197, 1052, 1053, 1054, 5, 1055, 191, 978, 979, 980, 778, 779, 780, 781, 208, 690, 691, 692, 883, 884, 885, 886, 178, 221, 218, 219, 223, 224, 782, 783, 784, 785, 180, 211, 181, 212, 220, 182, 183, 786, 787, 788, 789, 209, 210, 790, 791, 792, 793, 816, 817, 818, 819, 820, 821, 887, 888, 889, 890, 226, 891, 892, 893, 894, 179, 895, 896, 897, 898, 184, 185, 186, 899, 900, 901, 902, 207, 903, 904, 905, 906, 204, 205, 907, 202, 206, 203, 908, 909, 910, 911, 199, 227, 200, 1013, 1014, 1015, 1016, 228, 981, 982, 983, 984, 985, 986, 987, 988, 193, 194, 947, 948, 949, 950, 187, 188, 189, 190, 1060, 1061, 1062, 1063, 177, 1064, 1065, 1066, 1017, 1018, 1019, 1020, 192, 1021, 1022, 1023, 1112, 1113, 1114, 1115, 1511, 1512, 1513, 1514, 1515, 1516, 1517, 1518, 1519, 1520, 1521, 1522, 1523, 1524, 1525, 1526, 1527, 1528, 1529, 1530, 1531, 1532, 1533, 1534, 1535, 1536, 1537, 1538, 1539, 1540, 1541, 1542, 1543, 1544, 1545, 1546, 1547, 1548, 1549, 1550, 1551, 1552, 1553, 1554, 1555, 1556, 1557, 1558, 1559, 1560, 1561, 1562, 1563, 1564, 1565, 1566, 1567, 1568, 1569, 1570, 1571, 1572, 1573, 1574, 1575, 1576, 1577, 1578, 1579, 1580, 1581, 1582, 1583, 1584, 1585, 1586, 1587, 1588, 1589, 1590, 1591] (by decide +kernel) (by decide +kernel)
set_option maxRecDepth 20000 in
theorem gL_law_X12_story : GoodIn wsL_law (wsV RL 121 RX12 yX12_story wsX12_story) := goodIn_app (goodIn_of _ (by decide +kernel)) ggL_law_X12_story
set_option maxRecDepth 20000 in
theorem ggL_law_X11_otherwise : GoodIn wsL_law wsX11_otherwise := goodIn_r _ [1224, 56, 34, 916, 1071, 1040, 1028, 1029, 1030, 2, 1031, 19, 959, 960, 961, 962, 747, 748, 749, 750, 28, 669, 1032, 1033, 1034, 1035, 38, 751, 752, 753, 33, 754, 755, 127, 756, 128, 757, 758, 759, 760, 761, 129, 762, 130, 763, 131, 132, 764, 133, 765, 766, 767, 768, 769, 770, 771, 772, 773, 922, 923, 924, 925, 135, 136, 137, 921, 848, 849, 850, 926, 852, 853, 854, 855, 856, 134, 857, 858, 859, 860, 861, 803, 804, 805, 862, 807, 808, 863, 864, 810, 811, 865, 799, 800, 801, 802, 806, 809, 866, 867, 868, 89, 869, 100, 97, 98, 95, 99, 96, 870, 871, 872, 873, 874, 875, 876, 877, 927, 928, 929, 930, 994, 995, 996, 37, 997, 998, 141, 142, 143, 999, 1000, 964, 965, 966, 144, 967, 968, 969, 970, 971, 972, 973, 940, 941, 18, 942, 80, 81, 82, 83, 1044, 1045, 1046, 1047, 993, 1002, 1003, 1004, 1005, 1006, 1007, 1008, 1225, 1226, 1227, 1228, 1495, 1496, 1497, 1498, 1499, 1500, 1501, 1502, 1503, 1504, 1505, 1506, 1507, 1508, 1509, 1510, 1631, 1632, 1633, 1634, 1635, 1636, 1637, 1638, 1639, 1640, 1641, 1599, 1600, 1601, 1602, 1603, 1604, 1605, 1606, 1607, 1608, 1609, 1610, 1611, 1612, 1613, 1614, 1624, 1625, 1626, 1627, 1628, 1629, 1630, 1658, 1659, 1660, 1661, 1662, 1663, 1664, 1642, 1643, 1644, 1645] (by decide +kernel) (by decide +kernel)
set_option maxRecDepth 20000 in
theorem gL_law_X11_otherwise : GoodIn wsL_law (wsV RL 122 RX11 yX11_otherwise wsX11_otherwise) := goodIn_app (goodIn_of _ (by decide +kernel)) ggL_law_X11_otherwise
set_option maxRecDepth 20000 in
theorem ggL_law_X12_otherwise : GoodIn wsL_law wsX12_otherwise := goodIn_r _ [1232, 236, 225, 223, 177, 1052, 1053, 1054, 5, 1055, 191, 978, 979, 980, 778, 779, 780, 781, 208, 1056, 1057, 1058, 1059, 883, 884, 885, 886, 222, 178, 221, 218, 219, 224, 195, 196, 197, 782, 783, 784, 785, 180, 211, 181, 212, 220, 182, 183, 786, 787, 788, 789, 209, 210, 790, 791, 792, 793, 816, 817, 818, 819, 820, 821, 887, 888, 889, 890, 226, 891, 892, 893, 894, 179, 895, 896, 897, 898, 184, 185, 186, 899, 900, 901, 902, 207, 903, 904, 905, 906, 204, 205, 907, 202, 206, 203, 908, 909, 910, 911, 199, 227, 200, 1013, 1014, 1015, 1016, 228, 981, 982, 983, 984, 985, 986, 987, 988, 193, 194, 947, 948, 949, 950, 187, 188, 189, 190, 1017, 1018, 1019, 1020, 192, 1021, 1022, 1023, 1511, 1512, 1513, 1514, 1515, 1516, 1517, 1518, 1519, 1520, 1521, 1522, 1523, 1524, 1525, 1526, 1527, 1528, 1529, 1530, 1531, 1532, 1533, 1534, 1535, 1536, 1537, 1538, 1539, 1540, 1541, 1542, 1543, 1544, 1545, 1546, 1547, 1548, 1549, 1550, 1551, 1552, 1553, 1554, 1555, 1556, 1557, 1558, 1559, 1560, 1561, 1562, 1563, 1564, 1565, 1566, 1567, 1568, 1569, 1570, 1571, 1572, 1573, 1574, 1575, 1576, 1577, 1578, 1579, 1580, 1581, 1582, 1583, 1584, 1585, 1586, 1587, 1588, 1589, 1590, 1591] (by decide +kernel) (by decide +kernel)
set_option maxRecDepth 20000 in
theorem gL_law_X12_otherwise : GoodIn wsL_law (wsV RL 125 RX12 yX12_otherwise wsX12_otherwise) := goodIn_app (goodIn_of _ (by decide +kernel)) ggL_law_X12_otherwise
set_option maxRecDepth 20000 in
theorem ggL_law_X11_free : GoodIn wsL_law wsX11_free := goodIn_r _ [1236, 1028, 1029, 1030, 2, 1031, 19, 959, 960, 961, 962, 747, 748, 749, 750, 28, 669, 1237, 1238, 1239, 1032, 1033, 1034, 1035, 34, 38, 751, 752, 753, 33, 754, 755, 127, 756, 128, 757, 758, 759, 760, 761, 129, 762, 130, 763, 131, 132, 764, 133, 765, 766, 767, 768, 769, 770, 771, 772, 773, 922, 923, 924, 925, 135, 136, 137, 921, 848, 849, 850, 926, 852, 853, 854, 855, 856, 134, 857, 858, 859, 860, 861, 803, 804, 805, 862, 807, 808, 863, 864, 810, 811, 865, 799, 800, 801, 802, 806, 809, 866, 867, 868, 89, 869, 100, 97, 98, 95, 99, 96, 870, 871, 872, 873, 874, 875, 876, 877, 927, 928, 929, 930, 994, 995, 996, 37, 997, 998, 141, 142, 143, 999, 1000, 964, 965, 966, 144, 967, 968, 969, 970, 971, 972, 973, 940, 941, 18, 942, 80, 81, 82, 83, 1240, 1241, 1242, 1243, 1213, 1214, 1215, 1216, 1036, 1037, 1038, 1039, 916, 1040, 1041, 1042, 1043, 1044, 1045, 1046, 1047, 993, 1002, 1003, 1004, 1005, 1006, 1007, 1008, 1495, 1496, 1497, 1498, 1499, 1500, 1501, 1502, 1503, 1504, 1505, 1506, 1507, 1508, 1509, 1510, 1599, 1600, 1601, 1602, 1603, 1604, 1605, 1606, 1607, 1608, 1609, 1610, 1611, 1612, 1613, 1614, 1624, 1625, 1626, 1627, 1628, 1629, 1630, 1631, 1632, 1633, 1634, 1635, 1636, 1637, 1638, 1639, 1640, 1641, 1658, 1659, 1660, 1661, 1662, 1663, 1664, 1642, 1643, 1644, 1645] (by decide +kernel) (by decide +kernel)
set_option maxRecDepth 20000 in
theorem gL_law_X11_free : GoodIn wsL_law (wsV RL 126 RX11 yX11_free wsX11_free) := goodIn_app (goodIn_of _ (by decide +kernel)) ggL_law_X11_free
set_option maxRecDepth 20000 in
theorem ggL_law_X12_free : GoodIn wsL_law wsX12_free := goodIn_r _ [1247, 1248, 1249, 1250, 5, 1251, 1052, 1053, 1054, 1055, 191, 978, 979, 980, 778, 779, 780, 781, 208, 690, 691, 692, 883, 884, 885, 886, 222, 178, 221, 218, 219, 225, 223, 224, 195, 196, 197, 782, 783, 784, 785, 180, 211, 181, 212, 220, 182, 183, 786, 787, 788, 789, 209, 210, 790, 791, 792, 793, 816, 817, 818, 819, 820, 821, 887, 888, 889, 890, 226, 891, 892, 893, 894, 179, 895, 896, 897, 898, 184, 185, 186, 899, 900, 901, 902, 207, 903, 904, 905, 906, 204, 205, 907, 202, 206, 203, 908, 909, 910, 911, 199, 227, 200, 1013, 1014, 1015, 1016, 228, 981, 982, 983, 984, 985, 986, 987, 988, 193, 194, 947, 948, 949, 950, 187, 188, 189, 190, 1060, 1061, 1062, 1063, 177, 1064, 1065, 1066, 1017, 1018, 1019, 1020, 192, 1021, 1022, 1023, 1511, 1512, 1513, 1514, 1515, 1516, 1517, 1518, 1519, 1520, 1521, 1522, 1523, 1524, 1525, 1526, 1527, 1528, 1529, 1530, 1531, 1532, 1533, 1534, 1535, 1536, 1537, 1538, 1539, 1540, 1541, 1542, 1543, 1544, 1545, 1546, 1547, 1548, 1549, 1550, 1551, 1552, 1553, 1554, 1555, 1556, 1557, 1558, 1559, 1560, 1561, 1562, 1563, 1564, 1565, 1566, 1567, 1568, 1569, 1570, 1571, 1572, 1573, 1574, 1575, 1576, 1577, 1578, 1579, 1580, 1581, 1582, 1583, 1584, 1585, 1586, 1587, 1588, 1589, 1590, 1591] (by decide +kernel) (by decide +kernel)
set_option maxRecDepth 20000 in
theorem gL_law_X12_free : GoodIn wsL_law (wsV RL 129 RX12 yX12_free wsX12_free) := goodIn_app (goodIn_of _ (by decide +kernel)) ggL_law_X12_free
set_option maxRecDepth 20000 in
theorem ggL_law_X11_freer : GoodIn wsL_law wsX11_freer := goodIn_r _ [1255, 1028, 1029, 1030, 2, 1031, 19, 959, 960, 961, 962, 747, 748, 749, 750, 28, 669, 1237, 1238, 1239, 1032, 1033, 1034, 1035, 34, 38, 751, 752, 753, 33, 754, 755, 127, 756, 128, 757, 758, 759, 760, 761, 129, 762, 130, 763, 131, 132, 764, 133, 765, 766, 767, 768, 769, 770, 771, 772, 773, 922, 923, 924, 925, 135, 136, 137, 921, 848, 849, 850, 926, 852, 853, 854, 855, 856, 134, 857, 858, 859, 860, 861, 803, 804, 805, 862, 807, 808, 863, 864, 810, 811, 865, 799, 800, 801, 802, 806, 809, 866, 867, 868, 89, 869, 100, 97, 98, 95, 99, 96, 870, 871, 872, 873, 874, 875, 876, 877, 927, 928, 929, 930, 994, 995, 996, 37, 997, 998, 141, 142, 143, 999, 1000, 964, 965, 966, 144, 967, 968, 969, 970, 971, 972, 973, 940, 941, 18, 942, 80, 81, 82, 83, 1213, 1214, 1215, 1216, 1036, 1037, 1038, 1039, 916, 1040, 1041, 1042, 1043, 1044, 1045, 1046, 1047, 993, 1002, 1003, 1004, 1005, 1006, 1007, 1008, 1240, 1241, 1242, 1243, 1495, 1496, 1497, 1498, 1499, 1500, 1501, 1502, 1503, 1504, 1505, 1506, 1507, 1508, 1509, 1510, 1599, 1600, 1601, 1602, 1603, 1604, 1605, 1606, 1607, 1608, 1609, 1610, 1611, 1612, 1613, 1614, 1624, 1625, 1626, 1627, 1628, 1629, 1630, 1631, 1632, 1633, 1634, 1635, 1636, 1637, 1638, 1639, 1640, 1641, 1658, 1659, 1660, 1661, 1662, 1663, 1664, 1642, 1643, 1644, 1645] (by decide +kernel) (by decide +kernel)
set_option maxRecDepth 20000 in
theorem gL_law_X11_freer : GoodIn wsL_law (wsV RL 130 RX11 yX11_freer wsX11_freer) := goodIn_app (goodIn_of _ (by decide +kernel)) ggL_law_X11_freer
set_option maxRecDepth 20000 in
theorem ggL_law_X12_freer : GoodIn wsL_law wsX12_freer := goodIn_r _ [1259, 1248, 1249, 1250, 5, 1251, 1052, 1053, 1054, 1055, 191, 978, 979, 980, 778, 779, 780, 781, 208, 690, 691, 692, 1056, 1057, 1058, 1059, 883, 884, 885, 886, 222, 178, 221, 218, 219, 225, 223, 224, 195, 196, 197, 782, 783, 784, 785, 180, 211, 181, 212, 220, 182, 183, 786, 787, 788, 789, 209, 210, 790, 791, 792, 793, 816, 817, 818, 819, 820, 821, 887, 888, 889, 890, 226, 891, 892, 893, 894, 179, 895, 896, 897, 898, 184, 185, 186, 899, 900, 901, 902, 207, 903, 904, 905, 906, 204, 205, 907, 202, 206, 203, 908, 909, 910, 911, 199, 227, 200, 1013, 1014, 1015, 1016, 228, 981, 982, 983, 984, 985, 986, 987, 988, 193, 194, 947, 948, 949, 950, 187, 188, 189, 190, 1060, 1061, 1062, 1063, 177, 1064, 1065, 1066, 1017, 1018, 1019, 1020, 192, 1021, 1022, 1023, 1511, 1512, 1513, 1514, 1515, 1516, 1517, 1518, 1519, 1520, 1521, 1522, 1523, 1524, 1525, 1526, 1527, 1528, 1529, 1530, 1531, 1532, 1533, 1534, 1535, 1536, 1537, 1538, 1539, 1540, 1541, 1542, 1543, 1544, 1545, 1546, 1547, 1548, 1549, 1550, 1551, 1552, 1553, 1554, 1555, 1556, 1557, 1558, 1559, 1560, 1561, 1562, 1563, 1564, 1565, 1566, 1567, 1568, 1569, 1570, 1571, 1572, 1573, 1574, 1575, 1576, 1577, 1578, 1579, 1580, 1581, 1582, 1583, 1584, 1585, 1586, 1587, 1588, 1589, 1590, 1591] (by decide +kernel) (by decide +kernel)
set_option maxRecDepth 20000 in
theorem gL_law_X12_freer : GoodIn wsL_law (wsV RL 134 RX12 yX12_freer wsX12_freer) := goodIn_app (goodIn_of _ (by decide +kernel)) ggL_law_X12_freer
set_option maxRecDepth 20000 in
theorem ggL_law_X11_next : GoodIn wsL_law wsX11_next := goodIn_r _ [1263, 34, 1264, 746, 1028, 1029, 1030, 2, 1031, 19, 959, 960, 961, 962, 747, 748, 749, 750, 28, 669, 1032, 1033, 1034, 1035, 38, 751, 752, 753, 33, 754, 755, 127, 756, 128, 757, 758, 759, 760, 761, 129, 762, 130, 763, 131, 132, 764, 133, 765, 766, 767, 768, 769, 770, 771, 772, 773, 922, 923, 924, 925, 135, 136, 137, 921, 848, 849, 850, 926, 852, 853, 854, 855, 856, 134, 857, 858, 859, 860, 861, 803, 804, 805, 862, 807, 808, 863, 864, 810, 811, 865, 799, 800, 801, 802, 806, 809, 866, 867, 868, 89, 869, 100, 97, 98, 95, 99, 96, 870, 871, 872, 873, 874, 875, 876, 877, 927, 928, 929, 930, 994, 995, 996, 37, 997, 998, 141, 142, 143, 999, 1000, 964, 965, 966, 144, 967, 968, 969, 970, 971, 972, 973, 940, 941, 18, 942, 80, 81, 82, 83, 1265, 1266, 1267, 1268, 916, 1071, 1040, 1044, 1045, 1046, 1047, 993, 1002, 1003, 1004, 1005, 1006, 1007, 1008, 1495, 1496, 1497, 1498, 1499, 1500, 1501, 1502, 1503, 1504, 1505, 1506, 1507, 1508, 1509, 1510, 1631, 1632, 1633, 1634, 1635, 1636, 1637, 1638, 1639, 1640, 1641, 1599, 1600, 1601, 1602, 1603, 1604, 1605, 1606, 1607, 1608, 1609, 1610, 1611, 1612, 1613, 1614, 1624, 1625, 1626, 1627, 1628, 1629, 1630, 1658, 1659, 1660, 1661, 1662, 1663, 1664, 1642, 1643, 1644, 1645] (by decide +kernel) (by decide +kernel)
set_option maxRecDepth 20000 in
theorem gL_law_X11_next : GoodIn wsL_law (wsV RL 135 RX11 yX11_next wsX11_next) := goodIn_app (goodIn_of _ (by decide +kernel)) ggL_law_X11_next
set_option maxRecDepth 20000 in
theorem ggL_law_X12_next : GoodIn wsL_law wsX12_next := goodIn_r _ [1272, 178, 221, 225, 223, 177, 1052, 1053, 1054, 5, 1055, 191, 978, 979, 980, 778, 779, 780, 781, 208, 1056, 1057, 1058, 1059, 883, 884, 885, 886, 222, 218, 219, 224, 195, 196, 197, 782, 783, 784, 785, 180, 211, 181, 212, 220, 182, 183, 786, 787, 788, 789, 209, 210, 790, 791, 792, 793, 816, 817, 818, 819, 820, 821, 887, 888, 889, 890, 226, 891, 892, 893, 894, 179, 895, 896, 897, 898, 184, 185, 186, 899, 900, 901, 902, 207, 903, 904, 905, 906, 204, 205, 907, 202, 206, 203, 908, 909, 910, 911, 199, 227, 200, 1013, 1014, 1015, 1016, 228, 981, 982, 983, 984, 985, 986, 987, 988, 193, 194, 947, 948, 949, 950, 187, 188, 189, 190, 1017, 1018, 1019, 1020, 192, 1021, 1022, 1023, 1511, 1512, 1513, 1514, 1515, 1516, 1517, 1518, 1519, 1520, 1521, 1522, 1523, 1524, 1525, 1526, 1527, 1528, 1529, 1530, 1531, 1532, 1533, 1534, 1535, 1536, 1537, 1538, 1539, 1540, 1541, 1542, 1543, 1544, 1545, 1546, 1547, 1548, 1549, 1550, 1551, 1552, 1553, 1554, 1555, 1556, 1557, 1558, 1559, 1560, 1561, 1562, 1563, 1564, 1565, 1566, 1567, 1568, 1569, 1570, 1571, 1572, 1573, 1574, 1575, 1576, 1577, 1578, 1579, 1580, 1581, 1582, 1583, 1584, 1585, 1586, 1587, 1588, 1589, 1590, 1591] (by decide +kernel) (by decide +kernel)
set_option maxRecDepth 20000 in
theorem gL_law_X12_next : GoodIn wsL_law (wsV RL 138 RX12 yX12_next wsX12_next) := goodIn_app (goodIn_of _ (by decide +kernel)) ggL_law_X12_next
set_option maxRecDepth 20000 in
theorem ggL_law_X11_site : GoodIn wsL_law wsX11_site := goodIn_r _ [1276, 51, 53, 54, 826, 827, 2, 828, 1495, 1496, 1497, 1498, 1499, 1500, 1501, 1502, 1503, 1504, 1505, 1506, 1507, 1508, 1509, 1510] (by decide +kernel) (by decide +kernel)
set_option maxRecDepth 20000 in
theorem gL_law_X11_site : GoodIn wsL_law (wsV RL 139 RX11 yX11_site wsX11_site) := goodIn_app (goodIn_of _ (by decide +kernel)) ggL_law_X11_site
set_option maxRecDepth 20000 in
theorem ggL_law_X12_site : GoodIn wsL_law wsX12_site := goodIn_r _ [1280, 1281, 215, 216, 690, 691, 5, 692, 1511, 1512, 1513, 1514, 1515, 1516, 1517, 1518, 1519, 1520, 1521, 1522, 1523, 1524, 1525, 1526, 1527, 1528, 1529, 1530, 1531, 1532, 1533, 1534, 1535, 1536, 1537, 1538, 1539, 1540, 1541, 1542, 1543, 1544, 1545, 1546, 1547, 1548, 1549, 1550, 1551, 1552, 1553, 1554, 1555, 1556, 1557, 1558, 1559, 1560, 1561, 1562, 1563, 1564, 1565, 1566, 1567, 1568, 1569, 1570, 1571, 1572, 1573, 1574, 1575, 1576, 1577, 1578, 1579, 1580, 1581, 1582, 1583, 1584, 1585, 1586, 1587, 1588, 1589, 1590, 1591] (by decide +kernel) (by decide +kernel)
set_option maxRecDepth 20000 in
theorem gL_law_X12_site : GoodIn wsL_law (wsV RL 142 RX12 yX12_site wsX12_site) := goodIn_app (goodIn_of _ (by decide +kernel)) ggL_law_X12_site
set_option maxRecDepth 20000 in
theorem ggL_law_X11_clear : GoodIn wsL_law wsX11_clear := goodIn_r _ [1285, 51, 1495, 1496, 1497, 1498, 1499, 1500, 1501, 1502, 1503, 1504, 1505, 1506, 1507, 1508, 1509, 1510] (by decide +kernel) (by decide +kernel)
set_option maxRecDepth 20000 in
theorem gL_law_X11_clear : GoodIn wsL_law (wsV RL 143 RX11 yX11_clear wsX11_clear) := goodIn_app (goodIn_of _ (by decide +kernel)) ggL_law_X11_clear
set_option maxRecDepth 20000 in
theorem ggL_law_X12_clear : GoodIn wsL_law wsX12_clear := goodIn_r _ [1289, 1281, 1511, 1512, 1513, 1514, 1515, 1516, 1517, 1518, 1519, 1520, 1521, 1522, 1523, 1524, 1525, 1526, 1527, 1528, 1529, 1530, 1531, 1532, 1533, 1534, 1535, 1536, 1537, 1538, 1539, 1540, 1541, 1542, 1543, 1544, 1545, 1546, 1547, 1548, 1549, 1550, 1551, 1552, 1553, 1554, 1555, 1556, 1557, 1558, 1559, 1560, 1561, 1562, 1563, 1564, 1565, 1566, 1567, 1568, 1569, 1570, 1571, 1572, 1573, 1574, 1575, 1576, 1577, 1578, 1579, 1580, 1581, 1582, 1583, 1584, 1585, 1586, 1587, 1588, 1589, 1590, 1591] (by decide +kernel) (by decide +kernel)
set_option maxRecDepth 20000 in
theorem gL_law_X12_clear : GoodIn wsL_law (wsV RL 146 RX12 yX12_clear wsX12_clear) := goodIn_app (goodIn_of _ (by decide +kernel)) ggL_law_X12_clear
set_option maxRecDepth 20000 in
theorem ggL_law_X11_pointing : GoodIn wsL_law wsX11_pointing := goodIn_r _ [1293, 54, 53, 826, 827, 2, 828, 1294, 1295, 1296, 1297, 51, 1298, 1007, 800, 1008, 802, 803, 804, 805, 809, 810, 811, 1495, 1496, 1497, 1498, 1499, 1500, 1501, 1502, 1503, 1504, 1505, 1506, 1507, 1508, 1509, 1510] (by decide +kernel) (by decide +kernel)
set_option maxRecDepth 20000 in
theorem gL_law_X11_pointing : GoodIn wsL_law (wsV RL 147 RX11 yX11_pointing wsX11_pointing) := goodIn_app (goodIn_of _ (by decide +kernel)) ggL_law_X11_pointing
set_option maxRecDepth 20000 in
theorem ggL_law_X12_pointing : GoodIn wsL_law wsX12_pointing := goodIn_r _ [1302, 690, 691, 5, 692, 1303, 1304, 1305, 1306, 1281, 216, 215, 1021, 1022, 1023, 819, 820, 821, 1511, 1512, 1513, 1514, 1515, 1516, 1517, 1518, 1519, 1520, 1521, 1522, 1523, 1524, 1525, 1526, 1527, 1528, 1529, 1530, 1531, 1532, 1533, 1534, 1535, 1536, 1537, 1538, 1539, 1540, 1541, 1542, 1543, 1544, 1545, 1546, 1547, 1548, 1549, 1550, 1551, 1552, 1553, 1554, 1555, 1556, 1557, 1558, 1559, 1560, 1561, 1562, 1563, 1564, 1565, 1566, 1567, 1568, 1569, 1570, 1571, 1572, 1573, 1574, 1575, 1576, 1577, 1578, 1579, 1580, 1581, 1582, 1583, 1584, 1585, 1586, 1587, 1588, 1589, 1590, 1591] (by decide +kernel) (by decide +kernel)
set_option maxRecDepth 20000 in
theorem gL_law_X12_pointing : GoodIn wsL_law (wsV RL 151 RX12 yX12_pointing wsX12_pointing) := goodIn_app (goodIn_of _ (by decide +kernel)) ggL_law_X12_pointing
set_option maxRecDepth 20000 in
theorem ggL_law_X11_chance : GoodIn wsL_law wsX11_chance := goodIn_r _ [1310, 1311, 51, 53, 826, 827, 2, 828, 1294, 1295, 1296, 1297, 1298, 1007, 800, 1008, 802, 803, 804, 805, 809, 810, 811, 1312, 1313, 1314, 1315, 1316, 1317, 1495, 1496, 1497, 1498, 1499, 1500, 1501, 1502, 1503, 1504, 1505, 1506, 1507, 1508, 1509, 1510] (by decide +kernel) (by decide +kernel)
set_option maxRecDepth 20000 in
theorem gL_law_X11_chance : GoodIn wsL_law (wsV RL 152 RX11 yX11_chance wsX11_chance) := goodIn_app (goodIn_of _ (by decide +kernel)) ggL_law_X11_chance
set_option maxRecDepth 20000 in
theorem ggL_law_X12_chance : GoodIn wsL_law wsX12_chance := goodIn_r _ [1321, 1281, 1322, 690, 691, 5, 692, 1303, 1304, 1305, 1306, 216, 215, 1021, 1022, 1023, 819, 820, 821, 1323, 1324, 1325, 1326, 1327, 1328, 1329, 1330, 1331, 1511, 1512, 1513, 1514, 1515, 1516, 1517, 1518, 1519, 1520, 1521, 1522, 1523, 1524, 1525, 1526, 1527, 1528, 1529, 1530, 1531, 1532, 1533, 1534, 1535, 1536, 1537, 1538, 1539, 1540, 1541, 1542, 1543, 1544, 1545, 1546, 1547, 1548, 1549, 1550, 1551, 1552, 1553, 1554, 1555, 1556, 1557, 1558, 1559, 1560, 1561, 1562, 1563, 1564, 1565, 1566, 1567, 1568, 1569, 1570, 1571, 1572, 1573, 1574, 1575, 1576, 1577, 1578, 1579, 1580, 1581, 1582, 1583, 1584, 1585, 1586, 1587, 1588, 1589, 1590, 1591] (by decide +kernel) (by decide +kernel)
set_option maxRecDepth 20000 in
theorem gL_law_X12_chance : GoodIn wsL_law (wsV RL 156 RX12 yX12_chance wsX12_chance) := goodIn_app (goodIn_of _ (by decide +kernel)) ggL_law_X12_chance
set_option maxRecDepth 20000 in
theorem ggL_law_X11_made : GoodIn wsL_law wsX11_made := goodIn_r _ [1335, 38, 19, 42, 993, 50, 1336, 1337, 1338, 2, 1339, 994, 995, 996, 37, 997, 998, 141, 142, 143, 999, 1000, 964, 965, 966, 144, 967, 968, 867, 868, 89, 869, 100, 97, 98, 95, 99, 96, 870, 871, 872, 873, 874, 875, 876, 877, 969, 970, 971, 972, 973, 940, 941, 18, 942, 80, 81, 82, 83, 1091, 1092, 1093, 41, 1094, 149, 1095, 1003, 1004, 1005, 1006, 1007, 800, 1008, 802, 803, 804, 805, 809, 810, 811, 1340, 1341, 1342, 49, 1343, 1344, 1345, 164, 165, 1346, 1347, 1348, 1349, 1350, 1351, 1352, 1353, 830, 831, 1354, 833, 834, 1355, 1356, 1357, 1358, 1359, 799, 801, 806, 807, 808, 1495, 1496, 1497, 1498, 1499, 1500, 1501, 1502, 1503, 1504, 1505, 1506, 1507, 1508, 1509, 1510, 1599, 1600, 1601, 1602, 1603, 1604, 1605, 1606, 1607, 1608, 1609, 1610, 1611, 1612, 1613, 1614, 1646, 1647, 1648, 1649, 1650, 1651, 1652, 1653, 1642, 1643, 1644, 1645, 1658, 1659, 1660, 1661, 1662, 1663, 1664, 1656, 1657] (by decide +kernel) (by decide +kernel)
set_option maxRecDepth 20000 in
theorem gL_law_X11_made : GoodIn wsL_law (wsV RL 157 RX11 yX11_made wsX11_made) := goodIn_app (goodIn_of _ (by decide +kernel)) ggL_law_X11_made
set_option maxRecDepth 20000 in
theorem ggL_law_X12_made : GoodIn wsL_law wsX12_made := goodIn_r _ [1363, 1364, 1365, 5, 1366, 690, 691, 692, 1367, 1368, 1369, 1370, 237, 238, 177, 1371, 1372, 1373, 1374, 191, 228, 1013, 1014, 1015, 1016, 981, 982, 983, 984, 985, 986, 987, 988, 226, 193, 194, 908, 909, 910, 911, 907, 199, 227, 200, 947, 948, 949, 950, 187, 188, 189, 190, 1375, 1376, 1377, 1378, 1379, 1380, 1381, 839, 840, 841, 816, 817, 818, 819, 820, 821, 1017, 1018, 1019, 1020, 192, 1021, 1022, 1023, 1511, 1512, 1513, 1514, 1515, 1516, 1517, 1518, 1519, 1520, 1521, 1522, 1523, 1524, 1525, 1526, 1527, 1528, 1529, 1530, 1531, 1532, 1533, 1534, 1535, 1536, 1537, 1538, 1539, 1540, 1541, 1542, 1543, 1544, 1545, 1546, 1547, 1548, 1549, 1550, 1551, 1552, 1553, 1554, 1555, 1556, 1557, 1558, 1559, 1560, 1561, 1562, 1563, 1564, 1565, 1566, 1567, 1568, 1569, 1570, 1571, 1572, 1573, 1574, 1575, 1576, 1577, 1578, 1579, 1580, 1581, 1582, 1583, 1584, 1585, 1586, 1587, 1588, 1589, 1590, 1591] (by decide +kernel) (by decide +kernel)
set_option maxRecDepth 20000 in
theorem gL_law_X12_made : GoodIn wsL_law (wsV RL 160 RX12 yX12_made wsX12_made) := goodIn_app (goodIn_of _ (by decide +kernel)) ggL_law_X12_made
set_option maxRecDepth 20000 in
theorem ggL_law_X11_madeAt : GoodIn wsL_law wsX11_madeAt := goodIn_r _ [1385, 38, 19, 50, 1386, 1387, 1337, 1338, 2, 1339, 994, 995, 996, 37, 997, 998, 141, 142, 143, 999, 1000, 964, 965, 966, 144, 967, 968, 867, 868, 89, 869, 100, 97, 98, 95, 99, 96, 870, 871, 872, 873, 874, 875, 876, 877, 969, 970, 971, 972, 973, 940, 941, 18, 942, 80, 81, 82, 83, 1340, 1341, 1342, 49, 1343, 1344, 1345, 164, 165, 1346, 1347, 1348, 1349, 1350, 1351, 1352, 1353, 830, 800, 831, 1354, 833, 834, 1495, 1496, 1497, 1498, 1499, 1500, 1501, 1502, 1503, 1504, 1505, 1506, 1507, 1508, 1509, 1510, 1656, 1657, 1599, 1600, 1601, 1602, 1603, 1604, 1605, 1606, 1607, 1608, 1609, 1610, 1611, 1612, 1613, 1614, 1642, 1643, 1644, 1645, 1658, 1659, 1660, 1661, 1662, 1663, 1664] (by decide +kernel) (by decide +kernel)
set_option maxRecDepth 20000 in
theorem gL_law_X11_madeAt : GoodIn wsL_law (wsV RL 161 RX11 yX11_madeAt wsX11_madeAt) := goodIn_app (goodIn_of _ (by decide +kernel)) ggL_law_X11_madeAt
set_option maxRecDepth 20000 in
theorem ggL_law_X12_madeAt : GoodIn wsL_law wsX12_madeAt := goodIn_r _ [1391, 237, 238, 1364, 1365, 5, 1366, 690, 691, 692, 1371, 1372, 1373, 1374, 191, 228, 1013, 1014, 1015, 1016, 981, 982, 983, 984, 985, 986, 987, 988, 226, 193, 194, 908, 909, 910, 911, 907, 199, 227, 200, 947, 948, 949, 950, 187, 188, 189, 190, 1375, 1376, 1377, 1378, 1379, 1380, 1381, 839, 840, 841, 1511, 1512, 1513, 1514, 1515, 1516, 1517, 1518, 1519, 1520, 1521, 1522, 1523, 1524, 1525, 1526, 1527, 1528, 1529, 1530, 1531, 1532, 1533, 1534, 1535, 1536, 1537, 1538, 1539, 1540, 1541, 1542, 1543, 1544, 1545, 1546, 1547, 1548, 1549, 1550, 1551, 1552, 1553, 1554, 1555, 1556, 1557, 1558, 1559, 1560, 1561, 1562, 1563, 1564, 1565, 1566, 1567, 1568, 1569, 1570, 1571, 1572, 1573, 1574, 1575, 1576, 1577, 1578, 1579, 1580, 1581, 1582, 1583, 1584, 1585, 1586, 1587, 1588, 1589, 1590, 1591] (by decide +kernel) (by decide +kernel)
set_option maxRecDepth 20000 in
theorem gL_law_X12_madeAt : GoodIn wsL_law (wsV RL 164 RX12 yX12_madeAt wsX12_madeAt) := goodIn_app (goodIn_of _ (by decide +kernel)) ggL_law_X12_madeAt
set_option maxRecDepth 20000 in
theorem ggL_law_X11_odds : GoodIn wsL_law wsX11_odds := goodIn_r _ [1395, 38, 19, 42, 993, 50, 1336, 1337, 1338, 2, 1339, 994, 995, 996, 37, 997, 998, 141, 142, 143, 999, 1000, 964, 965, 966, 144, 967, 968, 867, 868, 89, 869, 100, 97, 98, 95, 99, 96, 870, 871, 872, 873, 874, 875, 876, 877, 969, 970, 971, 972, 973, 940, 941, 18, 942, 80, 81, 82, 83, 1091, 1092, 1093, 41, 1094, 149, 1095, 1003, 1004, 1005, 1006, 1007, 800, 1008, 802, 803, 804, 805, 809, 810, 811, 1340, 1341, 1342, 49, 1343, 1344, 1345, 164, 165, 1346, 1347, 1348, 1349, 1350, 1351, 1352, 1353, 830, 831, 1354, 833, 834, 1355, 1356, 1357, 1358, 1359, 799, 801, 806, 807, 808, 1495, 1496, 1497, 1498, 1499, 1500, 1501, 1502, 1503, 1504, 1505, 1506, 1507, 1508, 1509, 1510, 1599, 1600, 1601, 1602, 1603, 1604, 1605, 1606, 1607, 1608, 1609, 1610, 1611, 1612, 1613, 1614, 1646, 1647, 1648, 1649, 1650, 1651, 1652, 1653, 1642, 1643, 1644, 1645, 1658, 1659, 1660, 1661, 1662, 1663, 1664, 1656, 1657] (by decide +kernel) (by decide +kernel)
set_option maxRecDepth 20000 in
theorem gL_law_X11_odds : GoodIn wsL_law (wsV RL 165 RX11 yX11_odds wsX11_odds) := goodIn_app (goodIn_of _ (by decide +kernel)) ggL_law_X11_odds
set_option maxRecDepth 20000 in
theorem ggL_law_X12_odds : GoodIn wsL_law wsX12_odds := goodIn_r _ [1399, 1364, 1365, 5, 1366, 690, 691, 692, 1367, 1368, 1369, 1370, 237, 238, 177, 1371, 1372, 1373, 1374, 191, 228, 1013, 1014, 1015, 1016, 981, 982, 983, 984, 985, 986, 987, 988, 226, 193, 194, 908, 909, 910, 911, 907, 199, 227, 200, 947, 948, 949, 950, 187, 188, 189, 190, 1375, 1376, 1377, 1378, 1379, 1380, 1381, 839, 840, 841, 816, 817, 818, 819, 820, 821, 1017, 1018, 1019, 1020, 192, 1021, 1022, 1023, 1511, 1512, 1513, 1514, 1515, 1516, 1517, 1518, 1519, 1520, 1521, 1522, 1523, 1524, 1525, 1526, 1527, 1528, 1529, 1530, 1531, 1532, 1533, 1534, 1535, 1536, 1537, 1538, 1539, 1540, 1541, 1542, 1543, 1544, 1545, 1546, 1547, 1548, 1549, 1550, 1551, 1552, 1553, 1554, 1555, 1556, 1557, 1558, 1559, 1560, 1561, 1562, 1563, 1564, 1565, 1566, 1567, 1568, 1569, 1570, 1571, 1572, 1573, 1574, 1575, 1576, 1577, 1578, 1579, 1580, 1581, 1582, 1583, 1584, 1585, 1586, 1587, 1588, 1589, 1590, 1591] (by decide +kernel) (by decide +kernel)
set_option maxRecDepth 20000 in
theorem gL_law_X12_odds : GoodIn wsL_law (wsV RL 168 RX12 yX12_odds wsX12_odds) := goodIn_app (goodIn_of _ (by decide +kernel)) ggL_law_X12_odds
set_option maxRecDepth 20000 in
theorem ggL_law_X11_counts : GoodIn wsL_law wsX11_counts := goodIn_r _ [1403, 1404, 803, 804, 805] (by decide +kernel) (by decide +kernel)
set_option maxRecDepth 20000 in
theorem gL_law_X11_counts : GoodIn wsL_law (wsV RL 169 RX11 yX11_counts wsX11_counts) := goodIn_app (goodIn_of _ (by decide +kernel)) ggL_law_X11_counts
set_option maxRecDepth 20000 in
theorem ggL_law_X12_counts : GoodIn wsL_law wsX12_counts := goodIn_r _ [1408, 690, 691, 5, 692, 1409, 1410, 1411, 819, 820, 821] (by decide +kernel) (by decide +kernel)
set_option maxRecDepth 20000 in
theorem gL_law_X12_counts : GoodIn wsL_law (wsV RL 172 RX12 yX12_counts wsX12_counts) := goodIn_app (goodIn_of _ (by decide +kernel)) ggL_law_X12_counts
set_option maxRecDepth 20000 in
theorem ggL_law_X11_anything : GoodIn wsL_law wsX11_anything := goodIn_r _ [1415, 56, 1416, 1417, 1418, 2, 1419, 1420, 807, 804, 808, 1421, 810, 811, 1404, 803, 805, 1225, 1226, 1227, 1228, 1495, 1496, 1497, 1498, 1499, 1500, 1501, 1502, 1503, 1504, 1505, 1506, 1507, 1508, 1509, 1510] (by decide +kernel) (by decide +kernel)
set_option maxRecDepth 20000 in
theorem gL_law_X11_anything : GoodIn wsL_law (wsV RL 173 RX11 yX11_anything wsX11_anything) := goodIn_app (goodIn_of _ (by decide +kernel)) ggL_law_X11_anything
set_option maxRecDepth 20000 in
theorem ggL_law_X12_anything : GoodIn wsL_law wsX12_anything := goodIn_r _ [1425, 690, 691, 5, 692, 1409, 1410, 1411, 819, 820, 821] (by decide +kernel) (by decide +kernel)
set_option maxRecDepth 20000 in
theorem gL_law_X12_anything : GoodIn wsL_law (wsV RL 176 RX12 yX12_anything wsX12_anything) := goodIn_app (goodIn_of _ (by decide +kernel)) ggL_law_X12_anything
set_option maxRecDepth 20000 in
theorem ggL_law_X11_life : GoodIn wsL_law wsX11_life := goodIn_r _ [1429, 960, 961, 2, 962] (by decide +kernel) (by decide +kernel)
set_option maxRecDepth 20000 in
theorem gL_law_X11_life : GoodIn wsL_law (wsV RL 177 RX11 yX11_life wsX11_life) := goodIn_app (goodIn_of _ (by decide +kernel)) ggL_law_X11_life
set_option maxRecDepth 20000 in
theorem ggL_law_X12_life : GoodIn wsL_law wsX12_life := goodIn_r _ [1433, 978, 979, 5, 980, 690, 691, 692] (by decide +kernel) (by decide +kernel)
set_option maxRecDepth 20000 in
theorem gL_law_X12_life : GoodIn wsL_law (wsV RL 180 RX12 yX12_life wsX12_life) := goodIn_app (goodIn_of _ (by decide +kernel)) ggL_law_X12_life
set_option maxRecDepth 20000 in
theorem ggL_law_X11_seen : GoodIn wsL_law wsX11_seen := goodIn_r _ [1437, 1311, 1312, 1313, 2, 1314, 1315, 1316, 1317] (by decide +kernel) (by decide +kernel)
set_option maxRecDepth 20000 in
theorem gL_law_X11_seen : GoodIn wsL_law (wsV RL 181 RX11 yX11_seen wsX11_seen) := goodIn_app (goodIn_of _ (by decide +kernel)) ggL_law_X11_seen
set_option maxRecDepth 20000 in
theorem ggL_law_X12_seen : GoodIn wsL_law wsX12_seen := goodIn_r _ [1441, 1322, 690, 691, 5, 692, 1323, 1324, 1325, 1326, 1327, 1328, 1329, 1330, 1331] (by decide +kernel) (by decide +kernel)
set_option maxRecDepth 20000 in
theorem gL_law_X12_seen : GoodIn wsL_law (wsV RL 185 RX12 yX12_seen wsX12_seen) := goodIn_app (goodIn_of _ (by decide +kernel)) ggL_law_X12_seen
set_option maxRecDepth 20000 in
theorem ggL_law_X11_say : GoodIn wsL_law wsX11_say := goodIn_r _ [1445, 34, 19, 28, 959, 38, 42, 846, 960, 961, 2, 962, 747, 748, 749, 750, 669, 751, 752, 753, 33, 754, 755, 127, 756, 128, 757, 758, 759, 760, 761, 129, 762, 130, 763, 131, 132, 764, 133, 765, 766, 767, 768, 769, 770, 771, 772, 773, 847, 848, 849, 850, 851, 852, 853, 854, 855, 856, 134, 857, 858, 859, 860, 861, 803, 804, 805, 862, 807, 808, 863, 864, 810, 811, 865, 799, 800, 801, 802, 806, 809, 866, 867, 868, 89, 869, 100, 97, 98, 95, 99, 96, 870, 871, 872, 873, 874, 875, 876, 877, 1001, 928, 929, 930, 994, 995, 996, 37, 997, 998, 141, 142, 143, 999, 1000, 964, 965, 966, 144, 967, 968, 969, 970, 971, 972, 973, 940, 941, 18, 942, 80, 81, 82, 83, 1044, 1045, 1046, 1047, 993, 1002, 1003, 1004, 1005, 1006, 1007, 1008, 1080, 1081, 1082, 1083, 1032, 1033, 1034, 1035, 922, 923, 924, 925, 135, 136, 137, 921, 926, 927, 1084, 1085, 1086, 41, 1087, 148, 1088, 1089, 1090, 372, 373, 374, 1091, 1092, 1093, 1094, 149, 1095, 1096, 1097, 1098, 1099, 150, 153, 154, 155, 1100, 1101, 1102, 1103, 1104, 1105, 1106, 1107, 878, 1495, 1496, 1497, 1498, 1499, 1500, 1501, 1502, 1503, 1504, 1505, 1506, 1507, 1508, 1509, 1510, 1599, 1600, 1601, 1602, 1603, 1604, 1605, 1606, 1607, 1608, 1609, 1610, 1611, 1612, 1613, 1614, 1631, 1632, 1633, 1634, 1635, 1636, 1637, 1638, 1639, 1640, 1641, 1624, 1625, 1626, 1627, 1628, 1629, 1630, 1658, 1659, 1660, 1661, 1662, 1663, 1664, 1642, 1643, 1644, 1645, 1646, 1647, 1648, 1649, 1650, 1651, 1652, 1653] (by decide +kernel) (by decide +kernel)
set_option maxRecDepth 20000 in
theorem gL_law_X11_say : GoodIn wsL_law (wsV RL 186 RX11 yX11_say wsX11_say) := goodIn_app (goodIn_of _ (by decide +kernel)) ggL_law_X11_say
set_option maxRecDepth 20000 in
theorem ggL_law_X12_say : GoodIn wsL_law wsX12_say := goodIn_r _ [1449, 222, 225, 223, 177, 191, 690, 691, 5, 692, 978, 979, 980, 778, 779, 780, 781, 208, 1056, 1057, 1058, 1059, 883, 884, 885, 886, 178, 221, 218, 219, 224, 195, 196, 197, 782, 783, 784, 785, 180, 211, 181, 212, 220, 182, 183, 786, 787, 788, 789, 209, 210, 790, 791, 792, 793, 816, 817, 818, 819, 820, 821, 887, 888, 889, 890, 226, 891, 892, 893, 894, 179, 895, 896, 897, 898, 184, 185, 186, 899, 900, 901, 902, 207, 903, 904, 905, 906, 204, 205, 907, 202, 206, 203, 908, 909, 910, 911, 199, 227, 200, 1013, 1014, 1015, 1016, 228, 981, 982, 983, 984, 985, 986, 987, 988, 193, 194, 947, 948, 949, 950, 187, 188, 189, 190, 1017, 1018, 1019, 1020, 192, 1021, 1022, 1023, 1112, 1113, 1114, 1115, 1060, 1061, 1062, 1063, 1064, 1065, 1066, 1511, 1512, 1513, 1514, 1515, 1516, 1517, 1518, 1519, 1520, 1521, 1522, 1523, 1524, 1525, 1526, 1527, 1528, 1529, 1530, 1531, 1532, 1533, 1534, 1535, 1536, 1537, 1538, 1539, 1540, 1541, 1542, 1543, 1544, 1545, 1546, 1547, 1548, 1549, 1550, 1551, 1552, 1553, 1554, 1555, 1556, 1557, 1558, 1559, 1560, 1561, 1562, 1563, 1564, 1565, 1566, 1567, 1568, 1569, 1570, 1571, 1572, 1573, 1574, 1575, 1576, 1577, 1578, 1579, 1580, 1581, 1582, 1583, 1584, 1585, 1586, 1587, 1588, 1589, 1590, 1591] (by decide +kernel) (by decide +kernel)
set_option maxRecDepth 20000 in
theorem gL_law_X12_say : GoodIn wsL_law (wsV RL 189 RX12 yX12_say wsX12_say) := goodIn_app (goodIn_of _ (by decide +kernel)) ggL_law_X12_say
set_option maxRecDepth 20000 in
theorem ggL_law_X11_hold : GoodIn wsL_law wsX11_hold := goodIn_r _ [1453, 29, 30, 16, 17, 18, 25, 26, 27, 19, 28, 69, 70, 71, 10, 11, 72, 73, 52, 74, 75, 76, 77, 78, 79, 80, 81, 82, 83, 84, 85, 86, 87, 88, 89, 90, 91, 92, 93, 94, 95, 96, 97, 98, 99, 100, 114, 115, 116, 117, 118, 119, 120, 121, 122, 123, 1454, 1455, 1456, 1457, 1458, 758, 759, 760, 1459, 1460, 1461, 1462, 1463, 1464, 1465, 1466, 1467, 1468, 1495, 1496, 1497, 1498, 1499, 1500, 1501, 1502, 1503, 1504, 1505, 1506, 1507, 1508, 1509, 1510, 1599, 1600, 1601, 1602, 1603, 1604, 1605, 1606, 1607, 1608, 1609, 1610, 1611, 1612, 1613, 1614, 1624, 1625, 1626, 1627, 1628, 1629, 1630, 1658, 1659, 1660, 1661, 1662, 1663, 1664] (by decide +kernel) (by decide +kernel)
set_option maxRecDepth 20000 in
theorem gL_law_X11_hold : GoodIn wsL_law (wsV RL 190 RX11 yX11_hold wsX11_hold) := goodIn_app (goodIn_of _ (by decide +kernel)) ggL_law_X11_hold
set_option maxRecDepth 20000 in
theorem ggL_law_X12_hold : GoodIn wsL_law wsX12_hold := goodIn_r _ [1472, 176, 652, 653, 654, 5, 655, 177, 178, 184, 187, 191, 195, 198, 201, 208, 179, 180, 181, 182, 183, 185, 186, 188, 189, 190, 192, 193, 194, 196, 197, 199, 200, 202, 203, 204, 205, 206, 207, 209, 210, 211, 212, 1511, 1512, 1513, 1514, 1515, 1516, 1517, 1518, 1519, 1520, 1521, 1522, 1523, 1524, 1525, 1526, 1527, 1528, 1529, 1530, 1531, 1532, 1533, 1534, 1535, 1536, 1537, 1538, 1539, 1540, 1541, 1542, 1543, 1544, 1545, 1546, 1547, 1548, 1549, 1550, 1551, 1552, 1553, 1554, 1555, 1556, 1557, 1558, 1559, 1560, 1561, 1562, 1563, 1564, 1565, 1566, 1567, 1568, 1569, 1570, 1571, 1572, 1573, 1574, 1575, 1576, 1577, 1578, 1579, 1580, 1581, 1582, 1583, 1584, 1585, 1586, 1587, 1588, 1589, 1590, 1591] (by decide +kernel) (by decide +kernel)
set_option maxRecDepth 20000 in
theorem gL_law_X12_hold : GoodIn wsL_law (wsV RL 194 RX12 yX12_hold wsX12_hold) := goodIn_app (goodIn_of _ (by decide +kernel)) ggL_law_X12_hold
set_option maxRecDepth 20000 in
theorem ggL_law_X11_again : GoodIn wsL_law wsX11_again := goodIn_r _ [1476, 29, 30, 19, 28, 1454, 1455, 1456, 18, 1457, 72, 73, 78, 80, 84, 86, 74, 1458, 758, 759, 760, 75, 76, 77, 79, 81, 82, 83, 85, 90, 1459, 1460, 1461, 89, 1462, 94, 95, 1463, 96, 97, 98, 1464, 1465, 1466, 27, 1467, 117, 118, 119, 1468, 120, 121, 122, 123, 1495, 1496, 1497, 1498, 1499, 1500, 1501, 1502, 1503, 1504, 1505, 1506, 1507, 1508, 1509, 1510, 1599, 1600, 1601, 1602, 1603, 1604, 1605, 1606, 1607, 1608, 1609, 1610, 1611, 1612, 1613, 1614, 1658, 1659, 1660, 1661, 1662, 1663, 1664, 1624, 1625, 1626, 1627, 1628, 1629, 1630] (by decide +kernel) (by decide +kernel)
set_option maxRecDepth 20000 in
theorem gL_law_X11_again : GoodIn wsL_law (wsV RL 195 RX11 yX11_again wsX11_again) := goodIn_app (goodIn_of _ (by decide +kernel)) ggL_law_X11_again
set_option maxRecDepth 20000 in
theorem ggL_law_X12_again : GoodIn wsL_law wsX12_again := goodIn_r _ [1480, 176, 652, 653, 654, 5, 655, 177, 178, 184, 187, 191, 195, 198, 201, 208, 179, 180, 181, 182, 183, 185, 186, 188, 189, 190, 192, 193, 194, 196, 197, 199, 200, 202, 203, 204, 205, 206, 207, 209, 210, 211, 212, 1511, 1512, 1513, 1514, 1515, 1516, 1517, 1518, 1519, 1520, 1521, 1522, 1523, 1524, 1525, 1526, 1527, 1528, 1529, 1530, 1531, 1532, 1533, 1534, 1535, 1536, 1537, 1538, 1539, 1540, 1541, 1542, 1543, 1544, 1545, 1546, 1547, 1548, 1549, 1550, 1551, 1552, 1553, 1554, 1555, 1556, 1557, 1558, 1559, 1560, 1561, 1562, 1563, 1564, 1565, 1566, 1567, 1568, 1569, 1570, 1571, 1572, 1573, 1574, 1575, 1576, 1577, 1578, 1579, 1580, 1581, 1582, 1583, 1584, 1585, 1586, 1587, 1588, 1589, 1590, 1591] (by decide +kernel) (by decide +kernel)
set_option maxRecDepth 20000 in
theorem gL_law_X12_again : GoodIn wsL_law (wsV RL 198 RX12 yX12_again wsX12_again) := goodIn_app (goodIn_of _ (by decide +kernel)) ggL_law_X12_again
set_option maxRecDepth 20000 in
theorem ggL_law_X11_count : GoodIn wsL_law wsX11_count := goodIn_r _ [1484, 19, 1485, 1486, 959, 1212, 993, 28, 669, 51, 15, 248, 671, 672, 673, 2, 674, 675, 670, 1487, 1488, 1489, 1490, 29, 1495, 1496, 1497, 1498, 1499, 1500, 1501, 1502, 1503, 1504, 1505, 1506, 1507, 1508, 1509, 1510, 1599, 1600, 1601, 1602, 1603, 1604, 1605, 1606, 1607, 1608, 1609, 1610, 1611, 1612, 1613, 1614, 1624, 1625, 1626, 1627, 1628, 1629, 1630, 1592, 1593, 1594, 1595, 1596, 1597, 1598] (by decide +kernel) (by decide +kernel)
set_option maxRecDepth 20000 in
theorem gL_law_X11_count : GoodIn wsL_law (wsV RL 199 RX11 yX11_count wsX11_count) := goodIn_app (goodIn_of _ (by decide +kernel)) ggL_law_X11_count
set_option maxRecDepth 20000 in
theorem ggL_law_X12_count : GoodIn wsL_law wsX12_count := goodIn_r _ [1494, 178, 184, 187, 191, 195, 177, 208, 1281, 257, 176, 1511, 1512, 1513, 1514, 1515, 1516, 1517, 1518, 1519, 1520, 1521, 1522, 1523, 1524, 1525, 1526, 1527, 1528, 1529, 1530, 1531, 1532, 1533, 1534, 1535, 1536, 1537, 1538, 1539, 1540, 1541, 1542, 1543, 1544, 1545, 1546, 1547, 1548, 1549, 1550, 1551, 1552, 1553, 1554, 1555, 1556, 1557, 1558, 1559, 1560, 1561, 1562, 1563, 1564, 1565, 1566, 1567, 1568, 1569, 1570, 1571, 1572, 1573, 1574, 1575, 1576, 1577, 1578, 1579, 1580, 1581, 1582, 1583, 1584, 1585, 1586, 1587, 1588, 1589, 1590, 1591] (by decide +kernel) (by decide +kernel)
set_option maxRecDepth 20000 in
theorem gL_law_X12_count : GoodIn wsL_law (wsV RL 202 RX12 yX12_count wsX12_count) := goodIn_app (goodIn_of _ (by decide +kernel)) ggL_law_X12_count
theorem dL_law_0 : decode cL_law 0 = .ok (.new 7, 3) := by decide +kernel
theorem dL_law_3 : decode cL_law 3 = .ok (.dup, 1) := by decide +kernel
theorem dL_law_4 : decode cL_law 4 = .ok (.invokespecial 9, 3) := by decide +kernel
theorem dL_law_7 : decode cL_law 7 = .ok (.astore_n 1, 1) := by decide +kernel
theorem dL_law_8 : decode cL_law 8 = .ok (.new 10, 3) := by decide +kernel
theorem dL_law_11 : decode cL_law 11 = .ok (.dup, 1) := by decide +kernel
theorem dL_law_12 : decode cL_law 12 = .ok (.invokespecial 12, 3) := by decide +kernel
theorem dL_law_15 : decode cL_law 15 = .ok (.astore_n 2, 1) := by decide +kernel
theorem dL_law_16 : decode cL_law 16 = .ok (.iconst 0, 1) := by decide +kernel
theorem dL_law_17 : decode cL_law 17 = .ok (.istore_n 3, 1) := by decide +kernel
theorem dL_law_18 : decode cL_law 18 = .ok (.iload_n 3, 1) := by decide +kernel
theorem dL_law_19 : decode cL_law 19 = .ok (.aload_n 0, 1) := by decide +kernel
theorem dL_law_20 : decode cL_law 20 = .ok (.arraylength, 1) := by decide +kernel
theorem dL_law_21 : decode cL_law 21 = .ok (.bipush 7, 2) := by decide +kernel
theorem dL_law_23 : decode cL_law 23 = .ok (.isub, 1) := by decide +kernel
theorem dL_law_24 : decode cL_law 24 = .ok (.if_icmp .gt 2106, 3) := by decide +kernel
theorem dL_law_27 : decode cL_law 27 = .ok (.aload_n 0, 1) := by decide +kernel
theorem dL_law_28 : decode cL_law 28 = .ok (.iload_n 3, 1) := by decide +kernel
theorem dL_law_29 : decode cL_law 29 = .ok (.iaload, 1) := by decide +kernel
theorem dL_law_30 : decode cL_law 30 = .ok (.bipush 63, 2) := by decide +kernel
theorem dL_law_32 : decode cL_law 32 = .ok (.iand, 1) := by decide +kernel
theorem dL_law_33 : decode cL_law 33 = .ok (.tableswitch 2091 0 43 #[191, 254, 277, 290, 303, 346, 389, 412, 445, 468, 511, 544, 577, 620, 669, 692, 725, 778, 857, 936, 979, 1022, 1065, 1108, 1141, 1204, 1257, 1320, 1395, 1438, 1471, 1484, 1543, 1577, 1620, 1683, 1746, 1809, 1872, 1925, 1979, 2022, 2045, 2068], 191) := by decide +kernel
theorem dL_law_224 : decode cL_law 224 = .ok (.aload_n 1, 1) := by decide +kernel
theorem dL_law_225 : decode cL_law 225 = .ok (.aload_n 0, 1) := by decide +kernel
theorem dL_law_226 : decode cL_law 226 = .ok (.iload_n 3, 1) := by decide +kernel
theorem dL_law_227 : decode cL_law 227 = .ok (.iconst 1, 1) := by decide +kernel
theorem dL_law_228 : decode cL_law 228 = .ok (.iadd, 1) := by decide +kernel
theorem dL_law_229 : decode cL_law 229 = .ok (.iaload, 1) := by decide +kernel
theorem dL_law_230 : decode cL_law 230 = .ok (.aload_n 0, 1) := by decide +kernel
theorem dL_law_231 : decode cL_law 231 = .ok (.iload_n 3, 1) := by decide +kernel
theorem dL_law_232 : decode cL_law 232 = .ok (.iconst 2, 1) := by decide +kernel
theorem dL_law_233 : decode cL_law 233 = .ok (.iadd, 1) := by decide +kernel
theorem dL_law_234 : decode cL_law 234 = .ok (.iaload, 1) := by decide +kernel
theorem dL_law_235 : decode cL_law 235 = .ok (.aload_n 0, 1) := by decide +kernel
theorem dL_law_236 : decode cL_law 236 = .ok (.iload_n 3, 1) := by decide +kernel
theorem dL_law_237 : decode cL_law 237 = .ok (.iconst 3, 1) := by decide +kernel
theorem dL_law_238 : decode cL_law 238 = .ok (.iadd, 1) := by decide +kernel
theorem dL_law_239 : decode cL_law 239 = .ok (.iaload, 1) := by decide +kernel
theorem dL_law_240 : decode cL_law 240 = .ok (.aload_n 0, 1) := by decide +kernel
theorem dL_law_241 : decode cL_law 241 = .ok (.iload_n 3, 1) := by decide +kernel
theorem dL_law_242 : decode cL_law 242 = .ok (.iconst 4, 1) := by decide +kernel
theorem dL_law_243 : decode cL_law 243 = .ok (.iadd, 1) := by decide +kernel
theorem dL_law_244 : decode cL_law 244 = .ok (.iaload, 1) := by decide +kernel
theorem dL_law_245 : decode cL_law 245 = .ok (.aload_n 0, 1) := by decide +kernel
theorem dL_law_246 : decode cL_law 246 = .ok (.iload_n 3, 1) := by decide +kernel
theorem dL_law_247 : decode cL_law 247 = .ok (.iconst 5, 1) := by decide +kernel
theorem dL_law_248 : decode cL_law 248 = .ok (.iadd, 1) := by decide +kernel
theorem dL_law_249 : decode cL_law 249 = .ok (.iaload, 1) := by decide +kernel
theorem dL_law_250 : decode cL_law 250 = .ok (.invokevirtual 13, 3) := by decide +kernel
theorem dL_law_253 : decode cL_law 253 = .ok (.aload_n 2, 1) := by decide +kernel
theorem dL_law_254 : decode cL_law 254 = .ok (.aload_n 0, 1) := by decide +kernel
theorem dL_law_255 : decode cL_law 255 = .ok (.iload_n 3, 1) := by decide +kernel
theorem dL_law_256 : decode cL_law 256 = .ok (.iconst 1, 1) := by decide +kernel
theorem dL_law_257 : decode cL_law 257 = .ok (.iadd, 1) := by decide +kernel
theorem dL_law_258 : decode cL_law 258 = .ok (.iaload, 1) := by decide +kernel
theorem dL_law_259 : decode cL_law 259 = .ok (.aload_n 0, 1) := by decide +kernel
theorem dL_law_260 : decode cL_law 260 = .ok (.iload_n 3, 1) := by decide +kernel
theorem dL_law_261 : decode cL_law 261 = .ok (.iconst 2, 1) := by decide +kernel
theorem dL_law_262 : decode cL_law 262 = .ok (.iadd, 1) := by decide +kernel
theorem dL_law_263 : decode cL_law 263 = .ok (.iaload, 1) := by decide +kernel
theorem dL_law_264 : decode cL_law 264 = .ok (.aload_n 0, 1) := by decide +kernel
theorem dL_law_265 : decode cL_law 265 = .ok (.iload_n 3, 1) := by decide +kernel
theorem dL_law_266 : decode cL_law 266 = .ok (.iconst 3, 1) := by decide +kernel
theorem dL_law_267 : decode cL_law 267 = .ok (.iadd, 1) := by decide +kernel
theorem dL_law_268 : decode cL_law 268 = .ok (.iaload, 1) := by decide +kernel
theorem dL_law_269 : decode cL_law 269 = .ok (.aload_n 0, 1) := by decide +kernel
theorem dL_law_270 : decode cL_law 270 = .ok (.iload_n 3, 1) := by decide +kernel
theorem dL_law_271 : decode cL_law 271 = .ok (.iconst 4, 1) := by decide +kernel
theorem dL_law_272 : decode cL_law 272 = .ok (.iadd, 1) := by decide +kernel
theorem dL_law_273 : decode cL_law 273 = .ok (.iaload, 1) := by decide +kernel
theorem dL_law_274 : decode cL_law 274 = .ok (.aload_n 0, 1) := by decide +kernel
theorem dL_law_275 : decode cL_law 275 = .ok (.iload_n 3, 1) := by decide +kernel
theorem dL_law_276 : decode cL_law 276 = .ok (.iconst 5, 1) := by decide +kernel
theorem dL_law_277 : decode cL_law 277 = .ok (.iadd, 1) := by decide +kernel
theorem dL_law_278 : decode cL_law 278 = .ok (.iaload, 1) := by decide +kernel
theorem dL_law_279 : decode cL_law 279 = .ok (.invokevirtual 17, 3) := by decide +kernel
theorem dL_law_282 : decode cL_law 282 = .ok (.if_icmp .eq 1842, 3) := by decide +kernel
theorem dL_law_285 : decode cL_law 285 = .ok (.iconst 0, 1) := by decide +kernel
theorem dL_law_286 : decode cL_law 286 = .ok (.ireturn, 1) := by decide +kernel
theorem dL_law_287 : decode cL_law 287 = .ok (.aload_n 1, 1) := by decide +kernel
theorem dL_law_288 : decode cL_law 288 = .ok (.aload_n 0, 1) := by decide +kernel
theorem dL_law_289 : decode cL_law 289 = .ok (.iload_n 3, 1) := by decide +kernel
theorem dL_law_290 : decode cL_law 290 = .ok (.iconst 1, 1) := by decide +kernel
theorem dL_law_291 : decode cL_law 291 = .ok (.iadd, 1) := by decide +kernel
theorem dL_law_292 : decode cL_law 292 = .ok (.iaload, 1) := by decide +kernel
theorem dL_law_293 : decode cL_law 293 = .ok (.invokevirtual 18, 3) := by decide +kernel
theorem dL_law_296 : decode cL_law 296 = .ok (.aload_n 2, 1) := by decide +kernel
theorem dL_law_297 : decode cL_law 297 = .ok (.aload_n 0, 1) := by decide +kernel
theorem dL_law_298 : decode cL_law 298 = .ok (.iload_n 3, 1) := by decide +kernel
theorem dL_law_299 : decode cL_law 299 = .ok (.iconst 1, 1) := by decide +kernel
theorem dL_law_300 : decode cL_law 300 = .ok (.iadd, 1) := by decide +kernel
theorem dL_law_301 : decode cL_law 301 = .ok (.iaload, 1) := by decide +kernel
theorem dL_law_302 : decode cL_law 302 = .ok (.invokevirtual 22, 3) := by decide +kernel
theorem dL_law_305 : decode cL_law 305 = .ok (.if_icmp .eq 1819, 3) := by decide +kernel
theorem dL_law_308 : decode cL_law 308 = .ok (.iconst 0, 1) := by decide +kernel
theorem dL_law_309 : decode cL_law 309 = .ok (.ireturn, 1) := by decide +kernel
theorem dL_law_310 : decode cL_law 310 = .ok (.aload_n 1, 1) := by decide +kernel
theorem dL_law_311 : decode cL_law 311 = .ok (.invokevirtual 23, 3) := by decide +kernel
theorem dL_law_314 : decode cL_law 314 = .ok (.aload_n 2, 1) := by decide +kernel
theorem dL_law_315 : decode cL_law 315 = .ok (.invokevirtual 27, 3) := by decide +kernel
theorem dL_law_318 : decode cL_law 318 = .ok (.if_icmp .eq 1806, 3) := by decide +kernel
theorem dL_law_321 : decode cL_law 321 = .ok (.iconst 0, 1) := by decide +kernel
theorem dL_law_322 : decode cL_law 322 = .ok (.ireturn, 1) := by decide +kernel
theorem dL_law_323 : decode cL_law 323 = .ok (.aload_n 1, 1) := by decide +kernel
theorem dL_law_324 : decode cL_law 324 = .ok (.invokevirtual 28, 3) := by decide +kernel
theorem dL_law_327 : decode cL_law 327 = .ok (.aload_n 2, 1) := by decide +kernel
theorem dL_law_328 : decode cL_law 328 = .ok (.invokevirtual 31, 3) := by decide +kernel
theorem dL_law_331 : decode cL_law 331 = .ok (.if_icmp .eq 1793, 3) := by decide +kernel
theorem dL_law_334 : decode cL_law 334 = .ok (.iconst 0, 1) := by decide +kernel
theorem dL_law_335 : decode cL_law 335 = .ok (.ireturn, 1) := by decide +kernel
theorem dL_law_336 : decode cL_law 336 = .ok (.aload_n 1, 1) := by decide +kernel
theorem dL_law_337 : decode cL_law 337 = .ok (.aload_n 0, 1) := by decide +kernel
theorem dL_law_338 : decode cL_law 338 = .ok (.iload_n 3, 1) := by decide +kernel
theorem dL_law_339 : decode cL_law 339 = .ok (.iconst 1, 1) := by decide +kernel
theorem dL_law_340 : decode cL_law 340 = .ok (.iadd, 1) := by decide +kernel
theorem dL_law_341 : decode cL_law 341 = .ok (.iaload, 1) := by decide +kernel
theorem dL_law_342 : decode cL_law 342 = .ok (.aload_n 0, 1) := by decide +kernel
theorem dL_law_343 : decode cL_law 343 = .ok (.iload_n 3, 1) := by decide +kernel
theorem dL_law_344 : decode cL_law 344 = .ok (.iconst 2, 1) := by decide +kernel
theorem dL_law_345 : decode cL_law 345 = .ok (.iadd, 1) := by decide +kernel
theorem dL_law_346 : decode cL_law 346 = .ok (.iaload, 1) := by decide +kernel
theorem dL_law_347 : decode cL_law 347 = .ok (.aload_n 0, 1) := by decide +kernel
theorem dL_law_348 : decode cL_law 348 = .ok (.iload_n 3, 1) := by decide +kernel
theorem dL_law_349 : decode cL_law 349 = .ok (.iconst 3, 1) := by decide +kernel
theorem dL_law_350 : decode cL_law 350 = .ok (.iadd, 1) := by decide +kernel
theorem dL_law_351 : decode cL_law 351 = .ok (.iaload, 1) := by decide +kernel
theorem dL_law_352 : decode cL_law 352 = .ok (.invokevirtual 32, 3) := by decide +kernel
theorem dL_law_355 : decode cL_law 355 = .ok (.aload_n 2, 1) := by decide +kernel
theorem dL_law_356 : decode cL_law 356 = .ok (.aload_n 0, 1) := by decide +kernel
theorem dL_law_357 : decode cL_law 357 = .ok (.iload_n 3, 1) := by decide +kernel
theorem dL_law_358 : decode cL_law 358 = .ok (.iconst 1, 1) := by decide +kernel
theorem dL_law_359 : decode cL_law 359 = .ok (.iadd, 1) := by decide +kernel
theorem dL_law_360 : decode cL_law 360 = .ok (.iaload, 1) := by decide +kernel
theorem dL_law_361 : decode cL_law 361 = .ok (.aload_n 0, 1) := by decide +kernel
theorem dL_law_362 : decode cL_law 362 = .ok (.iload_n 3, 1) := by decide +kernel
theorem dL_law_363 : decode cL_law 363 = .ok (.iconst 2, 1) := by decide +kernel
theorem dL_law_364 : decode cL_law 364 = .ok (.iadd, 1) := by decide +kernel
theorem dL_law_365 : decode cL_law 365 = .ok (.iaload, 1) := by decide +kernel
theorem dL_law_366 : decode cL_law 366 = .ok (.aload_n 0, 1) := by decide +kernel
theorem dL_law_367 : decode cL_law 367 = .ok (.iload_n 3, 1) := by decide +kernel
theorem dL_law_368 : decode cL_law 368 = .ok (.iconst 3, 1) := by decide +kernel
theorem dL_law_369 : decode cL_law 369 = .ok (.iadd, 1) := by decide +kernel
theorem dL_law_370 : decode cL_law 370 = .ok (.iaload, 1) := by decide +kernel
theorem dL_law_371 : decode cL_law 371 = .ok (.invokevirtual 36, 3) := by decide +kernel
theorem dL_law_374 : decode cL_law 374 = .ok (.if_icmp .eq 1750, 3) := by decide +kernel
theorem dL_law_377 : decode cL_law 377 = .ok (.iconst 0, 1) := by decide +kernel
theorem dL_law_378 : decode cL_law 378 = .ok (.ireturn, 1) := by decide +kernel
theorem dL_law_379 : decode cL_law 379 = .ok (.aload_n 1, 1) := by decide +kernel
theorem dL_law_380 : decode cL_law 380 = .ok (.aload_n 0, 1) := by decide +kernel
theorem dL_law_381 : decode cL_law 381 = .ok (.iload_n 3, 1) := by decide +kernel
theorem dL_law_382 : decode cL_law 382 = .ok (.iconst 1, 1) := by decide +kernel
theorem dL_law_383 : decode cL_law 383 = .ok (.iadd, 1) := by decide +kernel
theorem dL_law_384 : decode cL_law 384 = .ok (.iaload, 1) := by decide +kernel
theorem dL_law_385 : decode cL_law 385 = .ok (.aload_n 0, 1) := by decide +kernel
theorem dL_law_386 : decode cL_law 386 = .ok (.iload_n 3, 1) := by decide +kernel
theorem dL_law_387 : decode cL_law 387 = .ok (.iconst 2, 1) := by decide +kernel
theorem dL_law_388 : decode cL_law 388 = .ok (.iadd, 1) := by decide +kernel
theorem dL_law_389 : decode cL_law 389 = .ok (.iaload, 1) := by decide +kernel
theorem dL_law_390 : decode cL_law 390 = .ok (.aload_n 0, 1) := by decide +kernel
theorem dL_law_391 : decode cL_law 391 = .ok (.iload_n 3, 1) := by decide +kernel
theorem dL_law_392 : decode cL_law 392 = .ok (.iconst 3, 1) := by decide +kernel
theorem dL_law_393 : decode cL_law 393 = .ok (.iadd, 1) := by decide +kernel
theorem dL_law_394 : decode cL_law 394 = .ok (.iaload, 1) := by decide +kernel
theorem dL_law_395 : decode cL_law 395 = .ok (.invokevirtual 37, 3) := by decide +kernel
theorem dL_law_398 : decode cL_law 398 = .ok (.aload_n 2, 1) := by decide +kernel
theorem dL_law_399 : decode cL_law 399 = .ok (.aload_n 0, 1) := by decide +kernel
theorem dL_law_400 : decode cL_law 400 = .ok (.iload_n 3, 1) := by decide +kernel
theorem dL_law_401 : decode cL_law 401 = .ok (.iconst 1, 1) := by decide +kernel
theorem dL_law_402 : decode cL_law 402 = .ok (.iadd, 1) := by decide +kernel
theorem dL_law_403 : decode cL_law 403 = .ok (.iaload, 1) := by decide +kernel
theorem dL_law_404 : decode cL_law 404 = .ok (.aload_n 0, 1) := by decide +kernel
theorem dL_law_405 : decode cL_law 405 = .ok (.iload_n 3, 1) := by decide +kernel
theorem dL_law_406 : decode cL_law 406 = .ok (.iconst 2, 1) := by decide +kernel
theorem dL_law_407 : decode cL_law 407 = .ok (.iadd, 1) := by decide +kernel
theorem dL_law_408 : decode cL_law 408 = .ok (.iaload, 1) := by decide +kernel
theorem dL_law_409 : decode cL_law 409 = .ok (.aload_n 0, 1) := by decide +kernel
theorem dL_law_410 : decode cL_law 410 = .ok (.iload_n 3, 1) := by decide +kernel
theorem dL_law_411 : decode cL_law 411 = .ok (.iconst 3, 1) := by decide +kernel
theorem dL_law_412 : decode cL_law 412 = .ok (.iadd, 1) := by decide +kernel
theorem dL_law_413 : decode cL_law 413 = .ok (.iaload, 1) := by decide +kernel
theorem dL_law_414 : decode cL_law 414 = .ok (.invokevirtual 40, 3) := by decide +kernel
theorem dL_law_417 : decode cL_law 417 = .ok (.if_icmp .eq 1707, 3) := by decide +kernel
theorem dL_law_420 : decode cL_law 420 = .ok (.iconst 0, 1) := by decide +kernel
theorem dL_law_421 : decode cL_law 421 = .ok (.ireturn, 1) := by decide +kernel
theorem dL_law_422 : decode cL_law 422 = .ok (.aload_n 1, 1) := by decide +kernel
theorem dL_law_423 : decode cL_law 423 = .ok (.aload_n 0, 1) := by decide +kernel
theorem dL_law_424 : decode cL_law 424 = .ok (.iload_n 3, 1) := by decide +kernel
theorem dL_law_425 : decode cL_law 425 = .ok (.iconst 1, 1) := by decide +kernel
theorem dL_law_426 : decode cL_law 426 = .ok (.iadd, 1) := by decide +kernel
theorem dL_law_427 : decode cL_law 427 = .ok (.iaload, 1) := by decide +kernel
theorem dL_law_428 : decode cL_law 428 = .ok (.invokevirtual 41, 3) := by decide +kernel
theorem dL_law_431 : decode cL_law 431 = .ok (.aload_n 2, 1) := by decide +kernel
theorem dL_law_432 : decode cL_law 432 = .ok (.aload_n 0, 1) := by decide +kernel
theorem dL_law_433 : decode cL_law 433 = .ok (.iload_n 3, 1) := by decide +kernel
theorem dL_law_434 : decode cL_law 434 = .ok (.iconst 1, 1) := by decide +kernel
theorem dL_law_435 : decode cL_law 435 = .ok (.iadd, 1) := by decide +kernel
theorem dL_law_436 : decode cL_law 436 = .ok (.iaload, 1) := by decide +kernel
theorem dL_law_437 : decode cL_law 437 = .ok (.invokevirtual 44, 3) := by decide +kernel
theorem dL_law_440 : decode cL_law 440 = .ok (.if_icmp .eq 1684, 3) := by decide +kernel
theorem dL_law_443 : decode cL_law 443 = .ok (.iconst 0, 1) := by decide +kernel
theorem dL_law_444 : decode cL_law 444 = .ok (.ireturn, 1) := by decide +kernel
theorem dL_law_445 : decode cL_law 445 = .ok (.aload_n 1, 1) := by decide +kernel
theorem dL_law_446 : decode cL_law 446 = .ok (.aload_n 0, 1) := by decide +kernel
theorem dL_law_447 : decode cL_law 447 = .ok (.iload_n 3, 1) := by decide +kernel
theorem dL_law_448 : decode cL_law 448 = .ok (.iconst 1, 1) := by decide +kernel
theorem dL_law_449 : decode cL_law 449 = .ok (.iadd, 1) := by decide +kernel
theorem dL_law_450 : decode cL_law 450 = .ok (.iaload, 1) := by decide +kernel
theorem dL_law_451 : decode cL_law 451 = .ok (.aload_n 0, 1) := by decide +kernel
theorem dL_law_452 : decode cL_law 452 = .ok (.iload_n 3, 1) := by decide +kernel
theorem dL_law_453 : decode cL_law 453 = .ok (.iconst 2, 1) := by decide +kernel
theorem dL_law_454 : decode cL_law 454 = .ok (.iadd, 1) := by decide +kernel
theorem dL_law_455 : decode cL_law 455 = .ok (.iaload, 1) := by decide +kernel
theorem dL_law_456 : decode cL_law 456 = .ok (.invokevirtual 45, 3) := by decide +kernel
theorem dL_law_459 : decode cL_law 459 = .ok (.aload_n 2, 1) := by decide +kernel
theorem dL_law_460 : decode cL_law 460 = .ok (.aload_n 0, 1) := by decide +kernel
theorem dL_law_461 : decode cL_law 461 = .ok (.iload_n 3, 1) := by decide +kernel
theorem dL_law_462 : decode cL_law 462 = .ok (.iconst 1, 1) := by decide +kernel
theorem dL_law_463 : decode cL_law 463 = .ok (.iadd, 1) := by decide +kernel
theorem dL_law_464 : decode cL_law 464 = .ok (.iaload, 1) := by decide +kernel
theorem dL_law_465 : decode cL_law 465 = .ok (.aload_n 0, 1) := by decide +kernel
theorem dL_law_466 : decode cL_law 466 = .ok (.iload_n 3, 1) := by decide +kernel
theorem dL_law_467 : decode cL_law 467 = .ok (.iconst 2, 1) := by decide +kernel
theorem dL_law_468 : decode cL_law 468 = .ok (.iadd, 1) := by decide +kernel
theorem dL_law_469 : decode cL_law 469 = .ok (.iaload, 1) := by decide +kernel
theorem dL_law_470 : decode cL_law 470 = .ok (.invokevirtual 49, 3) := by decide +kernel
theorem dL_law_473 : decode cL_law 473 = .ok (.if_icmp .eq 1651, 3) := by decide +kernel
theorem dL_law_476 : decode cL_law 476 = .ok (.iconst 0, 1) := by decide +kernel
theorem dL_law_477 : decode cL_law 477 = .ok (.ireturn, 1) := by decide +kernel
theorem dL_law_478 : decode cL_law 478 = .ok (.aload_n 1, 1) := by decide +kernel
theorem dL_law_479 : decode cL_law 479 = .ok (.aload_n 0, 1) := by decide +kernel
theorem dL_law_480 : decode cL_law 480 = .ok (.iload_n 3, 1) := by decide +kernel
theorem dL_law_481 : decode cL_law 481 = .ok (.iconst 1, 1) := by decide +kernel
theorem dL_law_482 : decode cL_law 482 = .ok (.iadd, 1) := by decide +kernel
theorem dL_law_483 : decode cL_law 483 = .ok (.iaload, 1) := by decide +kernel
theorem dL_law_484 : decode cL_law 484 = .ok (.invokevirtual 50, 3) := by decide +kernel
theorem dL_law_487 : decode cL_law 487 = .ok (.aload_n 2, 1) := by decide +kernel
theorem dL_law_488 : decode cL_law 488 = .ok (.aload_n 0, 1) := by decide +kernel
theorem dL_law_489 : decode cL_law 489 = .ok (.iload_n 3, 1) := by decide +kernel
theorem dL_law_490 : decode cL_law 490 = .ok (.iconst 1, 1) := by decide +kernel
theorem dL_law_491 : decode cL_law 491 = .ok (.iadd, 1) := by decide +kernel
theorem dL_law_492 : decode cL_law 492 = .ok (.iaload, 1) := by decide +kernel
theorem dL_law_493 : decode cL_law 493 = .ok (.invokevirtual 53, 3) := by decide +kernel
theorem dL_law_496 : decode cL_law 496 = .ok (.if_icmp .eq 1628, 3) := by decide +kernel
theorem dL_law_499 : decode cL_law 499 = .ok (.iconst 0, 1) := by decide +kernel
theorem dL_law_500 : decode cL_law 500 = .ok (.ireturn, 1) := by decide +kernel
theorem dL_law_501 : decode cL_law 501 = .ok (.aload_n 1, 1) := by decide +kernel
theorem dL_law_502 : decode cL_law 502 = .ok (.aload_n 0, 1) := by decide +kernel
theorem dL_law_503 : decode cL_law 503 = .ok (.iload_n 3, 1) := by decide +kernel
theorem dL_law_504 : decode cL_law 504 = .ok (.iconst 1, 1) := by decide +kernel
theorem dL_law_505 : decode cL_law 505 = .ok (.iadd, 1) := by decide +kernel
theorem dL_law_506 : decode cL_law 506 = .ok (.iaload, 1) := by decide +kernel
theorem dL_law_507 : decode cL_law 507 = .ok (.aload_n 0, 1) := by decide +kernel
theorem dL_law_508 : decode cL_law 508 = .ok (.iload_n 3, 1) := by decide +kernel
theorem dL_law_509 : decode cL_law 509 = .ok (.iconst 2, 1) := by decide +kernel
theorem dL_law_510 : decode cL_law 510 = .ok (.iadd, 1) := by decide +kernel
theorem dL_law_511 : decode cL_law 511 = .ok (.iaload, 1) := by decide +kernel
theorem dL_law_512 : decode cL_law 512 = .ok (.aload_n 0, 1) := by decide +kernel
theorem dL_law_513 : decode cL_law 513 = .ok (.iload_n 3, 1) := by decide +kernel
theorem dL_law_514 : decode cL_law 514 = .ok (.iconst 3, 1) := by decide +kernel
theorem dL_law_515 : decode cL_law 515 = .ok (.iadd, 1) := by decide +kernel
theorem dL_law_516 : decode cL_law 516 = .ok (.iaload, 1) := by decide +kernel
theorem dL_law_517 : decode cL_law 517 = .ok (.invokevirtual 54, 3) := by decide +kernel
theorem dL_law_520 : decode cL_law 520 = .ok (.aload_n 2, 1) := by decide +kernel
theorem dL_law_521 : decode cL_law 521 = .ok (.aload_n 0, 1) := by decide +kernel
theorem dL_law_522 : decode cL_law 522 = .ok (.iload_n 3, 1) := by decide +kernel
theorem dL_law_523 : decode cL_law 523 = .ok (.iconst 1, 1) := by decide +kernel
theorem dL_law_524 : decode cL_law 524 = .ok (.iadd, 1) := by decide +kernel
theorem dL_law_525 : decode cL_law 525 = .ok (.iaload, 1) := by decide +kernel
theorem dL_law_526 : decode cL_law 526 = .ok (.aload_n 0, 1) := by decide +kernel
theorem dL_law_527 : decode cL_law 527 = .ok (.iload_n 3, 1) := by decide +kernel
theorem dL_law_528 : decode cL_law 528 = .ok (.iconst 2, 1) := by decide +kernel
theorem dL_law_529 : decode cL_law 529 = .ok (.iadd, 1) := by decide +kernel
theorem dL_law_530 : decode cL_law 530 = .ok (.iaload, 1) := by decide +kernel
theorem dL_law_531 : decode cL_law 531 = .ok (.aload_n 0, 1) := by decide +kernel
theorem dL_law_532 : decode cL_law 532 = .ok (.iload_n 3, 1) := by decide +kernel
theorem dL_law_533 : decode cL_law 533 = .ok (.iconst 3, 1) := by decide +kernel
theorem dL_law_534 : decode cL_law 534 = .ok (.iadd, 1) := by decide +kernel
theorem dL_law_535 : decode cL_law 535 = .ok (.iaload, 1) := by decide +kernel
theorem dL_law_536 : decode cL_law 536 = .ok (.invokevirtual 57, 3) := by decide +kernel
theorem dL_law_539 : decode cL_law 539 = .ok (.if_icmp .eq 1585, 3) := by decide +kernel
theorem dL_law_542 : decode cL_law 542 = .ok (.iconst 0, 1) := by decide +kernel
theorem dL_law_543 : decode cL_law 543 = .ok (.ireturn, 1) := by decide +kernel
theorem dL_law_544 : decode cL_law 544 = .ok (.aload_n 1, 1) := by decide +kernel
theorem dL_law_545 : decode cL_law 545 = .ok (.aload_n 0, 1) := by decide +kernel
theorem dL_law_546 : decode cL_law 546 = .ok (.iload_n 3, 1) := by decide +kernel
theorem dL_law_547 : decode cL_law 547 = .ok (.iconst 1, 1) := by decide +kernel
theorem dL_law_548 : decode cL_law 548 = .ok (.iadd, 1) := by decide +kernel
theorem dL_law_549 : decode cL_law 549 = .ok (.iaload, 1) := by decide +kernel
theorem dL_law_550 : decode cL_law 550 = .ok (.aload_n 0, 1) := by decide +kernel
theorem dL_law_551 : decode cL_law 551 = .ok (.iload_n 3, 1) := by decide +kernel
theorem dL_law_552 : decode cL_law 552 = .ok (.iconst 2, 1) := by decide +kernel
theorem dL_law_553 : decode cL_law 553 = .ok (.iadd, 1) := by decide +kernel
theorem dL_law_554 : decode cL_law 554 = .ok (.iaload, 1) := by decide +kernel
theorem dL_law_555 : decode cL_law 555 = .ok (.invokevirtual 58, 3) := by decide +kernel
theorem dL_law_558 : decode cL_law 558 = .ok (.aload_n 2, 1) := by decide +kernel
theorem dL_law_559 : decode cL_law 559 = .ok (.aload_n 0, 1) := by decide +kernel
theorem dL_law_560 : decode cL_law 560 = .ok (.iload_n 3, 1) := by decide +kernel
theorem dL_law_561 : decode cL_law 561 = .ok (.iconst 1, 1) := by decide +kernel
theorem dL_law_562 : decode cL_law 562 = .ok (.iadd, 1) := by decide +kernel
theorem dL_law_563 : decode cL_law 563 = .ok (.iaload, 1) := by decide +kernel
theorem dL_law_564 : decode cL_law 564 = .ok (.aload_n 0, 1) := by decide +kernel
theorem dL_law_565 : decode cL_law 565 = .ok (.iload_n 3, 1) := by decide +kernel
theorem dL_law_566 : decode cL_law 566 = .ok (.iconst 2, 1) := by decide +kernel
theorem dL_law_567 : decode cL_law 567 = .ok (.iadd, 1) := by decide +kernel
theorem dL_law_568 : decode cL_law 568 = .ok (.iaload, 1) := by decide +kernel
theorem dL_law_569 : decode cL_law 569 = .ok (.invokevirtual 61, 3) := by decide +kernel
theorem dL_law_572 : decode cL_law 572 = .ok (.if_icmp .eq 1552, 3) := by decide +kernel
theorem dL_law_575 : decode cL_law 575 = .ok (.iconst 0, 1) := by decide +kernel
theorem dL_law_576 : decode cL_law 576 = .ok (.ireturn, 1) := by decide +kernel
theorem dL_law_577 : decode cL_law 577 = .ok (.aload_n 1, 1) := by decide +kernel
theorem dL_law_578 : decode cL_law 578 = .ok (.aload_n 0, 1) := by decide +kernel
theorem dL_law_579 : decode cL_law 579 = .ok (.iload_n 3, 1) := by decide +kernel
theorem dL_law_580 : decode cL_law 580 = .ok (.iconst 1, 1) := by decide +kernel
theorem dL_law_581 : decode cL_law 581 = .ok (.iadd, 1) := by decide +kernel
theorem dL_law_582 : decode cL_law 582 = .ok (.iaload, 1) := by decide +kernel
theorem dL_law_583 : decode cL_law 583 = .ok (.aload_n 0, 1) := by decide +kernel
theorem dL_law_584 : decode cL_law 584 = .ok (.iload_n 3, 1) := by decide +kernel
theorem dL_law_585 : decode cL_law 585 = .ok (.iconst 2, 1) := by decide +kernel
theorem dL_law_586 : decode cL_law 586 = .ok (.iadd, 1) := by decide +kernel
theorem dL_law_587 : decode cL_law 587 = .ok (.iaload, 1) := by decide +kernel
theorem dL_law_588 : decode cL_law 588 = .ok (.invokevirtual 62, 3) := by decide +kernel
theorem dL_law_591 : decode cL_law 591 = .ok (.aload_n 2, 1) := by decide +kernel
theorem dL_law_592 : decode cL_law 592 = .ok (.aload_n 0, 1) := by decide +kernel
theorem dL_law_593 : decode cL_law 593 = .ok (.iload_n 3, 1) := by decide +kernel
theorem dL_law_594 : decode cL_law 594 = .ok (.iconst 1, 1) := by decide +kernel
theorem dL_law_595 : decode cL_law 595 = .ok (.iadd, 1) := by decide +kernel
theorem dL_law_596 : decode cL_law 596 = .ok (.iaload, 1) := by decide +kernel
theorem dL_law_597 : decode cL_law 597 = .ok (.aload_n 0, 1) := by decide +kernel
theorem dL_law_598 : decode cL_law 598 = .ok (.iload_n 3, 1) := by decide +kernel
theorem dL_law_599 : decode cL_law 599 = .ok (.iconst 2, 1) := by decide +kernel
theorem dL_law_600 : decode cL_law 600 = .ok (.iadd, 1) := by decide +kernel
theorem dL_law_601 : decode cL_law 601 = .ok (.iaload, 1) := by decide +kernel
theorem dL_law_602 : decode cL_law 602 = .ok (.invokevirtual 65, 3) := by decide +kernel
theorem dL_law_605 : decode cL_law 605 = .ok (.if_icmp .eq 1519, 3) := by decide +kernel
theorem dL_law_608 : decode cL_law 608 = .ok (.iconst 0, 1) := by decide +kernel
theorem dL_law_609 : decode cL_law 609 = .ok (.ireturn, 1) := by decide +kernel
theorem dL_law_610 : decode cL_law 610 = .ok (.aload_n 1, 1) := by decide +kernel
theorem dL_law_611 : decode cL_law 611 = .ok (.aload_n 0, 1) := by decide +kernel
theorem dL_law_612 : decode cL_law 612 = .ok (.iload_n 3, 1) := by decide +kernel
theorem dL_law_613 : decode cL_law 613 = .ok (.iconst 1, 1) := by decide +kernel
theorem dL_law_614 : decode cL_law 614 = .ok (.iadd, 1) := by decide +kernel
theorem dL_law_615 : decode cL_law 615 = .ok (.iaload, 1) := by decide +kernel
theorem dL_law_616 : decode cL_law 616 = .ok (.aload_n 0, 1) := by decide +kernel
theorem dL_law_617 : decode cL_law 617 = .ok (.iload_n 3, 1) := by decide +kernel
theorem dL_law_618 : decode cL_law 618 = .ok (.iconst 2, 1) := by decide +kernel
theorem dL_law_619 : decode cL_law 619 = .ok (.iadd, 1) := by decide +kernel
theorem dL_law_620 : decode cL_law 620 = .ok (.iaload, 1) := by decide +kernel
theorem dL_law_621 : decode cL_law 621 = .ok (.aload_n 0, 1) := by decide +kernel
theorem dL_law_622 : decode cL_law 622 = .ok (.iload_n 3, 1) := by decide +kernel
theorem dL_law_623 : decode cL_law 623 = .ok (.iconst 3, 1) := by decide +kernel
theorem dL_law_624 : decode cL_law 624 = .ok (.iadd, 1) := by decide +kernel
theorem dL_law_625 : decode cL_law 625 = .ok (.iaload, 1) := by decide +kernel
theorem dL_law_626 : decode cL_law 626 = .ok (.invokevirtual 66, 3) := by decide +kernel
theorem dL_law_629 : decode cL_law 629 = .ok (.aload_n 2, 1) := by decide +kernel
theorem dL_law_630 : decode cL_law 630 = .ok (.aload_n 0, 1) := by decide +kernel
theorem dL_law_631 : decode cL_law 631 = .ok (.iload_n 3, 1) := by decide +kernel
theorem dL_law_632 : decode cL_law 632 = .ok (.iconst 1, 1) := by decide +kernel
theorem dL_law_633 : decode cL_law 633 = .ok (.iadd, 1) := by decide +kernel
theorem dL_law_634 : decode cL_law 634 = .ok (.iaload, 1) := by decide +kernel
theorem dL_law_635 : decode cL_law 635 = .ok (.aload_n 0, 1) := by decide +kernel
theorem dL_law_636 : decode cL_law 636 = .ok (.iload_n 3, 1) := by decide +kernel
theorem dL_law_637 : decode cL_law 637 = .ok (.iconst 2, 1) := by decide +kernel
theorem dL_law_638 : decode cL_law 638 = .ok (.iadd, 1) := by decide +kernel
theorem dL_law_639 : decode cL_law 639 = .ok (.iaload, 1) := by decide +kernel
theorem dL_law_640 : decode cL_law 640 = .ok (.aload_n 0, 1) := by decide +kernel
theorem dL_law_641 : decode cL_law 641 = .ok (.iload_n 3, 1) := by decide +kernel
theorem dL_law_642 : decode cL_law 642 = .ok (.iconst 3, 1) := by decide +kernel
theorem dL_law_643 : decode cL_law 643 = .ok (.iadd, 1) := by decide +kernel
theorem dL_law_644 : decode cL_law 644 = .ok (.iaload, 1) := by decide +kernel
theorem dL_law_645 : decode cL_law 645 = .ok (.invokevirtual 69, 3) := by decide +kernel
theorem dL_law_648 : decode cL_law 648 = .ok (.if_icmp .eq 1476, 3) := by decide +kernel
theorem dL_law_651 : decode cL_law 651 = .ok (.iconst 0, 1) := by decide +kernel
theorem dL_law_652 : decode cL_law 652 = .ok (.ireturn, 1) := by decide +kernel
theorem dL_law_653 : decode cL_law 653 = .ok (.aload_n 1, 1) := by decide +kernel
theorem dL_law_654 : decode cL_law 654 = .ok (.aload_n 0, 1) := by decide +kernel
theorem dL_law_655 : decode cL_law 655 = .ok (.iload_n 3, 1) := by decide +kernel
theorem dL_law_656 : decode cL_law 656 = .ok (.iconst 1, 1) := by decide +kernel
theorem dL_law_657 : decode cL_law 657 = .ok (.iadd, 1) := by decide +kernel
theorem dL_law_658 : decode cL_law 658 = .ok (.iaload, 1) := by decide +kernel
theorem dL_law_659 : decode cL_law 659 = .ok (.ifCond .eq 7, 3) := by decide +kernel
theorem dL_law_662 : decode cL_law 662 = .ok (.iconst 1, 1) := by decide +kernel
theorem dL_law_663 : decode cL_law 663 = .ok (.goto 4, 3) := by decide +kernel
theorem dL_law_666 : decode cL_law 666 = .ok (.iconst 0, 1) := by decide +kernel
theorem dL_law_667 : decode cL_law 667 = .ok (.aload_n 0, 1) := by decide +kernel
theorem dL_law_668 : decode cL_law 668 = .ok (.iload_n 3, 1) := by decide +kernel
theorem dL_law_669 : decode cL_law 669 = .ok (.iconst 2, 1) := by decide +kernel
theorem dL_law_670 : decode cL_law 670 = .ok (.iadd, 1) := by decide +kernel
theorem dL_law_671 : decode cL_law 671 = .ok (.iaload, 1) := by decide +kernel
theorem dL_law_672 : decode cL_law 672 = .ok (.invokevirtual 70, 3) := by decide +kernel
theorem dL_law_675 : decode cL_law 675 = .ok (.aload_n 2, 1) := by decide +kernel
theorem dL_law_676 : decode cL_law 676 = .ok (.aload_n 0, 1) := by decide +kernel
theorem dL_law_677 : decode cL_law 677 = .ok (.iload_n 3, 1) := by decide +kernel
theorem dL_law_678 : decode cL_law 678 = .ok (.iconst 1, 1) := by decide +kernel
theorem dL_law_679 : decode cL_law 679 = .ok (.iadd, 1) := by decide +kernel
theorem dL_law_680 : decode cL_law 680 = .ok (.iaload, 1) := by decide +kernel
theorem dL_law_681 : decode cL_law 681 = .ok (.ifCond .eq 7, 3) := by decide +kernel
theorem dL_law_684 : decode cL_law 684 = .ok (.iconst 1, 1) := by decide +kernel
theorem dL_law_685 : decode cL_law 685 = .ok (.goto 4, 3) := by decide +kernel
theorem dL_law_688 : decode cL_law 688 = .ok (.iconst 0, 1) := by decide +kernel
theorem dL_law_689 : decode cL_law 689 = .ok (.aload_n 0, 1) := by decide +kernel
theorem dL_law_690 : decode cL_law 690 = .ok (.iload_n 3, 1) := by decide +kernel
theorem dL_law_691 : decode cL_law 691 = .ok (.iconst 2, 1) := by decide +kernel
theorem dL_law_692 : decode cL_law 692 = .ok (.iadd, 1) := by decide +kernel
theorem dL_law_693 : decode cL_law 693 = .ok (.iaload, 1) := by decide +kernel
theorem dL_law_694 : decode cL_law 694 = .ok (.invokevirtual 74, 3) := by decide +kernel
theorem dL_law_697 : decode cL_law 697 = .ok (.if_icmp .eq 1427, 3) := by decide +kernel
theorem dL_law_700 : decode cL_law 700 = .ok (.iconst 0, 1) := by decide +kernel
theorem dL_law_701 : decode cL_law 701 = .ok (.ireturn, 1) := by decide +kernel
theorem dL_law_702 : decode cL_law 702 = .ok (.aload_n 1, 1) := by decide +kernel
theorem dL_law_703 : decode cL_law 703 = .ok (.aload_n 0, 1) := by decide +kernel
theorem dL_law_704 : decode cL_law 704 = .ok (.iload_n 3, 1) := by decide +kernel
theorem dL_law_705 : decode cL_law 705 = .ok (.iconst 1, 1) := by decide +kernel
theorem dL_law_706 : decode cL_law 706 = .ok (.iadd, 1) := by decide +kernel
theorem dL_law_707 : decode cL_law 707 = .ok (.iaload, 1) := by decide +kernel
theorem dL_law_708 : decode cL_law 708 = .ok (.invokevirtual 75, 3) := by decide +kernel
theorem dL_law_711 : decode cL_law 711 = .ok (.aload_n 2, 1) := by decide +kernel
theorem dL_law_712 : decode cL_law 712 = .ok (.aload_n 0, 1) := by decide +kernel
theorem dL_law_713 : decode cL_law 713 = .ok (.iload_n 3, 1) := by decide +kernel
theorem dL_law_714 : decode cL_law 714 = .ok (.iconst 1, 1) := by decide +kernel
theorem dL_law_715 : decode cL_law 715 = .ok (.iadd, 1) := by decide +kernel
theorem dL_law_716 : decode cL_law 716 = .ok (.iaload, 1) := by decide +kernel
theorem dL_law_717 : decode cL_law 717 = .ok (.invokevirtual 78, 3) := by decide +kernel
theorem dL_law_720 : decode cL_law 720 = .ok (.if_icmp .eq 1404, 3) := by decide +kernel
theorem dL_law_723 : decode cL_law 723 = .ok (.iconst 0, 1) := by decide +kernel
theorem dL_law_724 : decode cL_law 724 = .ok (.ireturn, 1) := by decide +kernel
theorem dL_law_725 : decode cL_law 725 = .ok (.aload_n 1, 1) := by decide +kernel
theorem dL_law_726 : decode cL_law 726 = .ok (.aload_n 0, 1) := by decide +kernel
theorem dL_law_727 : decode cL_law 727 = .ok (.iload_n 3, 1) := by decide +kernel
theorem dL_law_728 : decode cL_law 728 = .ok (.iconst 1, 1) := by decide +kernel
theorem dL_law_729 : decode cL_law 729 = .ok (.iadd, 1) := by decide +kernel
theorem dL_law_730 : decode cL_law 730 = .ok (.iaload, 1) := by decide +kernel
theorem dL_law_731 : decode cL_law 731 = .ok (.aload_n 0, 1) := by decide +kernel
theorem dL_law_732 : decode cL_law 732 = .ok (.iload_n 3, 1) := by decide +kernel
theorem dL_law_733 : decode cL_law 733 = .ok (.iconst 2, 1) := by decide +kernel
theorem dL_law_734 : decode cL_law 734 = .ok (.iadd, 1) := by decide +kernel
theorem dL_law_735 : decode cL_law 735 = .ok (.iaload, 1) := by decide +kernel
theorem dL_law_736 : decode cL_law 736 = .ok (.invokevirtual 79, 3) := by decide +kernel
theorem dL_law_739 : decode cL_law 739 = .ok (.aload_n 2, 1) := by decide +kernel
theorem dL_law_740 : decode cL_law 740 = .ok (.aload_n 0, 1) := by decide +kernel
theorem dL_law_741 : decode cL_law 741 = .ok (.iload_n 3, 1) := by decide +kernel
theorem dL_law_742 : decode cL_law 742 = .ok (.iconst 1, 1) := by decide +kernel
theorem dL_law_743 : decode cL_law 743 = .ok (.iadd, 1) := by decide +kernel
theorem dL_law_744 : decode cL_law 744 = .ok (.iaload, 1) := by decide +kernel
theorem dL_law_745 : decode cL_law 745 = .ok (.aload_n 0, 1) := by decide +kernel
theorem dL_law_746 : decode cL_law 746 = .ok (.iload_n 3, 1) := by decide +kernel
theorem dL_law_747 : decode cL_law 747 = .ok (.iconst 2, 1) := by decide +kernel
theorem dL_law_748 : decode cL_law 748 = .ok (.iadd, 1) := by decide +kernel
theorem dL_law_749 : decode cL_law 749 = .ok (.iaload, 1) := by decide +kernel
theorem dL_law_750 : decode cL_law 750 = .ok (.invokevirtual 82, 3) := by decide +kernel
theorem dL_law_753 : decode cL_law 753 = .ok (.if_icmp .eq 1371, 3) := by decide +kernel
theorem dL_law_756 : decode cL_law 756 = .ok (.iconst 0, 1) := by decide +kernel
theorem dL_law_757 : decode cL_law 757 = .ok (.ireturn, 1) := by decide +kernel
theorem dL_law_758 : decode cL_law 758 = .ok (.aload_n 1, 1) := by decide +kernel
theorem dL_law_759 : decode cL_law 759 = .ok (.aload_n 0, 1) := by decide +kernel
theorem dL_law_760 : decode cL_law 760 = .ok (.iload_n 3, 1) := by decide +kernel
theorem dL_law_761 : decode cL_law 761 = .ok (.iconst 1, 1) := by decide +kernel
theorem dL_law_762 : decode cL_law 762 = .ok (.iadd, 1) := by decide +kernel
theorem dL_law_763 : decode cL_law 763 = .ok (.iaload, 1) := by decide +kernel
theorem dL_law_764 : decode cL_law 764 = .ok (.aload_n 0, 1) := by decide +kernel
theorem dL_law_765 : decode cL_law 765 = .ok (.iload_n 3, 1) := by decide +kernel
theorem dL_law_766 : decode cL_law 766 = .ok (.iconst 2, 1) := by decide +kernel
theorem dL_law_767 : decode cL_law 767 = .ok (.iadd, 1) := by decide +kernel
theorem dL_law_768 : decode cL_law 768 = .ok (.iaload, 1) := by decide +kernel
theorem dL_law_769 : decode cL_law 769 = .ok (.aload_n 0, 1) := by decide +kernel
theorem dL_law_770 : decode cL_law 770 = .ok (.iload_n 3, 1) := by decide +kernel
theorem dL_law_771 : decode cL_law 771 = .ok (.iconst 3, 1) := by decide +kernel
theorem dL_law_772 : decode cL_law 772 = .ok (.iadd, 1) := by decide +kernel
theorem dL_law_773 : decode cL_law 773 = .ok (.iaload, 1) := by decide +kernel
theorem dL_law_774 : decode cL_law 774 = .ok (.aload_n 0, 1) := by decide +kernel
theorem dL_law_775 : decode cL_law 775 = .ok (.iload_n 3, 1) := by decide +kernel
theorem dL_law_776 : decode cL_law 776 = .ok (.iconst 4, 1) := by decide +kernel
theorem dL_law_777 : decode cL_law 777 = .ok (.iadd, 1) := by decide +kernel
theorem dL_law_778 : decode cL_law 778 = .ok (.iaload, 1) := by decide +kernel
theorem dL_law_779 : decode cL_law 779 = .ok (.invokevirtual 83, 3) := by decide +kernel
theorem dL_law_782 : decode cL_law 782 = .ok (.aload_n 2, 1) := by decide +kernel
theorem dL_law_783 : decode cL_law 783 = .ok (.aload_n 0, 1) := by decide +kernel
theorem dL_law_784 : decode cL_law 784 = .ok (.iload_n 3, 1) := by decide +kernel
theorem dL_law_785 : decode cL_law 785 = .ok (.iconst 1, 1) := by decide +kernel
theorem dL_law_786 : decode cL_law 786 = .ok (.iadd, 1) := by decide +kernel
theorem dL_law_787 : decode cL_law 787 = .ok (.iaload, 1) := by decide +kernel
theorem dL_law_788 : decode cL_law 788 = .ok (.aload_n 0, 1) := by decide +kernel
theorem dL_law_789 : decode cL_law 789 = .ok (.iload_n 3, 1) := by decide +kernel
theorem dL_law_790 : decode cL_law 790 = .ok (.iconst 2, 1) := by decide +kernel
theorem dL_law_791 : decode cL_law 791 = .ok (.iadd, 1) := by decide +kernel
theorem dL_law_792 : decode cL_law 792 = .ok (.iaload, 1) := by decide +kernel
theorem dL_law_793 : decode cL_law 793 = .ok (.aload_n 0, 1) := by decide +kernel
theorem dL_law_794 : decode cL_law 794 = .ok (.iload_n 3, 1) := by decide +kernel
theorem dL_law_795 : decode cL_law 795 = .ok (.iconst 3, 1) := by decide +kernel
theorem dL_law_796 : decode cL_law 796 = .ok (.iadd, 1) := by decide +kernel
theorem dL_law_797 : decode cL_law 797 = .ok (.iaload, 1) := by decide +kernel
theorem dL_law_798 : decode cL_law 798 = .ok (.aload_n 0, 1) := by decide +kernel
theorem dL_law_799 : decode cL_law 799 = .ok (.iload_n 3, 1) := by decide +kernel
theorem dL_law_800 : decode cL_law 800 = .ok (.iconst 4, 1) := by decide +kernel
theorem dL_law_801 : decode cL_law 801 = .ok (.iadd, 1) := by decide +kernel
theorem dL_law_802 : decode cL_law 802 = .ok (.iaload, 1) := by decide +kernel
theorem dL_law_803 : decode cL_law 803 = .ok (.invokevirtual 87, 3) := by decide +kernel
