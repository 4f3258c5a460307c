theorem dX12_plain_4 : decode cX12_plain 4 = .ok (.iload_n 0, 1) := by decide +kernel
theorem dX12_plain_5 : decode cX12_plain 5 = .ok (.ineg, 1) := by decide +kernel
theorem dX12_plain_6 : decode cX12_plain 6 = .ok (.goto 4, 3) := by decide +kernel
theorem dX12_plain_9 : decode cX12_plain 9 = .ok (.iload_n 0, 1) := by decide +kernel
theorem dX12_plain_10 : decode cX12_plain 10 = .ok (.ireturn, 1) := by decide +kernel
theorem dX12_degreeOf_0 : decode cX12_degreeOf 0 = .ok (.iload_n 0, 1) := by decide +kernel
theorem dX12_degreeOf_1 : decode cX12_degreeOf 1 = .ok (.invokestatic 425, 3) := by decide +kernel
theorem dX12_degreeOf_4 : decode cX12_degreeOf 4 = .ok (.istore_n 2, 1) := by decide +kernel
theorem dX12_degreeOf_5 : decode cX12_degreeOf 5 = .ok (.iload_n 1, 1) := by decide +kernel
theorem dX12_degreeOf_6 : decode cX12_degreeOf 6 = .ok (.invokestatic 425, 3) := by decide +kernel
theorem dX12_degreeOf_9 : decode cX12_degreeOf 9 = .ok (.istore_n 3, 1) := by decide +kernel
theorem dX12_degreeOf_10 : decode cX12_degreeOf 10 = .ok (.bipush 45, 2) := by decide +kernel
theorem dX12_degreeOf_12 : decode cX12_degreeOf 12 = .ok (.iload_n 2, 1) := by decide +kernel
theorem dX12_degreeOf_13 : decode cX12_degreeOf 13 = .ok (.iload_n 3, 1) := by decide +kernel
theorem dX12_degreeOf_14 : decode cX12_degreeOf 14 = .ok (.if_icmp .ge 7, 3) := by decide +kernel
theorem dX12_degreeOf_17 : decode cX12_degreeOf 17 = .ok (.iload_n 2, 1) := by decide +kernel
theorem dX12_degreeOf_18 : decode cX12_degreeOf 18 = .ok (.goto 4, 3) := by decide +kernel
theorem dX12_degreeOf_21 : decode cX12_degreeOf 21 = .ok (.iload_n 3, 1) := by decide +kernel
theorem dX12_degreeOf_22 : decode cX12_degreeOf 22 = .ok (.imul, 1) := by decide +kernel
theorem dX12_degreeOf_23 : decode cX12_degreeOf 23 = .ok (.iload_n 2, 1) := by decide +kernel
theorem dX12_degreeOf_24 : decode cX12_degreeOf 24 = .ok (.iload_n 3, 1) := by decide +kernel
theorem dX12_degreeOf_25 : decode cX12_degreeOf 25 = .ok (.if_icmp .le 7, 3) := by decide +kernel
theorem dX12_degreeOf_28 : decode cX12_degreeOf 28 = .ok (.iload_n 2, 1) := by decide +kernel
theorem dX12_degreeOf_29 : decode cX12_degreeOf 29 = .ok (.goto 4, 3) := by decide +kernel
theorem dX12_degreeOf_32 : decode cX12_degreeOf 32 = .ok (.iload_n 3, 1) := by decide +kernel
theorem dX12_degreeOf_33 : decode cX12_degreeOf 33 = .ok (.idiv, 1) := by decide +kernel
theorem dX12_degreeOf_34 : decode cX12_degreeOf 34 = .ok (.istore 4, 2) := by decide +kernel
theorem dX12_degreeOf_36 : decode cX12_degreeOf 36 = .ok (.iload_n 0, 1) := by decide +kernel
theorem dX12_degreeOf_37 : decode cX12_degreeOf 37 = .ok (.ifCond .lt 23, 3) := by decide +kernel
theorem dX12_degreeOf_40 : decode cX12_degreeOf 40 = .ok (.iload_n 1, 1) := by decide +kernel
theorem dX12_degreeOf_41 : decode cX12_degreeOf 41 = .ok (.ifCond .le 19, 3) := by decide +kernel
theorem dX12_degreeOf_44 : decode cX12_degreeOf 44 = .ok (.iload_n 2, 1) := by decide +kernel
theorem dX12_degreeOf_45 : decode cX12_degreeOf 45 = .ok (.iload_n 3, 1) := by decide +kernel
theorem dX12_degreeOf_46 : decode cX12_degreeOf 46 = .ok (.if_icmp .gt 8, 3) := by decide +kernel
theorem dX12_degreeOf_49 : decode cX12_degreeOf 49 = .ok (.iload 4, 2) := by decide +kernel
theorem dX12_degreeOf_51 : decode cX12_degreeOf 51 = .ok (.goto 8, 3) := by decide +kernel
theorem dX12_degreeOf_54 : decode cX12_degreeOf 54 = .ok (.bipush 90, 2) := by decide +kernel
theorem dX12_degreeOf_56 : decode cX12_degreeOf 56 = .ok (.iload 4, 2) := by decide +kernel
theorem dX12_degreeOf_58 : decode cX12_degreeOf 58 = .ok (.isub, 1) := by decide +kernel
theorem dX12_degreeOf_59 : decode cX12_degreeOf 59 = .ok (.ireturn, 1) := by decide +kernel
theorem dX12_degreeOf_60 : decode cX12_degreeOf 60 = .ok (.iload_n 0, 1) := by decide +kernel
theorem dX12_degreeOf_61 : decode cX12_degreeOf 61 = .ok (.ifCond .le 23, 3) := by decide +kernel
theorem dX12_degreeOf_64 : decode cX12_degreeOf 64 = .ok (.iload_n 3, 1) := by decide +kernel
theorem dX12_degreeOf_65 : decode cX12_degreeOf 65 = .ok (.iload_n 2, 1) := by decide +kernel
theorem dX12_degreeOf_66 : decode cX12_degreeOf 66 = .ok (.if_icmp .gt 11, 3) := by decide +kernel
theorem dX12_degreeOf_69 : decode cX12_degreeOf 69 = .ok (.bipush 90, 2) := by decide +kernel
theorem dX12_degreeOf_71 : decode cX12_degreeOf 71 = .ok (.iload 4, 2) := by decide +kernel
theorem dX12_degreeOf_73 : decode cX12_degreeOf 73 = .ok (.iadd, 1) := by decide +kernel
theorem dX12_degreeOf_74 : decode cX12_degreeOf 74 = .ok (.goto 9, 3) := by decide +kernel
theorem dX12_degreeOf_77 : decode cX12_degreeOf 77 = .ok (.sipush 180, 3) := by decide +kernel
theorem dX12_degreeOf_80 : decode cX12_degreeOf 80 = .ok (.iload 4, 2) := by decide +kernel
theorem dX12_degreeOf_82 : decode cX12_degreeOf 82 = .ok (.isub, 1) := by decide +kernel
theorem dX12_degreeOf_83 : decode cX12_degreeOf 83 = .ok (.ireturn, 1) := by decide +kernel
theorem dX12_degreeOf_84 : decode cX12_degreeOf 84 = .ok (.iload_n 1, 1) := by decide +kernel
theorem dX12_degreeOf_85 : decode cX12_degreeOf 85 = .ok (.ifCond .ge 24, 3) := by decide +kernel
theorem dX12_degreeOf_88 : decode cX12_degreeOf 88 = .ok (.iload_n 2, 1) := by decide +kernel
theorem dX12_degreeOf_89 : decode cX12_degreeOf 89 = .ok (.iload_n 3, 1) := by decide +kernel
theorem dX12_degreeOf_90 : decode cX12_degreeOf 90 = .ok (.if_icmp .gt 12, 3) := by decide +kernel
theorem dX12_degreeOf_93 : decode cX12_degreeOf 93 = .ok (.sipush 180, 3) := by decide +kernel
theorem dX12_degreeOf_96 : decode cX12_degreeOf 96 = .ok (.iload 4, 2) := by decide +kernel
theorem dX12_degreeOf_98 : decode cX12_degreeOf 98 = .ok (.iadd, 1) := by decide +kernel
theorem dX12_degreeOf_99 : decode cX12_degreeOf 99 = .ok (.goto 9, 3) := by decide +kernel
theorem dX12_degreeOf_102 : decode cX12_degreeOf 102 = .ok (.sipush 270, 3) := by decide +kernel
theorem dX12_degreeOf_105 : decode cX12_degreeOf 105 = .ok (.iload 4, 2) := by decide +kernel
theorem dX12_degreeOf_107 : decode cX12_degreeOf 107 = .ok (.isub, 1) := by decide +kernel
theorem dX12_degreeOf_108 : decode cX12_degreeOf 108 = .ok (.ireturn, 1) := by decide +kernel
theorem dX12_degreeOf_109 : decode cX12_degreeOf 109 = .ok (.iload_n 3, 1) := by decide +kernel
theorem dX12_degreeOf_110 : decode cX12_degreeOf 110 = .ok (.iload_n 2, 1) := by decide +kernel
theorem dX12_degreeOf_111 : decode cX12_degreeOf 111 = .ok (.if_icmp .gt 12, 3) := by decide +kernel
theorem dX12_degreeOf_114 : decode cX12_degreeOf 114 = .ok (.sipush 270, 3) := by decide +kernel
theorem dX12_degreeOf_117 : decode cX12_degreeOf 117 = .ok (.iload 4, 2) := by decide +kernel
theorem dX12_degreeOf_119 : decode cX12_degreeOf 119 = .ok (.iadd, 1) := by decide +kernel
theorem dX12_degreeOf_120 : decode cX12_degreeOf 120 = .ok (.goto 9, 3) := by decide +kernel
theorem dX12_degreeOf_123 : decode cX12_degreeOf 123 = .ok (.sipush 360, 3) := by decide +kernel
theorem dX12_degreeOf_126 : decode cX12_degreeOf 126 = .ok (.iload 4, 2) := by decide +kernel
theorem dX12_degreeOf_128 : decode cX12_degreeOf 128 = .ok (.isub, 1) := by decide +kernel
theorem dX12_degreeOf_129 : decode cX12_degreeOf 129 = .ok (.istore 5, 2) := by decide +kernel
theorem dX12_degreeOf_131 : decode cX12_degreeOf 131 = .ok (.iload 5, 2) := by decide +kernel
theorem dX12_degreeOf_133 : decode cX12_degreeOf 133 = .ok (.sipush 360, 3) := by decide +kernel
theorem dX12_degreeOf_136 : decode cX12_degreeOf 136 = .ok (.if_icmp .ne 7, 3) := by decide +kernel
theorem dX12_degreeOf_139 : decode cX12_degreeOf 139 = .ok (.iconst 0, 1) := by decide +kernel
theorem dX12_degreeOf_140 : decode cX12_degreeOf 140 = .ok (.goto 5, 3) := by decide +kernel
theorem dX12_degreeOf_143 : decode cX12_degreeOf 143 = .ok (.iload 5, 2) := by decide +kernel
theorem dX12_degreeOf_145 : decode cX12_degreeOf 145 = .ok (.ireturn, 1) := by decide +kernel
theorem dX12_lay_0 : decode cX12_lay 0 = .ok (.aload_n 0, 1) := by decide +kernel
theorem dX12_lay_1 : decode cX12_lay 1 = .ok (.iload_n 1, 1) := by decide +kernel
theorem dX12_lay_2 : decode cX12_lay 2 = .ok (.invokevirtual 428, 3) := by decide +kernel
theorem dX12_lay_5 : decode cX12_lay 5 = .ok (.iconst 0, 1) := by decide +kernel
theorem dX12_lay_6 : decode cX12_lay 6 = .ok (.istore_n 2, 1) := by decide +kernel
theorem dX12_lay_7 : decode cX12_lay 7 = .ok (.iload_n 2, 1) := by decide +kernel
theorem dX12_lay_8 : decode cX12_lay 8 = .ok (.sipush 196, 3) := by decide +kernel
theorem dX12_lay_11 : decode cX12_lay 11 = .ok (.if_icmp .ge 283, 3) := by decide +kernel
theorem dX12_lay_14 : decode cX12_lay 14 = .ok (.iload_n 2, 1) := by decide +kernel
theorem dX12_lay_15 : decode cX12_lay 15 = .ok (.bipush 14, 2) := by decide +kernel
theorem dX12_lay_17 : decode cX12_lay 17 = .ok (.idiv, 1) := by decide +kernel
theorem dX12_lay_18 : decode cX12_lay 18 = .ok (.istore_n 3, 1) := by decide +kernel
theorem dX12_lay_19 : decode cX12_lay 19 = .ok (.iload_n 2, 1) := by decide +kernel
theorem dX12_lay_20 : decode cX12_lay 20 = .ok (.bipush 14, 2) := by decide +kernel
theorem dX12_lay_22 : decode cX12_lay 22 = .ok (.irem, 1) := by decide +kernel
theorem dX12_lay_23 : decode cX12_lay 23 = .ok (.istore 4, 2) := by decide +kernel
theorem dX12_lay_25 : decode cX12_lay 25 = .ok (.aload_n 0, 1) := by decide +kernel
theorem dX12_lay_26 : decode cX12_lay 26 = .ok (.getfield 169, 3) := by decide +kernel
theorem dX12_lay_29 : decode cX12_lay 29 = .ok (.iload_n 2, 1) := by decide +kernel
theorem dX12_lay_30 : decode cX12_lay 30 = .ok (.iload_n 3, 1) := by decide +kernel
theorem dX12_lay_31 : decode cX12_lay 31 = .ok (.iload 4, 2) := by decide +kernel
theorem dX12_lay_33 : decode cX12_lay 33 = .ok (.if_icmp .eq 79, 3) := by decide +kernel
theorem dX12_lay_36 : decode cX12_lay 36 = .ok (.iload_n 3, 1) := by decide +kernel
theorem dX12_lay_37 : decode cX12_lay 37 = .ok (.aload_n 0, 1) := by decide +kernel
theorem dX12_lay_38 : decode cX12_lay 38 = .ok (.getfield 37, 3) := by decide +kernel
theorem dX12_lay_41 : decode cX12_lay 41 = .ok (.iconst 0, 1) := by decide +kernel
theorem dX12_lay_42 : decode cX12_lay 42 = .ok (.iaload, 1) := by decide +kernel
theorem dX12_lay_43 : decode cX12_lay 43 = .ok (.if_icmp .ge 69, 3) := by decide +kernel
theorem dX12_lay_46 : decode cX12_lay 46 = .ok (.iload 4, 2) := by decide +kernel
theorem dX12_lay_48 : decode cX12_lay 48 = .ok (.aload_n 0, 1) := by decide +kernel
theorem dX12_lay_49 : decode cX12_lay 49 = .ok (.getfield 37, 3) := by decide +kernel
theorem dX12_lay_52 : decode cX12_lay 52 = .ok (.iconst 0, 1) := by decide +kernel
theorem dX12_lay_53 : decode cX12_lay 53 = .ok (.iaload, 1) := by decide +kernel
theorem dX12_lay_54 : decode cX12_lay 54 = .ok (.if_icmp .ge 58, 3) := by decide +kernel
theorem dX12_lay_57 : decode cX12_lay 57 = .ok (.aload_n 0, 1) := by decide +kernel
theorem dX12_lay_58 : decode cX12_lay 58 = .ok (.getfield 166, 3) := by decide +kernel
theorem dX12_lay_61 : decode cX12_lay 61 = .ok (.iload_n 3, 1) := by decide +kernel
theorem dX12_lay_62 : decode cX12_lay 62 = .ok (.baload, 1) := by decide +kernel
theorem dX12_lay_63 : decode cX12_lay 63 = .ok (.ifCond .ne 49, 3) := by decide +kernel
theorem dX12_lay_66 : decode cX12_lay 66 = .ok (.aload_n 0, 1) := by decide +kernel
theorem dX12_lay_67 : decode cX12_lay 67 = .ok (.getfield 166, 3) := by decide +kernel
theorem dX12_lay_70 : decode cX12_lay 70 = .ok (.iload 4, 2) := by decide +kernel
theorem dX12_lay_72 : decode cX12_lay 72 = .ok (.baload, 1) := by decide +kernel
theorem dX12_lay_73 : decode cX12_lay 73 = .ok (.ifCond .ne 39, 3) := by decide +kernel
theorem dX12_lay_76 : decode cX12_lay 76 = .ok (.aload_n 0, 1) := by decide +kernel
theorem dX12_lay_77 : decode cX12_lay 77 = .ok (.getfield 157, 3) := by decide +kernel
theorem dX12_lay_80 : decode cX12_lay 80 = .ok (.iload_n 3, 1) := by decide +kernel
theorem dX12_lay_81 : decode cX12_lay 81 = .ok (.iaload, 1) := by decide +kernel
theorem dX12_lay_82 : decode cX12_lay 82 = .ok (.aload_n 0, 1) := by decide +kernel
theorem dX12_lay_83 : decode cX12_lay 83 = .ok (.getfield 157, 3) := by decide +kernel
theorem dX12_lay_86 : decode cX12_lay 86 = .ok (.iload 4, 2) := by decide +kernel
theorem dX12_lay_88 : decode cX12_lay 88 = .ok (.iaload, 1) := by decide +kernel
theorem dX12_lay_89 : decode cX12_lay 89 = .ok (.if_icmp .ne 19, 3) := by decide +kernel
theorem dX12_lay_92 : decode cX12_lay 92 = .ok (.aload_n 0, 1) := by decide +kernel
theorem dX12_lay_93 : decode cX12_lay 93 = .ok (.getfield 160, 3) := by decide +kernel
theorem dX12_lay_96 : decode cX12_lay 96 = .ok (.iload_n 3, 1) := by decide +kernel
theorem dX12_lay_97 : decode cX12_lay 97 = .ok (.iaload, 1) := by decide +kernel
theorem dX12_lay_98 : decode cX12_lay 98 = .ok (.aload_n 0, 1) := by decide +kernel
theorem dX12_lay_99 : decode cX12_lay 99 = .ok (.getfield 160, 3) := by decide +kernel
theorem dX12_lay_102 : decode cX12_lay 102 = .ok (.iload 4, 2) := by decide +kernel
theorem dX12_lay_104 : decode cX12_lay 104 = .ok (.iaload, 1) := by decide +kernel
theorem dX12_lay_105 : decode cX12_lay 105 = .ok (.if_icmp .eq 7, 3) := by decide +kernel
theorem dX12_lay_108 : decode cX12_lay 108 = .ok (.iconst 1, 1) := by decide +kernel
theorem dX12_lay_109 : decode cX12_lay 109 = .ok (.goto 4, 3) := by decide +kernel
theorem dX12_lay_112 : decode cX12_lay 112 = .ok (.iconst 0, 1) := by decide +kernel
theorem dX12_lay_113 : decode cX12_lay 113 = .ok (.bastore, 1) := by decide +kernel
theorem dX12_lay_114 : decode cX12_lay 114 = .ok (.aload_n 0, 1) := by decide +kernel
theorem dX12_lay_115 : decode cX12_lay 115 = .ok (.getfield 178, 3) := by decide +kernel
theorem dX12_lay_118 : decode cX12_lay 118 = .ok (.iload_n 2, 1) := by decide +kernel
theorem dX12_lay_119 : decode cX12_lay 119 = .ok (.iconst 0, 1) := by decide +kernel
theorem dX12_lay_120 : decode cX12_lay 120 = .ok (.bastore, 1) := by decide +kernel
theorem dX12_lay_121 : decode cX12_lay 121 = .ok (.aload_n 0, 1) := by decide +kernel
theorem dX12_lay_122 : decode cX12_lay 122 = .ok (.getfield 169, 3) := by decide +kernel
theorem dX12_lay_125 : decode cX12_lay 125 = .ok (.iload_n 2, 1) := by decide +kernel
theorem dX12_lay_126 : decode cX12_lay 126 = .ok (.baload, 1) := by decide +kernel
theorem dX12_lay_127 : decode cX12_lay 127 = .ok (.ifCond .ne 6, 3) := by decide +kernel
theorem dX12_lay_130 : decode cX12_lay 130 = .ok (.goto 158, 3) := by decide +kernel
theorem dX12_lay_133 : decode cX12_lay 133 = .ok (.aload_n 0, 1) := by decide +kernel
theorem dX12_lay_134 : decode cX12_lay 134 = .ok (.getfield 157, 3) := by decide +kernel
theorem dX12_lay_137 : decode cX12_lay 137 = .ok (.iload 4, 2) := by decide +kernel
theorem dX12_lay_139 : decode cX12_lay 139 = .ok (.iaload, 1) := by decide +kernel
theorem dX12_lay_140 : decode cX12_lay 140 = .ok (.aload_n 0, 1) := by decide +kernel
theorem dX12_lay_141 : decode cX12_lay 141 = .ok (.getfield 157, 3) := by decide +kernel
theorem dX12_lay_144 : decode cX12_lay 144 = .ok (.iload_n 3, 1) := by decide +kernel
theorem dX12_lay_145 : decode cX12_lay 145 = .ok (.iaload, 1) := by decide +kernel
theorem dX12_lay_146 : decode cX12_lay 146 = .ok (.isub, 1) := by decide +kernel
theorem dX12_lay_147 : decode cX12_lay 147 = .ok (.istore 5, 2) := by decide +kernel
theorem dX12_lay_149 : decode cX12_lay 149 = .ok (.aload_n 0, 1) := by decide +kernel
theorem dX12_lay_150 : decode cX12_lay 150 = .ok (.getfield 160, 3) := by decide +kernel
theorem dX12_lay_153 : decode cX12_lay 153 = .ok (.iload 4, 2) := by decide +kernel
theorem dX12_lay_155 : decode cX12_lay 155 = .ok (.iaload, 1) := by decide +kernel
theorem dX12_lay_156 : decode cX12_lay 156 = .ok (.aload_n 0, 1) := by decide +kernel
theorem dX12_lay_157 : decode cX12_lay 157 = .ok (.getfield 160, 3) := by decide +kernel
theorem dX12_lay_160 : decode cX12_lay 160 = .ok (.iload_n 3, 1) := by decide +kernel
theorem dX12_lay_161 : decode cX12_lay 161 = .ok (.iaload, 1) := by decide +kernel
theorem dX12_lay_162 : decode cX12_lay 162 = .ok (.isub, 1) := by decide +kernel
theorem dX12_lay_163 : decode cX12_lay 163 = .ok (.istore 6, 2) := by decide +kernel
theorem dX12_lay_165 : decode cX12_lay 165 = .ok (.aload_n 0, 1) := by decide +kernel
theorem dX12_lay_166 : decode cX12_lay 166 = .ok (.getfield 172, 3) := by decide +kernel
theorem dX12_lay_169 : decode cX12_lay 169 = .ok (.iload_n 2, 1) := by decide +kernel
theorem dX12_lay_170 : decode cX12_lay 170 = .ok (.iload 5, 2) := by decide +kernel
theorem dX12_lay_172 : decode cX12_lay 172 = .ok (.iload 6, 2) := by decide +kernel
theorem dX12_lay_174 : decode cX12_lay 174 = .ok (.invokestatic 431, 3) := by decide +kernel
theorem dX12_lay_177 : decode cX12_lay 177 = .ok (.iastore, 1) := by decide +kernel
theorem dX12_lay_178 : decode cX12_lay 178 = .ok (.aload_n 0, 1) := by decide +kernel
theorem dX12_lay_179 : decode cX12_lay 179 = .ok (.getfield 175, 3) := by decide +kernel
theorem dX12_lay_182 : decode cX12_lay 182 = .ok (.iload_n 2, 1) := by decide +kernel
theorem dX12_lay_183 : decode cX12_lay 183 = .ok (.iload 5, 2) := by decide +kernel
theorem dX12_lay_185 : decode cX12_lay 185 = .ok (.invokestatic 425, 3) := by decide +kernel
theorem dX12_lay_188 : decode cX12_lay 188 = .ok (.iload 6, 2) := by decide +kernel
theorem dX12_lay_190 : decode cX12_lay 190 = .ok (.invokestatic 425, 3) := by decide +kernel
theorem dX12_lay_193 : decode cX12_lay 193 = .ok (.if_icmp .le 11, 3) := by decide +kernel
theorem dX12_lay_196 : decode cX12_lay 196 = .ok (.iload 5, 2) := by decide +kernel
theorem dX12_lay_198 : decode cX12_lay 198 = .ok (.invokestatic 425, 3) := by decide +kernel
theorem dX12_lay_201 : decode cX12_lay 201 = .ok (.goto 8, 3) := by decide +kernel
theorem dX12_lay_204 : decode cX12_lay 204 = .ok (.iload 6, 2) := by decide +kernel
theorem dX12_lay_206 : decode cX12_lay 206 = .ok (.invokestatic 425, 3) := by decide +kernel
theorem dX12_lay_209 : decode cX12_lay 209 = .ok (.iastore, 1) := by decide +kernel
theorem dX12_lay_210 : decode cX12_lay 210 = .ok (.aload_n 0, 1) := by decide +kernel
theorem dX12_lay_211 : decode cX12_lay 211 = .ok (.getfield 178, 3) := by decide +kernel
theorem dX12_lay_214 : decode cX12_lay 214 = .ok (.iload_n 2, 1) := by decide +kernel
theorem dX12_lay_215 : decode cX12_lay 215 = .ok (.aload_n 0, 1) := by decide +kernel
theorem dX12_lay_216 : decode cX12_lay 216 = .ok (.getfield 88, 3) := by decide +kernel
theorem dX12_lay_219 : decode cX12_lay 219 = .ok (.iconst 0, 1) := by decide +kernel
theorem dX12_lay_220 : decode cX12_lay 220 = .ok (.iaload, 1) := by decide +kernel
theorem dX12_lay_221 : decode cX12_lay 221 = .ok (.ifCond .ne 7, 3) := by decide +kernel
theorem dX12_lay_224 : decode cX12_lay 224 = .ok (.iconst 1, 1) := by decide +kernel
theorem dX12_lay_225 : decode cX12_lay 225 = .ok (.goto 4, 3) := by decide +kernel
theorem dX12_lay_228 : decode cX12_lay 228 = .ok (.iconst 0, 1) := by decide +kernel
theorem dX12_lay_229 : decode cX12_lay 229 = .ok (.bastore, 1) := by decide +kernel
theorem dX12_lay_230 : decode cX12_lay 230 = .ok (.aload_n 0, 1) := by decide +kernel
theorem dX12_lay_231 : decode cX12_lay 231 = .ok (.iload_n 2, 1) := by decide +kernel
theorem dX12_lay_232 : decode cX12_lay 232 = .ok (.invokevirtual 435, 3) := by decide +kernel
theorem dX12_lay_235 : decode cX12_lay 235 = .ok (.iconst 0, 1) := by decide +kernel
theorem dX12_lay_236 : decode cX12_lay 236 = .ok (.istore 7, 2) := by decide +kernel
theorem dX12_lay_238 : decode cX12_lay 238 = .ok (.iload 7, 2) := by decide +kernel
theorem dX12_lay_240 : decode cX12_lay 240 = .ok (.aload_n 0, 1) := by decide +kernel
theorem dX12_lay_241 : decode cX12_lay 241 = .ok (.getfield 88, 3) := by decide +kernel
theorem dX12_lay_244 : decode cX12_lay 244 = .ok (.iconst 0, 1) := by decide +kernel
theorem dX12_lay_245 : decode cX12_lay 245 = .ok (.iaload, 1) := by decide +kernel
theorem dX12_lay_246 : decode cX12_lay 246 = .ok (.if_icmp .ge 42, 3) := by decide +kernel
theorem dX12_lay_249 : decode cX12_lay 249 = .ok (.aload_n 0, 1) := by decide +kernel
theorem dX12_lay_250 : decode cX12_lay 250 = .ok (.getfield 178, 3) := by decide +kernel
theorem dX12_lay_253 : decode cX12_lay 253 = .ok (.iload_n 2, 1) := by decide +kernel
theorem dX12_lay_254 : decode cX12_lay 254 = .ok (.baload, 1) := by decide +kernel
theorem dX12_lay_255 : decode cX12_lay 255 = .ok (.ifCond .ne 33, 3) := by decide +kernel
theorem dX12_lay_258 : decode cX12_lay 258 = .ok (.aload_n 0, 1) := by decide +kernel
theorem dX12_lay_259 : decode cX12_lay 259 = .ok (.getfield 178, 3) := by decide +kernel
theorem dX12_lay_262 : decode cX12_lay 262 = .ok (.iload_n 2, 1) := by decide +kernel
theorem dX12_lay_263 : decode cX12_lay 263 = .ok (.aload_n 0, 1) := by decide +kernel
theorem dX12_lay_264 : decode cX12_lay 264 = .ok (.aload_n 0, 1) := by decide +kernel
theorem dX12_lay_265 : decode cX12_lay 265 = .ok (.getfield 91, 3) := by decide +kernel
theorem dX12_lay_268 : decode cX12_lay 268 = .ok (.iload 7, 2) := by decide +kernel
theorem dX12_lay_270 : decode cX12_lay 270 = .ok (.iaload, 1) := by decide +kernel
theorem dX12_lay_271 : decode cX12_lay 271 = .ok (.aload_n 0, 1) := by decide +kernel
theorem dX12_lay_272 : decode cX12_lay 272 = .ok (.getfield 94, 3) := by decide +kernel
theorem dX12_lay_275 : decode cX12_lay 275 = .ok (.iload 7, 2) := by decide +kernel
theorem dX12_lay_277 : decode cX12_lay 277 = .ok (.iaload, 1) := by decide +kernel
theorem dX12_lay_278 : decode cX12_lay 278 = .ok (.invokevirtual 438, 3) := by decide +kernel
theorem dX12_lay_281 : decode cX12_lay 281 = .ok (.bastore, 1) := by decide +kernel
theorem dX12_lay_282 : decode cX12_lay 282 = .ok (.iinc 7 1, 3) := by decide +kernel
theorem dX12_lay_285 : decode cX12_lay 285 = .ok (.goto (-47), 3) := by decide +kernel
theorem dX12_lay_288 : decode cX12_lay 288 = .ok (.iinc 2 1, 3) := by decide +kernel
theorem dX12_lay_291 : decode cX12_lay 291 = .ok (.goto (-284), 3) := by decide +kernel
theorem dX12_lay_294 : decode cX12_lay 294 = .ok (.return_, 1) := by decide +kernel
theorem dX12_isDoor_0 : decode cX12_isDoor 0 = .ok (.iconst 0, 1) := by decide +kernel
theorem dX12_isDoor_1 : decode cX12_isDoor 1 = .ok (.istore_n 3, 1) := by decide +kernel
theorem dX12_isDoor_2 : decode cX12_isDoor 2 = .ok (.iload_n 3, 1) := by decide +kernel
theorem dX12_isDoor_3 : decode cX12_isDoor 3 = .ok (.aload_n 0, 1) := by decide +kernel
theorem dX12_isDoor_4 : decode cX12_isDoor 4 = .ok (.getfield 55, 3) := by decide +kernel
theorem dX12_isDoor_7 : decode cX12_isDoor 7 = .ok (.iconst 0, 1) := by decide +kernel
theorem dX12_isDoor_8 : decode cX12_isDoor 8 = .ok (.iaload, 1) := by decide +kernel
theorem dX12_isDoor_9 : decode cX12_isDoor 9 = .ok (.if_icmp .ge 31, 3) := by decide +kernel
theorem dX12_isDoor_12 : decode cX12_isDoor 12 = .ok (.aload_n 0, 1) := by decide +kernel
theorem dX12_isDoor_13 : decode cX12_isDoor 13 = .ok (.getfield 58, 3) := by decide +kernel
theorem dX12_isDoor_16 : decode cX12_isDoor 16 = .ok (.iload_n 3, 1) := by decide +kernel
theorem dX12_isDoor_17 : decode cX12_isDoor 17 = .ok (.iaload, 1) := by decide +kernel
theorem dX12_isDoor_18 : decode cX12_isDoor 18 = .ok (.iload_n 1, 1) := by decide +kernel
theorem dX12_isDoor_19 : decode cX12_isDoor 19 = .ok (.if_icmp .ne 15, 3) := by decide +kernel
theorem dX12_isDoor_22 : decode cX12_isDoor 22 = .ok (.aload_n 0, 1) := by decide +kernel
theorem dX12_isDoor_23 : decode cX12_isDoor 23 = .ok (.getfield 61, 3) := by decide +kernel
theorem dX12_isDoor_26 : decode cX12_isDoor 26 = .ok (.iload_n 3, 1) := by decide +kernel
theorem dX12_isDoor_27 : decode cX12_isDoor 27 = .ok (.iaload, 1) := by decide +kernel
theorem dX12_isDoor_28 : decode cX12_isDoor 28 = .ok (.iload_n 2, 1) := by decide +kernel
theorem dX12_isDoor_29 : decode cX12_isDoor 29 = .ok (.if_icmp .ne 5, 3) := by decide +kernel
theorem dX12_isDoor_32 : decode cX12_isDoor 32 = .ok (.iconst 1, 1) := by decide +kernel
theorem dX12_isDoor_33 : decode cX12_isDoor 33 = .ok (.ireturn, 1) := by decide +kernel
theorem dX12_isDoor_34 : decode cX12_isDoor 34 = .ok (.iinc 3 1, 3) := by decide +kernel
theorem dX12_isDoor_37 : decode cX12_isDoor 37 = .ok (.goto (-35), 3) := by decide +kernel
theorem dX12_isDoor_40 : decode cX12_isDoor 40 = .ok (.iconst 0, 1) := by decide +kernel
theorem dX12_isDoor_41 : decode cX12_isDoor 41 = .ok (.ireturn, 1) := by decide +kernel
theorem dX12_look_0 : decode cX12_look 0 = .ok (.iconst 0, 1) := by decide +kernel
theorem dX12_look_1 : decode cX12_look 1 = .ok (.istore_n 2, 1) := by decide +kernel
theorem dX12_look_2 : decode cX12_look 2 = .ok (.iload_n 2, 1) := by decide +kernel
theorem dX12_look_3 : decode cX12_look 3 = .ok (.bipush 9, 2) := by decide +kernel
theorem dX12_look_5 : decode cX12_look 5 = .ok (.if_icmp .ge 21, 3) := by decide +kernel
theorem dX12_look_8 : decode cX12_look 8 = .ok (.aload_n 0, 1) := by decide +kernel
theorem dX12_look_9 : decode cX12_look 9 = .ok (.getfield 181, 3) := by decide +kernel
theorem dX12_look_12 : decode cX12_look 12 = .ok (.iload_n 2, 1) := by decide +kernel
theorem dX12_look_13 : decode cX12_look 13 = .ok (.aload_n 0, 1) := by decide +kernel
theorem dX12_look_14 : decode cX12_look 14 = .ok (.iload_n 1, 1) := by decide +kernel
theorem dX12_look_15 : decode cX12_look 15 = .ok (.iload_n 2, 1) := by decide +kernel
theorem dX12_look_16 : decode cX12_look 16 = .ok (.invokevirtual 441, 3) := by decide +kernel
theorem dX12_look_19 : decode cX12_look 19 = .ok (.iastore, 1) := by decide +kernel
theorem dX12_look_20 : decode cX12_look 20 = .ok (.iinc 2 1, 3) := by decide +kernel
theorem dX12_look_23 : decode cX12_look 23 = .ok (.goto (-21), 3) := by decide +kernel
theorem dX12_look_26 : decode cX12_look 26 = .ok (.return_, 1) := by decide +kernel
theorem dX12_lineOf_0 : decode cX12_lineOf 0 = .ok (.iload_n 1, 1) := by decide +kernel
theorem dX12_lineOf_1 : decode cX12_lineOf 1 = .ok (.bipush 14, 2) := by decide +kernel
theorem dX12_lineOf_3 : decode cX12_lineOf 3 = .ok (.idiv, 1) := by decide +kernel
theorem dX12_lineOf_4 : decode cX12_lineOf 4 = .ok (.istore_n 3, 1) := by decide +kernel
theorem dX12_lineOf_5 : decode cX12_lineOf 5 = .ok (.iload_n 1, 1) := by decide +kernel
theorem dX12_lineOf_6 : decode cX12_lineOf 6 = .ok (.bipush 14, 2) := by decide +kernel
theorem dX12_lineOf_8 : decode cX12_lineOf 8 = .ok (.irem, 1) := by decide +kernel
theorem dX12_lineOf_9 : decode cX12_lineOf 9 = .ok (.istore 4, 2) := by decide +kernel
theorem dX12_lineOf_11 : decode cX12_lineOf 11 = .ok (.iload_n 2, 1) := by decide +kernel
theorem dX12_lineOf_12 : decode cX12_lineOf 12 = .ok (.iconst 2, 1) := by decide +kernel
theorem dX12_lineOf_13 : decode cX12_lineOf 13 = .ok (.if_icmp .ne 21, 3) := by decide +kernel
theorem dX12_lineOf_16 : decode cX12_lineOf 16 = .ok (.aload_n 0, 1) := by decide +kernel
theorem dX12_lineOf_17 : decode cX12_lineOf 17 = .ok (.getfield 163, 3) := by decide +kernel
theorem dX12_lineOf_20 : decode cX12_lineOf 20 = .ok (.iload_n 3, 1) := by decide +kernel
theorem dX12_lineOf_21 : decode cX12_lineOf 21 = .ok (.iaload, 1) := by decide +kernel
theorem dX12_lineOf_22 : decode cX12_lineOf 22 = .ok (.aload_n 0, 1) := by decide +kernel
theorem dX12_lineOf_23 : decode cX12_lineOf 23 = .ok (.getfield 163, 3) := by decide +kernel
theorem dX12_lineOf_26 : decode cX12_lineOf 26 = .ok (.iload 4, 2) := by decide +kernel
theorem dX12_lineOf_28 : decode cX12_lineOf 28 = .ok (.iaload, 1) := by decide +kernel
theorem dX12_lineOf_29 : decode cX12_lineOf 29 = .ok (.isub, 1) := by decide +kernel
theorem dX12_lineOf_30 : decode cX12_lineOf 30 = .ok (.invokestatic 425, 3) := by decide +kernel
theorem dX12_lineOf_33 : decode cX12_lineOf 33 = .ok (.ireturn, 1) := by decide +kernel
theorem dX12_lineOf_34 : decode cX12_lineOf 34 = .ok (.iload_n 2, 1) := by decide +kernel
theorem dX12_lineOf_35 : decode cX12_lineOf 35 = .ok (.iconst 3, 1) := by decide +kernel
theorem dX12_lineOf_36 : decode cX12_lineOf 36 = .ok (.if_icmp .ne 10, 3) := by decide +kernel
theorem dX12_lineOf_39 : decode cX12_lineOf 39 = .ok (.aload_n 0, 1) := by decide +kernel
theorem dX12_lineOf_40 : decode cX12_lineOf 40 = .ok (.getfield 175, 3) := by decide +kernel
theorem dX12_lineOf_43 : decode cX12_lineOf 43 = .ok (.iload_n 1, 1) := by decide +kernel
theorem dX12_lineOf_44 : decode cX12_lineOf 44 = .ok (.iaload, 1) := by decide +kernel
theorem dX12_lineOf_45 : decode cX12_lineOf 45 = .ok (.ireturn, 1) := by decide +kernel
theorem dX12_lineOf_46 : decode cX12_lineOf 46 = .ok (.iload_n 2, 1) := by decide +kernel
theorem dX12_lineOf_47 : decode cX12_lineOf 47 = .ok (.iconst 4, 1) := by decide +kernel
theorem dX12_lineOf_48 : decode cX12_lineOf 48 = .ok (.if_icmp .ne 34, 3) := by decide +kernel
theorem dX12_lineOf_51 : decode cX12_lineOf 51 = .ok (.aload_n 0, 1) := by decide +kernel
theorem dX12_lineOf_52 : decode cX12_lineOf 52 = .ok (.getfield 40, 3) := by decide +kernel
theorem dX12_lineOf_55 : decode cX12_lineOf 55 = .ok (.iload_n 3, 1) := by decide +kernel
theorem dX12_lineOf_56 : decode cX12_lineOf 56 = .ok (.baload, 1) := by decide +kernel
theorem dX12_lineOf_57 : decode cX12_lineOf 57 = .ok (.ifCond .eq 7, 3) := by decide +kernel
theorem dX12_lineOf_60 : decode cX12_lineOf 60 = .ok (.iconst 1, 1) := by decide +kernel
theorem dX12_lineOf_61 : decode cX12_lineOf 61 = .ok (.goto 4, 3) := by decide +kernel
theorem dX12_lineOf_64 : decode cX12_lineOf 64 = .ok (.iconst 0, 1) := by decide +kernel
theorem dX12_lineOf_65 : decode cX12_lineOf 65 = .ok (.aload_n 0, 1) := by decide +kernel
theorem dX12_lineOf_66 : decode cX12_lineOf 66 = .ok (.getfield 40, 3) := by decide +kernel
theorem dX12_lineOf_69 : decode cX12_lineOf 69 = .ok (.iload 4, 2) := by decide +kernel
theorem dX12_lineOf_71 : decode cX12_lineOf 71 = .ok (.baload, 1) := by decide +kernel
theorem dX12_lineOf_72 : decode cX12_lineOf 72 = .ok (.ifCond .eq 7, 3) := by decide +kernel
theorem dX12_lineOf_75 : decode cX12_lineOf 75 = .ok (.iconst 1, 1) := by decide +kernel
theorem dX12_lineOf_76 : decode cX12_lineOf 76 = .ok (.goto 4, 3) := by decide +kernel
theorem dX12_lineOf_79 : decode cX12_lineOf 79 = .ok (.iconst 0, 1) := by decide +kernel
theorem dX12_lineOf_80 : decode cX12_lineOf 80 = .ok (.iadd, 1) := by decide +kernel
theorem dX12_lineOf_81 : decode cX12_lineOf 81 = .ok (.ireturn, 1) := by decide +kernel
theorem dX12_lineOf_82 : decode cX12_lineOf 82 = .ok (.iload_n 2, 1) := by decide +kernel
theorem dX12_lineOf_83 : decode cX12_lineOf 83 = .ok (.iconst 5, 1) := by decide +kernel
theorem dX12_lineOf_84 : decode cX12_lineOf 84 = .ok (.if_icmp .ne 19, 3) := by decide +kernel
theorem dX12_lineOf_87 : decode cX12_lineOf 87 = .ok (.aload_n 0, 1) := by decide +kernel
theorem dX12_lineOf_88 : decode cX12_lineOf 88 = .ok (.iload_n 3, 1) := by decide +kernel
theorem dX12_lineOf_89 : decode cX12_lineOf 89 = .ok (.iload 4, 2) := by decide +kernel
theorem dX12_lineOf_91 : decode cX12_lineOf 91 = .ok (.invokevirtual 444, 3) := by decide +kernel
theorem dX12_lineOf_94 : decode cX12_lineOf 94 = .ok (.ifCond .eq 7, 3) := by decide +kernel
theorem dX12_lineOf_97 : decode cX12_lineOf 97 = .ok (.iconst 1, 1) := by decide +kernel
theorem dX12_lineOf_98 : decode cX12_lineOf 98 = .ok (.goto 4, 3) := by decide +kernel
theorem dX12_lineOf_101 : decode cX12_lineOf 101 = .ok (.iconst 0, 1) := by decide +kernel
theorem dX12_lineOf_102 : decode cX12_lineOf 102 = .ok (.ireturn, 1) := by decide +kernel
theorem dX12_lineOf_103 : decode cX12_lineOf 103 = .ok (.iload_n 2, 1) := by decide +kernel
theorem dX12_lineOf_104 : decode cX12_lineOf 104 = .ok (.bipush 6, 2) := by decide +kernel
theorem dX12_lineOf_106 : decode cX12_lineOf 106 = .ok (.if_icmp .ne 19, 3) := by decide +kernel
theorem dX12_lineOf_109 : decode cX12_lineOf 109 = .ok (.aload_n 0, 1) := by decide +kernel
theorem dX12_lineOf_110 : decode cX12_lineOf 110 = .ok (.iload 4, 2) := by decide +kernel
theorem dX12_lineOf_112 : decode cX12_lineOf 112 = .ok (.iload_n 3, 1) := by decide +kernel
theorem dX12_lineOf_113 : decode cX12_lineOf 113 = .ok (.invokevirtual 444, 3) := by decide +kernel
theorem dX12_lineOf_116 : decode cX12_lineOf 116 = .ok (.ifCond .eq 7, 3) := by decide +kernel
theorem dX12_lineOf_119 : decode cX12_lineOf 119 = .ok (.iconst 1, 1) := by decide +kernel
theorem dX12_lineOf_120 : decode cX12_lineOf 120 = .ok (.goto 4, 3) := by decide +kernel
theorem dX12_lineOf_123 : decode cX12_lineOf 123 = .ok (.iconst 0, 1) := by decide +kernel
theorem dX12_lineOf_124 : decode cX12_lineOf 124 = .ok (.ireturn, 1) := by decide +kernel
theorem dX12_lineOf_125 : decode cX12_lineOf 125 = .ok (.iload_n 2, 1) := by decide +kernel
theorem dX12_lineOf_126 : decode cX12_lineOf 126 = .ok (.bipush 7, 2) := by decide +kernel
theorem dX12_lineOf_128 : decode cX12_lineOf 128 = .ok (.if_icmp .ne 36, 3) := by decide +kernel
theorem dX12_lineOf_131 : decode cX12_lineOf 131 = .ok (.aload_n 0, 1) := by decide +kernel
theorem dX12_lineOf_132 : decode cX12_lineOf 132 = .ok (.getfield 163, 3) := by decide +kernel
theorem dX12_lineOf_135 : decode cX12_lineOf 135 = .ok (.iload_n 3, 1) := by decide +kernel
theorem dX12_lineOf_136 : decode cX12_lineOf 136 = .ok (.iaload, 1) := by decide +kernel
theorem dX12_lineOf_137 : decode cX12_lineOf 137 = .ok (.aload_n 0, 1) := by decide +kernel
theorem dX12_lineOf_138 : decode cX12_lineOf 138 = .ok (.getfield 163, 3) := by decide +kernel
theorem dX12_lineOf_141 : decode cX12_lineOf 141 = .ok (.iload 4, 2) := by decide +kernel
theorem dX12_lineOf_143 : decode cX12_lineOf 143 = .ok (.iaload, 1) := by decide +kernel
theorem dX12_lineOf_144 : decode cX12_lineOf 144 = .ok (.if_icmp .ge 12, 3) := by decide +kernel
theorem dX12_lineOf_147 : decode cX12_lineOf 147 = .ok (.aload_n 0, 1) := by decide +kernel
theorem dX12_lineOf_148 : decode cX12_lineOf 148 = .ok (.getfield 163, 3) := by decide +kernel
theorem dX12_lineOf_151 : decode cX12_lineOf 151 = .ok (.iload_n 3, 1) := by decide +kernel
theorem dX12_lineOf_152 : decode cX12_lineOf 152 = .ok (.iaload, 1) := by decide +kernel
theorem dX12_lineOf_153 : decode cX12_lineOf 153 = .ok (.goto 10, 3) := by decide +kernel
theorem dX12_lineOf_156 : decode cX12_lineOf 156 = .ok (.aload_n 0, 1) := by decide +kernel
theorem dX12_lineOf_157 : decode cX12_lineOf 157 = .ok (.getfield 163, 3) := by decide +kernel
theorem dX12_lineOf_160 : decode cX12_lineOf 160 = .ok (.iload 4, 2) := by decide +kernel
theorem dX12_lineOf_162 : decode cX12_lineOf 162 = .ok (.iaload, 1) := by decide +kernel
theorem dX12_lineOf_163 : decode cX12_lineOf 163 = .ok (.ireturn, 1) := by decide +kernel
theorem dX12_lineOf_164 : decode cX12_lineOf 164 = .ok (.iload_n 2, 1) := by decide +kernel
theorem dX12_lineOf_165 : decode cX12_lineOf 165 = .ok (.bipush 8, 2) := by decide +kernel
theorem dX12_lineOf_167 : decode cX12_lineOf 167 = .ok (.if_icmp .ne 12, 3) := by decide +kernel
theorem dX12_lineOf_170 : decode cX12_lineOf 170 = .ok (.aload_n 0, 1) := by decide +kernel
theorem dX12_lineOf_171 : decode cX12_lineOf 171 = .ok (.getfield 172, 3) := by decide +kernel
theorem dX12_lineOf_174 : decode cX12_lineOf 174 = .ok (.iload_n 1, 1) := by decide +kernel
theorem dX12_lineOf_175 : decode cX12_lineOf 175 = .ok (.iaload, 1) := by decide +kernel
theorem dX12_lineOf_176 : decode cX12_lineOf 176 = .ok (.goto 4, 3) := by decide +kernel
theorem dX12_lineOf_179 : decode cX12_lineOf 179 = .ok (.iconst 0, 1) := by decide +kernel
theorem dX12_lineOf_180 : decode cX12_lineOf 180 = .ok (.ireturn, 1) := by decide +kernel
theorem dX12_sum_0 : decode cX12_sum 0 = .ok (.iconst 0, 1) := by decide +kernel
theorem dX12_sum_1 : decode cX12_sum 1 = .ok (.istore_n 3, 1) := by decide +kernel
theorem dX12_sum_2 : decode cX12_sum 2 = .ok (.aload_n 0, 1) := by decide +kernel
theorem dX12_sum_3 : decode cX12_sum 3 = .ok (.iconst 0, 1) := by decide +kernel
theorem dX12_sum_4 : decode cX12_sum 4 = .ok (.putfield 447, 3) := by decide +kernel
theorem dX12_sum_7 : decode cX12_sum 7 = .ok (.iload_n 1, 1) := by decide +kernel
theorem dX12_sum_8 : decode cX12_sum 8 = .ok (.istore 4, 2) := by decide +kernel
theorem dX12_sum_10 : decode cX12_sum 10 = .ok (.iload 4, 2) := by decide +kernel
theorem dX12_sum_12 : decode cX12_sum 12 = .ok (.iload_n 2, 1) := by decide +kernel
theorem dX12_sum_13 : decode cX12_sum 13 = .ok (.if_icmp .ge 159, 3) := by decide +kernel
theorem dX12_sum_16 : decode cX12_sum 16 = .ok (.aload_n 0, 1) := by decide +kernel
theorem dX12_sum_17 : decode cX12_sum 17 = .ok (.getfield 100, 3) := by decide +kernel
theorem dX12_sum_20 : decode cX12_sum 20 = .ok (.iload 4, 2) := by decide +kernel
theorem dX12_sum_22 : decode cX12_sum 22 = .ok (.iaload, 1) := by decide +kernel
theorem dX12_sum_23 : decode cX12_sum 23 = .ok (.istore 5, 2) := by decide +kernel
theorem dX12_sum_25 : decode cX12_sum 25 = .ok (.iload 5, 2) := by decide +kernel
theorem dX12_sum_27 : decode cX12_sum 27 = .ok (.iconst 2, 1) := by decide +kernel
theorem dX12_sum_28 : decode cX12_sum 28 = .ok (.if_icmp .ge 42, 3) := by decide +kernel
theorem dX12_sum_31 : decode cX12_sum 31 = .ok (.aload_n 0, 1) := by decide +kernel
theorem dX12_sum_32 : decode cX12_sum 32 = .ok (.getfield 184, 3) := by decide +kernel
theorem dX12_sum_35 : decode cX12_sum 35 = .ok (.iload_n 3, 1) := by decide +kernel
theorem dX12_sum_36 : decode cX12_sum 36 = .ok (.iload 5, 2) := by decide +kernel
theorem dX12_sum_38 : decode cX12_sum 38 = .ok (.ifCond .ne 13, 3) := by decide +kernel
theorem dX12_sum_41 : decode cX12_sum 41 = .ok (.aload_n 0, 1) := by decide +kernel
theorem dX12_sum_42 : decode cX12_sum 42 = .ok (.getfield 103, 3) := by decide +kernel
theorem dX12_sum_45 : decode cX12_sum 45 = .ok (.iload 4, 2) := by decide +kernel
theorem dX12_sum_47 : decode cX12_sum 47 = .ok (.iaload, 1) := by decide +kernel
theorem dX12_sum_48 : decode cX12_sum 48 = .ok (.goto 15, 3) := by decide +kernel
theorem dX12_sum_51 : decode cX12_sum 51 = .ok (.aload_n 0, 1) := by decide +kernel
theorem dX12_sum_52 : decode cX12_sum 52 = .ok (.getfield 181, 3) := by decide +kernel
theorem dX12_sum_55 : decode cX12_sum 55 = .ok (.aload_n 0, 1) := by decide +kernel
theorem dX12_sum_56 : decode cX12_sum 56 = .ok (.getfield 103, 3) := by decide +kernel
theorem dX12_sum_59 : decode cX12_sum 59 = .ok (.iload 4, 2) := by decide +kernel
theorem dX12_sum_61 : decode cX12_sum 61 = .ok (.iaload, 1) := by decide +kernel
theorem dX12_sum_62 : decode cX12_sum 62 = .ok (.iaload, 1) := by decide +kernel
theorem dX12_sum_63 : decode cX12_sum 63 = .ok (.iastore, 1) := by decide +kernel
theorem dX12_sum_64 : decode cX12_sum 64 = .ok (.iinc 3 1, 3) := by decide +kernel
theorem dX12_sum_67 : decode cX12_sum 67 = .ok (.goto 99, 3) := by decide +kernel
theorem dX12_sum_70 : decode cX12_sum 70 = .ok (.aload_n 0, 1) := by decide +kernel
theorem dX12_sum_71 : decode cX12_sum 71 = .ok (.getfield 184, 3) := by decide +kernel
theorem dX12_sum_74 : decode cX12_sum 74 = .ok (.iload_n 3, 1) := by decide +kernel
theorem dX12_sum_75 : decode cX12_sum 75 = .ok (.iconst 1, 1) := by decide +kernel
theorem dX12_sum_76 : decode cX12_sum 76 = .ok (.isub, 1) := by decide +kernel
theorem dX12_sum_77 : decode cX12_sum 77 = .ok (.iaload, 1) := by decide +kernel
theorem dX12_sum_78 : decode cX12_sum 78 = .ok (.istore 6, 2) := by decide +kernel
theorem dX12_sum_80 : decode cX12_sum 80 = .ok (.aload_n 0, 1) := by decide +kernel
theorem dX12_sum_81 : decode cX12_sum 81 = .ok (.getfield 184, 3) := by decide +kernel
theorem dX12_sum_84 : decode cX12_sum 84 = .ok (.iload_n 3, 1) := by decide +kernel
theorem dX12_sum_85 : decode cX12_sum 85 = .ok (.iconst 2, 1) := by decide +kernel
theorem dX12_sum_86 : decode cX12_sum 86 = .ok (.isub, 1) := by decide +kernel
theorem dX12_sum_87 : decode cX12_sum 87 = .ok (.iaload, 1) := by decide +kernel
theorem dX12_sum_88 : decode cX12_sum 88 = .ok (.istore 7, 2) := by decide +kernel
theorem dX12_sum_90 : decode cX12_sum 90 = .ok (.iinc 3 (-1), 3) := by decide +kernel
theorem dX12_sum_93 : decode cX12_sum 93 = .ok (.iload 5, 2) := by decide +kernel
theorem dX12_sum_95 : decode cX12_sum 95 = .ok (.iconst 5, 1) := by decide +kernel
theorem dX12_sum_96 : decode cX12_sum 96 = .ok (.if_icmp .ne 15, 3) := by decide +kernel
theorem dX12_sum_99 : decode cX12_sum 99 = .ok (.iload 6, 2) := by decide +kernel
theorem dX12_sum_101 : decode cX12_sum 101 = .ok (.ifCond .ne 10, 3) := by decide +kernel
theorem dX12_sum_104 : decode cX12_sum 104 = .ok (.aload_n 0, 1) := by decide +kernel
theorem dX12_sum_105 : decode cX12_sum 105 = .ok (.iconst 1, 1) := by decide +kernel
theorem dX12_sum_106 : decode cX12_sum 106 = .ok (.putfield 447, 3) := by decide +kernel
theorem dX12_sum_109 : decode cX12_sum 109 = .ok (.iconst 0, 1) := by decide +kernel
theorem dX12_sum_110 : decode cX12_sum 110 = .ok (.ireturn, 1) := by decide +kernel
theorem dX12_sum_111 : decode cX12_sum 111 = .ok (.aload_n 0, 1) := by decide +kernel
theorem dX12_sum_112 : decode cX12_sum 112 = .ok (.getfield 184, 3) := by decide +kernel
theorem dX12_sum_115 : decode cX12_sum 115 = .ok (.iload_n 3, 1) := by decide +kernel
theorem dX12_sum_116 : decode cX12_sum 116 = .ok (.iconst 1, 1) := by decide +kernel
theorem dX12_sum_117 : decode cX12_sum 117 = .ok (.isub, 1) := by decide +kernel
theorem dX12_sum_118 : decode cX12_sum 118 = .ok (.iload 5, 2) := by decide +kernel
theorem dX12_sum_120 : decode cX12_sum 120 = .ok (.iconst 2, 1) := by decide +kernel
theorem dX12_sum_121 : decode cX12_sum 121 = .ok (.if_icmp .ne 11, 3) := by decide +kernel
theorem dX12_sum_124 : decode cX12_sum 124 = .ok (.iload 7, 2) := by decide +kernel
theorem dX12_sum_126 : decode cX12_sum 126 = .ok (.iload 6, 2) := by decide +kernel
theorem dX12_sum_128 : decode cX12_sum 128 = .ok (.iadd, 1) := by decide +kernel
theorem dX12_sum_129 : decode cX12_sum 129 = .ok (.goto 36, 3) := by decide +kernel
theorem dX12_sum_132 : decode cX12_sum 132 = .ok (.iload 5, 2) := by decide +kernel
theorem dX12_sum_134 : decode cX12_sum 134 = .ok (.iconst 3, 1) := by decide +kernel
theorem dX12_sum_135 : decode cX12_sum 135 = .ok (.if_icmp .ne 11, 3) := by decide +kernel
theorem dX12_sum_138 : decode cX12_sum 138 = .ok (.iload 7, 2) := by decide +kernel
theorem dX12_sum_140 : decode cX12_sum 140 = .ok (.iload 6, 2) := by decide +kernel
theorem dX12_sum_142 : decode cX12_sum 142 = .ok (.isub, 1) := by decide +kernel
theorem dX12_sum_143 : decode cX12_sum 143 = .ok (.goto 22, 3) := by decide +kernel
theorem dX12_sum_146 : decode cX12_sum 146 = .ok (.iload 5, 2) := by decide +kernel
theorem dX12_sum_148 : decode cX12_sum 148 = .ok (.iconst 4, 1) := by decide +kernel
theorem dX12_sum_149 : decode cX12_sum 149 = .ok (.if_icmp .ne 11, 3) := by decide +kernel
theorem dX12_sum_152 : decode cX12_sum 152 = .ok (.iload 7, 2) := by decide +kernel
theorem dX12_sum_154 : decode cX12_sum 154 = .ok (.iload 6, 2) := by decide +kernel
theorem dX12_sum_156 : decode cX12_sum 156 = .ok (.imul, 1) := by decide +kernel
theorem dX12_sum_157 : decode cX12_sum 157 = .ok (.goto 8, 3) := by decide +kernel
theorem dX12_sum_160 : decode cX12_sum 160 = .ok (.iload 7, 2) := by decide +kernel
theorem dX12_sum_162 : decode cX12_sum 162 = .ok (.iload 6, 2) := by decide +kernel
theorem dX12_sum_164 : decode cX12_sum 164 = .ok (.idiv, 1) := by decide +kernel
theorem dX12_sum_165 : decode cX12_sum 165 = .ok (.iastore, 1) := by decide +kernel
theorem dX12_sum_166 : decode cX12_sum 166 = .ok (.iinc 4 1, 3) := by decide +kernel
theorem dX12_sum_169 : decode cX12_sum 169 = .ok (.goto (-159), 3) := by decide +kernel
theorem dX12_sum_172 : decode cX12_sum 172 = .ok (.aload_n 0, 1) := by decide +kernel
theorem dX12_sum_173 : decode cX12_sum 173 = .ok (.getfield 184, 3) := by decide +kernel
theorem dX12_sum_176 : decode cX12_sum 176 = .ok (.iconst 0, 1) := by decide +kernel
theorem dX12_sum_177 : decode cX12_sum 177 = .ok (.iaload, 1) := by decide +kernel
theorem dX12_sum_178 : decode cX12_sum 178 = .ok (.ireturn, 1) := by decide +kernel
theorem dX12_isLit_0 : decode cX12_isLit 0 = .ok (.aload_n 0, 1) := by decide +kernel
theorem dX12_isLit_1 : decode cX12_isLit 1 = .ok (.aload_n 0, 1) := by decide +kernel
theorem dX12_isLit_2 : decode cX12_isLit 2 = .ok (.getfield 115, 3) := by decide +kernel
theorem dX12_isLit_5 : decode cX12_isLit 5 = .ok (.iload_n 1, 1) := by decide +kernel
theorem dX12_isLit_6 : decode cX12_isLit 6 = .ok (.iaload, 1) := by decide +kernel
theorem dX12_isLit_7 : decode cX12_isLit 7 = .ok (.aload_n 0, 1) := by decide +kernel
theorem dX12_isLit_8 : decode cX12_isLit 8 = .ok (.getfield 118, 3) := by decide +kernel
theorem dX12_isLit_11 : decode cX12_isLit 11 = .ok (.iload_n 1, 1) := by decide +kernel
theorem dX12_isLit_12 : decode cX12_isLit 12 = .ok (.iaload, 1) := by decide +kernel
theorem dX12_isLit_13 : decode cX12_isLit 13 = .ok (.invokevirtual 451, 3) := by decide +kernel
theorem dX12_isLit_16 : decode cX12_isLit 16 = .ok (.istore_n 2, 1) := by decide +kernel
theorem dX12_isLit_17 : decode cX12_isLit 17 = .ok (.aload_n 0, 1) := by decide +kernel
theorem dX12_isLit_18 : decode cX12_isLit 18 = .ok (.getfield 447, 3) := by decide +kernel
theorem dX12_isLit_21 : decode cX12_isLit 21 = .ok (.ifCond .eq 10, 3) := by decide +kernel
theorem dX12_isLit_24 : decode cX12_isLit 24 = .ok (.aload_n 0, 1) := by decide +kernel
theorem dX12_isLit_25 : decode cX12_isLit 25 = .ok (.getfield 109, 3) := by decide +kernel
theorem dX12_isLit_28 : decode cX12_isLit 28 = .ok (.iload_n 1, 1) := by decide +kernel
theorem dX12_isLit_29 : decode cX12_isLit 29 = .ok (.baload, 1) := by decide +kernel
theorem dX12_isLit_30 : decode cX12_isLit 30 = .ok (.ireturn, 1) := by decide +kernel
theorem dX12_isLit_31 : decode cX12_isLit 31 = .ok (.aload_n 0, 1) := by decide +kernel
theorem dX12_isLit_32 : decode cX12_isLit 32 = .ok (.aload_n 0, 1) := by decide +kernel
theorem dX12_isLit_33 : decode cX12_isLit 33 = .ok (.getfield 118, 3) := by decide +kernel
theorem dX12_isLit_36 : decode cX12_isLit 36 = .ok (.iload_n 1, 1) := by decide +kernel
theorem dX12_isLit_37 : decode cX12_isLit 37 = .ok (.iaload, 1) := by decide +kernel
theorem dX12_isLit_38 : decode cX12_isLit 38 = .ok (.aload_n 0, 1) := by decide +kernel
theorem dX12_isLit_39 : decode cX12_isLit 39 = .ok (.getfield 121, 3) := by decide +kernel
theorem dX12_isLit_42 : decode cX12_isLit 42 = .ok (.iload_n 1, 1) := by decide +kernel
theorem dX12_isLit_43 : decode cX12_isLit 43 = .ok (.iaload, 1) := by decide +kernel
theorem dX12_isLit_44 : decode cX12_isLit 44 = .ok (.invokevirtual 451, 3) := by decide +kernel
theorem dX12_isLit_47 : decode cX12_isLit 47 = .ok (.istore_n 3, 1) := by decide +kernel
theorem dX12_isLit_48 : decode cX12_isLit 48 = .ok (.aload_n 0, 1) := by decide +kernel
theorem dX12_isLit_49 : decode cX12_isLit 49 = .ok (.getfield 447, 3) := by decide +kernel
theorem dX12_isLit_52 : decode cX12_isLit 52 = .ok (.ifCond .eq 10, 3) := by decide +kernel
theorem dX12_isLit_55 : decode cX12_isLit 55 = .ok (.aload_n 0, 1) := by decide +kernel
theorem dX12_isLit_56 : decode cX12_isLit 56 = .ok (.getfield 109, 3) := by decide +kernel
theorem dX12_isLit_59 : decode cX12_isLit 59 = .ok (.iload_n 1, 1) := by decide +kernel
theorem dX12_isLit_60 : decode cX12_isLit 60 = .ok (.baload, 1) := by decide +kernel
theorem dX12_isLit_61 : decode cX12_isLit 61 = .ok (.ireturn, 1) := by decide +kernel
theorem dX12_isLit_62 : decode cX12_isLit 62 = .ok (.aload_n 0, 1) := by decide +kernel
theorem dX12_isLit_63 : decode cX12_isLit 63 = .ok (.getfield 112, 3) := by decide +kernel
theorem dX12_isLit_66 : decode cX12_isLit 66 = .ok (.iload_n 1, 1) := by decide +kernel
theorem dX12_isLit_67 : decode cX12_isLit 67 = .ok (.iaload, 1) := by decide +kernel
theorem dX12_isLit_68 : decode cX12_isLit 68 = .ok (.sipush 300, 3) := by decide +kernel
theorem dX12_isLit_71 : decode cX12_isLit 71 = .ok (.if_icmp .ne 16, 3) := by decide +kernel
theorem dX12_isLit_74 : decode cX12_isLit 74 = .ok (.iload_n 2, 1) := by decide +kernel
theorem dX12_isLit_75 : decode cX12_isLit 75 = .ok (.iload_n 3, 1) := by decide +kernel
theorem dX12_isLit_76 : decode cX12_isLit 76 = .ok (.if_icmp .ne 7, 3) := by decide +kernel
theorem dX12_isLit_79 : decode cX12_isLit 79 = .ok (.iconst 1, 1) := by decide +kernel
theorem dX12_isLit_80 : decode cX12_isLit 80 = .ok (.goto 67, 3) := by decide +kernel
theorem dX12_isLit_83 : decode cX12_isLit 83 = .ok (.iconst 0, 1) := by decide +kernel
theorem dX12_isLit_84 : decode cX12_isLit 84 = .ok (.goto 63, 3) := by decide +kernel
theorem dX12_isLit_87 : decode cX12_isLit 87 = .ok (.aload_n 0, 1) := by decide +kernel
theorem dX12_isLit_88 : decode cX12_isLit 88 = .ok (.getfield 112, 3) := by decide +kernel
theorem dX12_isLit_91 : decode cX12_isLit 91 = .ok (.iload_n 1, 1) := by decide +kernel
theorem dX12_isLit_92 : decode cX12_isLit 92 = .ok (.iaload, 1) := by decide +kernel
theorem dX12_isLit_93 : decode cX12_isLit 93 = .ok (.sipush 301, 3) := by decide +kernel
theorem dX12_isLit_96 : decode cX12_isLit 96 = .ok (.if_icmp .ne 16, 3) := by decide +kernel
theorem dX12_isLit_99 : decode cX12_isLit 99 = .ok (.iload_n 2, 1) := by decide +kernel
theorem dX12_isLit_100 : decode cX12_isLit 100 = .ok (.iload_n 3, 1) := by decide +kernel
theorem dX12_isLit_101 : decode cX12_isLit 101 = .ok (.if_icmp .eq 7, 3) := by decide +kernel
theorem dX12_isLit_104 : decode cX12_isLit 104 = .ok (.iconst 1, 1) := by decide +kernel
theorem dX12_isLit_105 : decode cX12_isLit 105 = .ok (.goto 42, 3) := by decide +kernel
theorem dX12_isLit_108 : decode cX12_isLit 108 = .ok (.iconst 0, 1) := by decide +kernel
theorem dX12_isLit_109 : decode cX12_isLit 109 = .ok (.goto 38, 3) := by decide +kernel
theorem dX12_isLit_112 : decode cX12_isLit 112 = .ok (.aload_n 0, 1) := by decide +kernel
theorem dX12_isLit_113 : decode cX12_isLit 113 = .ok (.getfield 112, 3) := by decide +kernel
theorem dX12_isLit_116 : decode cX12_isLit 116 = .ok (.iload_n 1, 1) := by decide +kernel
theorem dX12_isLit_117 : decode cX12_isLit 117 = .ok (.iaload, 1) := by decide +kernel
theorem dX12_isLit_118 : decode cX12_isLit 118 = .ok (.sipush 302, 3) := by decide +kernel
theorem dX12_isLit_121 : decode cX12_isLit 121 = .ok (.if_icmp .ne 16, 3) := by decide +kernel
theorem dX12_isLit_124 : decode cX12_isLit 124 = .ok (.iload_n 2, 1) := by decide +kernel
theorem dX12_isLit_125 : decode cX12_isLit 125 = .ok (.iload_n 3, 1) := by decide +kernel
theorem dX12_isLit_126 : decode cX12_isLit 126 = .ok (.if_icmp .gt 7, 3) := by decide +kernel
theorem dX12_isLit_129 : decode cX12_isLit 129 = .ok (.iconst 1, 1) := by decide +kernel
theorem dX12_isLit_130 : decode cX12_isLit 130 = .ok (.goto 17, 3) := by decide +kernel
theorem dX12_isLit_133 : decode cX12_isLit 133 = .ok (.iconst 0, 1) := by decide +kernel
theorem dX12_isLit_134 : decode cX12_isLit 134 = .ok (.goto 13, 3) := by decide +kernel
theorem dX12_isLit_137 : decode cX12_isLit 137 = .ok (.iload_n 2, 1) := by decide +kernel
theorem dX12_isLit_138 : decode cX12_isLit 138 = .ok (.iload_n 3, 1) := by decide +kernel
theorem dX12_isLit_139 : decode cX12_isLit 139 = .ok (.if_icmp .ge 7, 3) := by decide +kernel
theorem dX12_isLit_142 : decode cX12_isLit 142 = .ok (.iconst 1, 1) := by decide +kernel
theorem dX12_isLit_143 : decode cX12_isLit 143 = .ok (.goto 4, 3) := by decide +kernel
theorem dX12_isLit_146 : decode cX12_isLit 146 = .ok (.iconst 0, 1) := by decide +kernel
theorem dX12_isLit_147 : decode cX12_isLit 147 = .ok (.istore 4, 2) := by decide +kernel
theorem dX12_isLit_149 : decode cX12_isLit 149 = .ok (.iload 4, 2) := by decide +kernel
theorem dX12_isLit_151 : decode cX12_isLit 151 = .ok (.aload_n 0, 1) := by decide +kernel
theorem dX12_isLit_152 : decode cX12_isLit 152 = .ok (.getfield 109, 3) := by decide +kernel
theorem dX12_isLit_155 : decode cX12_isLit 155 = .ok (.iload_n 1, 1) := by decide +kernel
theorem dX12_isLit_156 : decode cX12_isLit 156 = .ok (.baload, 1) := by decide +kernel
theorem dX12_isLit_157 : decode cX12_isLit 157 = .ok (.if_icmp .eq 7, 3) := by decide +kernel
theorem dX12_isLit_160 : decode cX12_isLit 160 = .ok (.iconst 1, 1) := by decide +kernel
theorem dX12_isLit_161 : decode cX12_isLit 161 = .ok (.goto 4, 3) := by decide +kernel
theorem dX12_isLit_164 : decode cX12_isLit 164 = .ok (.iconst 0, 1) := by decide +kernel
theorem dX12_isLit_165 : decode cX12_isLit 165 = .ok (.ireturn, 1) := by decide +kernel
theorem dX12_isHeld_0 : decode cX12_isHeld 0 = .ok (.iload_n 1, 1) := by decide +kernel
theorem dX12_isHeld_1 : decode cX12_isHeld 1 = .ok (.istore_n 3, 1) := by decide +kernel
theorem dX12_isHeld_2 : decode cX12_isHeld 2 = .ok (.iload_n 3, 1) := by decide +kernel
theorem dX12_isHeld_3 : decode cX12_isHeld 3 = .ok (.iload_n 2, 1) := by decide +kernel
theorem dX12_isHeld_4 : decode cX12_isHeld 4 = .ok (.if_icmp .ge 58, 3) := by decide +kernel
theorem dX12_isHeld_7 : decode cX12_isHeld 7 = .ok (.aload_n 0, 1) := by decide +kernel
theorem dX12_isHeld_8 : decode cX12_isHeld 8 = .ok (.getfield 124, 3) := by decide +kernel
theorem dX12_isHeld_11 : decode cX12_isHeld 11 = .ok (.iload_n 3, 1) := by decide +kernel
theorem dX12_isHeld_12 : decode cX12_isHeld 12 = .ok (.iaload, 1) := by decide +kernel
theorem dX12_isHeld_13 : decode cX12_isHeld 13 = .ok (.istore 4, 2) := by decide +kernel
theorem dX12_isHeld_15 : decode cX12_isHeld 15 = .ok (.iconst 1, 1) := by decide +kernel
theorem dX12_isHeld_16 : decode cX12_isHeld 16 = .ok (.istore 5, 2) := by decide +kernel
theorem dX12_isHeld_18 : decode cX12_isHeld 18 = .ok (.iload_n 3, 1) := by decide +kernel
theorem dX12_isHeld_19 : decode cX12_isHeld 19 = .ok (.iload_n 2, 1) := by decide +kernel
theorem dX12_isHeld_20 : decode cX12_isHeld 20 = .ok (.if_icmp .ge 32, 3) := by decide +kernel
theorem dX12_isHeld_23 : decode cX12_isHeld 23 = .ok (.aload_n 0, 1) := by decide +kernel
theorem dX12_isHeld_24 : decode cX12_isHeld 24 = .ok (.getfield 124, 3) := by decide +kernel
theorem dX12_isHeld_27 : decode cX12_isHeld 27 = .ok (.iload_n 3, 1) := by decide +kernel
theorem dX12_isHeld_28 : decode cX12_isHeld 28 = .ok (.iaload, 1) := by decide +kernel
theorem dX12_isHeld_29 : decode cX12_isHeld 29 = .ok (.iload 4, 2) := by decide +kernel
theorem dX12_isHeld_31 : decode cX12_isHeld 31 = .ok (.if_icmp .ne 21, 3) := by decide +kernel
theorem dX12_isHeld_34 : decode cX12_isHeld 34 = .ok (.iload 5, 2) := by decide +kernel
theorem dX12_isHeld_36 : decode cX12_isHeld 36 = .ok (.ifCond .eq 10, 3) := by decide +kernel
theorem dX12_isHeld_39 : decode cX12_isHeld 39 = .ok (.aload_n 0, 1) := by decide +kernel
theorem dX12_isHeld_40 : decode cX12_isHeld 40 = .ok (.iload_n 3, 1) := by decide +kernel
theorem dX12_isHeld_41 : decode cX12_isHeld 41 = .ok (.invokevirtual 454, 3) := by decide +kernel
theorem dX12_isHeld_44 : decode cX12_isHeld 44 = .ok (.istore 5, 2) := by decide +kernel
theorem dX12_isHeld_46 : decode cX12_isHeld 46 = .ok (.iinc 3 1, 3) := by decide +kernel
theorem dX12_isHeld_49 : decode cX12_isHeld 49 = .ok (.goto (-31), 3) := by decide +kernel
theorem dX12_isHeld_52 : decode cX12_isHeld 52 = .ok (.iload 5, 2) := by decide +kernel
theorem dX12_isHeld_54 : decode cX12_isHeld 54 = .ok (.ifCond .eq 5, 3) := by decide +kernel
theorem dX12_isHeld_57 : decode cX12_isHeld 57 = .ok (.iconst 1, 1) := by decide +kernel
theorem dX12_isHeld_58 : decode cX12_isHeld 58 = .ok (.ireturn, 1) := by decide +kernel
theorem dX12_isHeld_59 : decode cX12_isHeld 59 = .ok (.goto (-57), 3) := by decide +kernel
theorem dX12_isHeld_62 : decode cX12_isHeld 62 = .ok (.iconst 0, 1) := by decide +kernel
theorem dX12_isHeld_63 : decode cX12_isHeld 63 = .ok (.ireturn, 1) := by decide +kernel
theorem dX12_thing_0 : decode cX12_thing 0 = .ok (.aload_n 0, 1) := by decide +kernel
theorem dX12_thing_1 : decode cX12_thing 1 = .ok (.iload_n 1, 1) := by decide +kernel
theorem dX12_thing_2 : decode cX12_thing 2 = .ok (.invokevirtual 415, 3) := by decide +kernel
theorem dX12_thing_5 : decode cX12_thing 5 = .ok (.ifCond .eq 20, 3) := by decide +kernel
theorem dX12_thing_8 : decode cX12_thing 8 = .ok (.iload_n 2, 1) := by decide +kernel
theorem dX12_thing_9 : decode cX12_thing 9 = .ok (.iconst 0, 1) := by decide +kernel
theorem dX12_thing_10 : decode cX12_thing 10 = .ok (.iconst 4, 1) := by decide +kernel
theorem dX12_thing_11 : decode cX12_thing 11 = .ok (.invokestatic 407, 3) := by decide +kernel
theorem dX12_thing_14 : decode cX12_thing 14 = .ok (.ifCond .eq 11, 3) := by decide +kernel
theorem dX12_thing_17 : decode cX12_thing 17 = .ok (.aload_n 0, 1) := by decide +kernel
theorem dX12_thing_18 : decode cX12_thing 18 = .ok (.iload_n 3, 1) := by decide +kernel
theorem dX12_thing_19 : decode cX12_thing 19 = .ok (.invokevirtual 457, 3) := by decide +kernel
theorem dX12_thing_22 : decode cX12_thing 22 = .ok (.ifCond .ne 5, 3) := by decide +kernel
theorem dX12_thing_25 : decode cX12_thing 25 = .ok (.iconst (-1), 1) := by decide +kernel
theorem dX12_thing_26 : decode cX12_thing 26 = .ok (.ireturn, 1) := by decide +kernel
theorem dX12_thing_27 : decode cX12_thing 27 = .ok (.aload_n 0, 1) := by decide +kernel
theorem dX12_thing_28 : decode cX12_thing 28 = .ok (.iload_n 3, 1) := by decide +kernel
theorem dX12_thing_29 : decode cX12_thing 29 = .ok (.invokevirtual 428, 3) := by decide +kernel
theorem dX12_thing_32 : decode cX12_thing 32 = .ok (.iload_n 2, 1) := by decide +kernel
theorem dX12_thing_33 : decode cX12_thing 33 = .ok (.ifCond .ne 12, 3) := by decide +kernel
theorem dX12_thing_36 : decode cX12_thing 36 = .ok (.aload_n 0, 1) := by decide +kernel
theorem dX12_thing_37 : decode cX12_thing 37 = .ok (.getfield 157, 3) := by decide +kernel
theorem dX12_thing_40 : decode cX12_thing 40 = .ok (.iload_n 1, 1) := by decide +kernel
theorem dX12_thing_41 : decode cX12_thing 41 = .ok (.iaload, 1) := by decide +kernel
theorem dX12_thing_42 : decode cX12_thing 42 = .ok (.goto 67, 3) := by decide +kernel
theorem dX12_thing_45 : decode cX12_thing 45 = .ok (.iload_n 2, 1) := by decide +kernel
theorem dX12_thing_46 : decode cX12_thing 46 = .ok (.iconst 1, 1) := by decide +kernel
theorem dX12_thing_47 : decode cX12_thing 47 = .ok (.if_icmp .ne 12, 3) := by decide +kernel
theorem dX12_thing_50 : decode cX12_thing 50 = .ok (.aload_n 0, 1) := by decide +kernel
theorem dX12_thing_51 : decode cX12_thing 51 = .ok (.getfield 160, 3) := by decide +kernel
theorem dX12_thing_54 : decode cX12_thing 54 = .ok (.iload_n 1, 1) := by decide +kernel
theorem dX12_thing_55 : decode cX12_thing 55 = .ok (.iaload, 1) := by decide +kernel
theorem dX12_thing_56 : decode cX12_thing 56 = .ok (.goto 53, 3) := by decide +kernel
theorem dX12_thing_59 : decode cX12_thing 59 = .ok (.iload_n 2, 1) := by decide +kernel
theorem dX12_thing_60 : decode cX12_thing 60 = .ok (.iconst 2, 1) := by decide +kernel
theorem dX12_thing_61 : decode cX12_thing 61 = .ok (.if_icmp .ne 12, 3) := by decide +kernel
theorem dX12_thing_64 : decode cX12_thing 64 = .ok (.aload_n 0, 1) := by decide +kernel
theorem dX12_thing_65 : decode cX12_thing 65 = .ok (.getfield 163, 3) := by decide +kernel
theorem dX12_thing_68 : decode cX12_thing 68 = .ok (.iload_n 1, 1) := by decide +kernel
theorem dX12_thing_69 : decode cX12_thing 69 = .ok (.iaload, 1) := by decide +kernel
theorem dX12_thing_70 : decode cX12_thing 70 = .ok (.goto 39, 3) := by decide +kernel
theorem dX12_thing_73 : decode cX12_thing 73 = .ok (.iload_n 2, 1) := by decide +kernel
theorem dX12_thing_74 : decode cX12_thing 74 = .ok (.iconst 3, 1) := by decide +kernel
theorem dX12_thing_75 : decode cX12_thing 75 = .ok (.if_icmp .ne 20, 3) := by decide +kernel
theorem dX12_thing_78 : decode cX12_thing 78 = .ok (.aload_n 0, 1) := by decide +kernel
theorem dX12_thing_79 : decode cX12_thing 79 = .ok (.getfield 40, 3) := by decide +kernel
theorem dX12_thing_82 : decode cX12_thing 82 = .ok (.iload_n 1, 1) := by decide +kernel
theorem dX12_thing_83 : decode cX12_thing 83 = .ok (.baload, 1) := by decide +kernel
theorem dX12_thing_84 : decode cX12_thing 84 = .ok (.ifCond .eq 7, 3) := by decide +kernel
theorem dX12_thing_87 : decode cX12_thing 87 = .ok (.iconst 1, 1) := by decide +kernel
theorem dX12_thing_88 : decode cX12_thing 88 = .ok (.goto 21, 3) := by decide +kernel
theorem dX12_thing_91 : decode cX12_thing 91 = .ok (.iconst 0, 1) := by decide +kernel
theorem dX12_thing_92 : decode cX12_thing 92 = .ok (.goto 17, 3) := by decide +kernel
theorem dX12_thing_95 : decode cX12_thing 95 = .ok (.aload_n 0, 1) := by decide +kernel
theorem dX12_thing_96 : decode cX12_thing 96 = .ok (.getfield 166, 3) := by decide +kernel
theorem dX12_thing_99 : decode cX12_thing 99 = .ok (.iload_n 1, 1) := by decide +kernel
theorem dX12_thing_100 : decode cX12_thing 100 = .ok (.baload, 1) := by decide +kernel
theorem dX12_thing_101 : decode cX12_thing 101 = .ok (.ifCond .eq 7, 3) := by decide +kernel
theorem dX12_thing_104 : decode cX12_thing 104 = .ok (.iconst 1, 1) := by decide +kernel
theorem dX12_thing_105 : decode cX12_thing 105 = .ok (.goto 4, 3) := by decide +kernel
theorem dX12_thing_108 : decode cX12_thing 108 = .ok (.iconst 0, 1) := by decide +kernel
theorem dX12_thing_109 : decode cX12_thing 109 = .ok (.ireturn, 1) := by decide +kernel
theorem dX12_degree_0 : decode cX12_degree 0 = .ok (.iload_n 1, 1) := by decide +kernel
theorem dX12_degree_1 : decode cX12_degree 1 = .ok (.sipush (-9999), 3) := by decide +kernel
theorem dX12_degree_4 : decode cX12_degree 4 = .ok (.sipush 9999, 3) := by decide +kernel
theorem dX12_degree_7 : decode cX12_degree 7 = .ok (.invokestatic 407, 3) := by decide +kernel
theorem dX12_degree_10 : decode cX12_degree 10 = .ok (.ifCond .eq 24, 3) := by decide +kernel
theorem dX12_degree_13 : decode cX12_degree 13 = .ok (.iload_n 2, 1) := by decide +kernel
theorem dX12_degree_14 : decode cX12_degree 14 = .ok (.sipush (-9999), 3) := by decide +kernel
theorem dX12_degree_17 : decode cX12_degree 17 = .ok (.sipush 9999, 3) := by decide +kernel
theorem dX12_degree_20 : decode cX12_degree 20 = .ok (.invokestatic 407, 3) := by decide +kernel
theorem dX12_degree_23 : decode cX12_degree 23 = .ok (.ifCond .eq 11, 3) := by decide +kernel
theorem dX12_degree_26 : decode cX12_degree 26 = .ok (.iload_n 1, 1) := by decide +kernel
theorem dX12_degree_27 : decode cX12_degree 27 = .ok (.ifCond .ne 11, 3) := by decide +kernel
theorem dX12_degree_30 : decode cX12_degree 30 = .ok (.iload_n 2, 1) := by decide +kernel
theorem dX12_degree_31 : decode cX12_degree 31 = .ok (.ifCond .ne 7, 3) := by decide +kernel
theorem dX12_degree_34 : decode cX12_degree 34 = .ok (.iconst (-1), 1) := by decide +kernel
theorem dX12_degree_35 : decode cX12_degree 35 = .ok (.goto 8, 3) := by decide +kernel
theorem dX12_degree_38 : decode cX12_degree 38 = .ok (.iload_n 1, 1) := by decide +kernel
theorem dX12_degree_39 : decode cX12_degree 39 = .ok (.iload_n 2, 1) := by decide +kernel
theorem dX12_degree_40 : decode cX12_degree 40 = .ok (.invokestatic 431, 3) := by decide +kernel
theorem dX12_degree_43 : decode cX12_degree 43 = .ok (.ireturn, 1) := by decide +kernel
theorem dX12_vectorOf_0 : decode cX12_vectorOf 0 = .ok (.iload_n 0, 1) := by decide +kernel
theorem dX12_vectorOf_1 : decode cX12_vectorOf 1 = .ok (.bipush 45, 2) := by decide +kernel
theorem dX12_vectorOf_3 : decode cX12_vectorOf 3 = .ok (.if_icmp .gt 14, 3) := by decide +kernel
theorem dX12_vectorOf_6 : decode cX12_vectorOf 6 = .ok (.iload_n 1, 1) := by decide +kernel
theorem dX12_vectorOf_7 : decode cX12_vectorOf 7 = .ok (.ifCond .ne 7, 3) := by decide +kernel
theorem dX12_vectorOf_10 : decode cX12_vectorOf 10 = .ok (.iload_n 0, 1) := by decide +kernel
theorem dX12_vectorOf_11 : decode cX12_vectorOf 11 = .ok (.goto 5, 3) := by decide +kernel
theorem dX12_vectorOf_14 : decode cX12_vectorOf 14 = .ok (.bipush 45, 2) := by decide +kernel
theorem dX12_vectorOf_16 : decode cX12_vectorOf 16 = .ok (.ireturn, 1) := by decide +kernel
theorem dX12_vectorOf_17 : decode cX12_vectorOf 17 = .ok (.iload_n 0, 1) := by decide +kernel
theorem dX12_vectorOf_18 : decode cX12_vectorOf 18 = .ok (.sipush 135, 3) := by decide +kernel
theorem dX12_vectorOf_21 : decode cX12_vectorOf 21 = .ok (.if_icmp .gt 17, 3) := by decide +kernel
theorem dX12_vectorOf_24 : decode cX12_vectorOf 24 = .ok (.iload_n 1, 1) := by decide +kernel
theorem dX12_vectorOf_25 : decode cX12_vectorOf 25 = .ok (.ifCond .ne 8, 3) := by decide +kernel
theorem dX12_vectorOf_28 : decode cX12_vectorOf 28 = .ok (.bipush 45, 2) := by decide +kernel
theorem dX12_vectorOf_30 : decode cX12_vectorOf 30 = .ok (.goto 7, 3) := by decide +kernel
theorem dX12_vectorOf_33 : decode cX12_vectorOf 33 = .ok (.bipush 90, 2) := by decide +kernel
theorem dX12_vectorOf_35 : decode cX12_vectorOf 35 = .ok (.iload_n 0, 1) := by decide +kernel
theorem dX12_vectorOf_36 : decode cX12_vectorOf 36 = .ok (.isub, 1) := by decide +kernel
theorem dX12_vectorOf_37 : decode cX12_vectorOf 37 = .ok (.ireturn, 1) := by decide +kernel
theorem dX12_vectorOf_38 : decode cX12_vectorOf 38 = .ok (.iload_n 0, 1) := by decide +kernel
theorem dX12_vectorOf_39 : decode cX12_vectorOf 39 = .ok (.sipush 225, 3) := by decide +kernel
theorem dX12_vectorOf_42 : decode cX12_vectorOf 42 = .ok (.if_icmp .gt 18, 3) := by decide +kernel
theorem dX12_vectorOf_45 : decode cX12_vectorOf 45 = .ok (.iload_n 1, 1) := by decide +kernel
theorem dX12_vectorOf_46 : decode cX12_vectorOf 46 = .ok (.ifCond .ne 11, 3) := by decide +kernel
theorem dX12_vectorOf_49 : decode cX12_vectorOf 49 = .ok (.sipush 180, 3) := by decide +kernel
theorem dX12_vectorOf_52 : decode cX12_vectorOf 52 = .ok (.iload_n 0, 1) := by decide +kernel
theorem dX12_vectorOf_53 : decode cX12_vectorOf 53 = .ok (.isub, 1) := by decide +kernel
theorem dX12_vectorOf_54 : decode cX12_vectorOf 54 = .ok (.goto 5, 3) := by decide +kernel
theorem dX12_vectorOf_57 : decode cX12_vectorOf 57 = .ok (.bipush (-45), 2) := by decide +kernel
theorem dX12_vectorOf_59 : decode cX12_vectorOf 59 = .ok (.ireturn, 1) := by decide +kernel
theorem dX12_vectorOf_60 : decode cX12_vectorOf 60 = .ok (.iload_n 0, 1) := by decide +kernel
theorem dX12_vectorOf_61 : decode cX12_vectorOf 61 = .ok (.sipush 315, 3) := by decide +kernel
theorem dX12_vectorOf_64 : decode cX12_vectorOf 64 = .ok (.if_icmp .gt 18, 3) := by decide +kernel
theorem dX12_vectorOf_67 : decode cX12_vectorOf 67 = .ok (.iload_n 1, 1) := by decide +kernel
theorem dX12_vectorOf_68 : decode cX12_vectorOf 68 = .ok (.ifCond .ne 8, 3) := by decide +kernel
theorem dX12_vectorOf_71 : decode cX12_vectorOf 71 = .ok (.bipush (-45), 2) := by decide +kernel
theorem dX12_vectorOf_73 : decode cX12_vectorOf 73 = .ok (.goto 8, 3) := by decide +kernel
theorem dX12_vectorOf_76 : decode cX12_vectorOf 76 = .ok (.iload_n 0, 1) := by decide +kernel
theorem dX12_vectorOf_77 : decode cX12_vectorOf 77 = .ok (.sipush 270, 3) := by decide +kernel
theorem dX12_vectorOf_80 : decode cX12_vectorOf 80 = .ok (.isub, 1) := by decide +kernel
theorem dX12_vectorOf_81 : decode cX12_vectorOf 81 = .ok (.ireturn, 1) := by decide +kernel
theorem dX12_vectorOf_82 : decode cX12_vectorOf 82 = .ok (.iload_n 1, 1) := by decide +kernel
theorem dX12_vectorOf_83 : decode cX12_vectorOf 83 = .ok (.ifCond .ne 11, 3) := by decide +kernel
theorem dX12_vectorOf_86 : decode cX12_vectorOf 86 = .ok (.iload_n 0, 1) := by decide +kernel
theorem dX12_vectorOf_87 : decode cX12_vectorOf 87 = .ok (.sipush 360, 3) := by decide +kernel
theorem dX12_vectorOf_90 : decode cX12_vectorOf 90 = .ok (.isub, 1) := by decide +kernel
theorem dX12_vectorOf_91 : decode cX12_vectorOf 91 = .ok (.goto 5, 3) := by decide +kernel
theorem dX12_vectorOf_94 : decode cX12_vectorOf 94 = .ok (.bipush 45, 2) := by decide +kernel
theorem dX12_vectorOf_96 : decode cX12_vectorOf 96 = .ok (.ireturn, 1) := by decide +kernel
theorem dX12_vector_0 : decode cX12_vector 0 = .ok (.iload_n 1, 1) := by decide +kernel
theorem dX12_vector_1 : decode cX12_vector 1 = .ok (.iconst 0, 1) := by decide +kernel
theorem dX12_vector_2 : decode cX12_vector 2 = .ok (.sipush 359, 3) := by decide +kernel
theorem dX12_vector_5 : decode cX12_vector 5 = .ok (.invokestatic 407, 3) := by decide +kernel
theorem dX12_vector_8 : decode cX12_vector 8 = .ok (.ifCond .eq 20, 3) := by decide +kernel
theorem dX12_vector_11 : decode cX12_vector 11 = .ok (.iload_n 2, 1) := by decide +kernel
theorem dX12_vector_12 : decode cX12_vector 12 = .ok (.iconst 0, 1) := by decide +kernel
theorem dX12_vector_13 : decode cX12_vector 13 = .ok (.iconst 1, 1) := by decide +kernel
theorem dX12_vector_14 : decode cX12_vector 14 = .ok (.invokestatic 407, 3) := by decide +kernel
theorem dX12_vector_17 : decode cX12_vector 17 = .ok (.ifCond .eq 11, 3) := by decide +kernel
theorem dX12_vector_20 : decode cX12_vector 20 = .ok (.iload_n 1, 1) := by decide +kernel
theorem dX12_vector_21 : decode cX12_vector 21 = .ok (.iload_n 2, 1) := by decide +kernel
theorem dX12_vector_22 : decode cX12_vector 22 = .ok (.invokestatic 460, 3) := by decide +kernel
theorem dX12_vector_25 : decode cX12_vector 25 = .ok (.goto 5, 3) := by decide +kernel
theorem dX12_vector_28 : decode cX12_vector 28 = .ok (.bipush (-100), 2) := by decide +kernel
theorem dX12_vector_30 : decode cX12_vector 30 = .ok (.ireturn, 1) := by decide +kernel
theorem dX12_line_0 : decode cX12_line 0 = .ok (.iload_n 1, 1) := by decide +kernel
theorem dX12_line_1 : decode cX12_line 1 = .ok (.iconst 0, 1) := by decide +kernel
theorem dX12_line_2 : decode cX12_line 2 = .ok (.sipush 195, 3) := by decide +kernel
theorem dX12_line_5 : decode cX12_line 5 = .ok (.invokestatic 407, 3) := by decide +kernel
theorem dX12_line_8 : decode cX12_line 8 = .ok (.ifCond .eq 21, 3) := by decide +kernel
theorem dX12_line_11 : decode cX12_line 11 = .ok (.iload_n 2, 1) := by decide +kernel
theorem dX12_line_12 : decode cX12_line 12 = .ok (.iconst 0, 1) := by decide +kernel
theorem dX12_line_13 : decode cX12_line 13 = .ok (.bipush 7, 2) := by decide +kernel
theorem dX12_line_15 : decode cX12_line 15 = .ok (.invokestatic 407, 3) := by decide +kernel
theorem dX12_line_18 : decode cX12_line 18 = .ok (.ifCond .eq 11, 3) := by decide +kernel
theorem dX12_line_21 : decode cX12_line 21 = .ok (.aload_n 0, 1) := by decide +kernel
theorem dX12_line_22 : decode cX12_line 22 = .ok (.iload_n 3, 1) := by decide +kernel
theorem dX12_line_23 : decode cX12_line 23 = .ok (.invokevirtual 457, 3) := by decide +kernel
theorem dX12_line_26 : decode cX12_line 26 = .ok (.ifCond .ne 5, 3) := by decide +kernel
theorem dX12_line_29 : decode cX12_line 29 = .ok (.iconst (-1), 1) := by decide +kernel
theorem dX12_line_30 : decode cX12_line 30 = .ok (.ireturn, 1) := by decide +kernel
theorem dX12_line_31 : decode cX12_line 31 = .ok (.aload_n 0, 1) := by decide +kernel
theorem dX12_line_32 : decode cX12_line 32 = .ok (.iload_n 3, 1) := by decide +kernel
theorem dX12_line_33 : decode cX12_line 33 = .ok (.invokevirtual 463, 3) := by decide +kernel
theorem dX12_line_36 : decode cX12_line 36 = .ok (.aload_n 0, 1) := by decide +kernel
theorem dX12_line_37 : decode cX12_line 37 = .ok (.getfield 169, 3) := by decide +kernel
theorem dX12_line_40 : decode cX12_line 40 = .ok (.iload_n 1, 1) := by decide +kernel
theorem dX12_line_41 : decode cX12_line 41 = .ok (.baload, 1) := by decide +kernel
theorem dX12_line_42 : decode cX12_line 42 = .ok (.ifCond .ne 5, 3) := by decide +kernel
theorem dX12_line_45 : decode cX12_line 45 = .ok (.iconst (-1), 1) := by decide +kernel
theorem dX12_line_46 : decode cX12_line 46 = .ok (.ireturn, 1) := by decide +kernel
theorem dX12_line_47 : decode cX12_line 47 = .ok (.iload_n 2, 1) := by decide +kernel
theorem dX12_line_48 : decode cX12_line 48 = .ok (.bipush 7, 2) := by decide +kernel
theorem dX12_line_50 : decode cX12_line 50 = .ok (.if_icmp .ne 18, 3) := by decide +kernel
theorem dX12_line_53 : decode cX12_line 53 = .ok (.aload_n 0, 1) := by decide +kernel
theorem dX12_line_54 : decode cX12_line 54 = .ok (.getfield 178, 3) := by decide +kernel
theorem dX12_line_57 : decode cX12_line 57 = .ok (.iload_n 1, 1) := by decide +kernel
theorem dX12_line_58 : decode cX12_line 58 = .ok (.baload, 1) := by decide +kernel
theorem dX12_line_59 : decode cX12_line 59 = .ok (.ifCond .eq 7, 3) := by decide +kernel
theorem dX12_line_62 : decode cX12_line 62 = .ok (.iconst 1, 1) := by decide +kernel
theorem dX12_line_63 : decode cX12_line 63 = .ok (.goto 4, 3) := by decide +kernel
theorem dX12_line_66 : decode cX12_line 66 = .ok (.iconst 0, 1) := by decide +kernel
theorem dX12_line_67 : decode cX12_line 67 = .ok (.ireturn, 1) := by decide +kernel
theorem dX12_line_68 : decode cX12_line 68 = .ok (.aload_n 0, 1) := by decide +kernel
theorem dX12_line_69 : decode cX12_line 69 = .ok (.iload_n 1, 1) := by decide +kernel
theorem dX12_line_70 : decode cX12_line 70 = .ok (.iload_n 2, 1) := by decide +kernel
theorem dX12_line_71 : decode cX12_line 71 = .ok (.ifCond .ne 8, 3) := by decide +kernel
theorem dX12_line_74 : decode cX12_line 74 = .ok (.bipush 8, 2) := by decide +kernel
theorem dX12_line_76 : decode cX12_line 76 = .ok (.goto 6, 3) := by decide +kernel
theorem dX12_line_79 : decode cX12_line 79 = .ok (.iload_n 2, 1) := by decide +kernel
theorem dX12_line_80 : decode cX12_line 80 = .ok (.iconst 1, 1) := by decide +kernel
theorem dX12_line_81 : decode cX12_line 81 = .ok (.iadd, 1) := by decide +kernel
theorem dX12_line_82 : decode cX12_line 82 = .ok (.invokevirtual 441, 3) := by decide +kernel
theorem dX12_line_85 : decode cX12_line 85 = .ok (.ireturn, 1) := by decide +kernel
theorem dX12_lines_0 : decode cX12_lines 0 = .ok (.aload_n 0, 1) := by decide +kernel
theorem dX12_lines_1 : decode cX12_lines 1 = .ok (.iload_n 2, 1) := by decide +kernel
theorem dX12_lines_2 : decode cX12_lines 2 = .ok (.invokevirtual 457, 3) := by decide +kernel
theorem dX12_lines_5 : decode cX12_lines 5 = .ok (.ifCond .ne 5, 3) := by decide +kernel
theorem dX12_lines_8 : decode cX12_lines 8 = .ok (.iconst (-1), 1) := by decide +kernel
theorem dX12_lines_9 : decode cX12_lines 9 = .ok (.ireturn, 1) := by decide +kernel
theorem dX12_lines_10 : decode cX12_lines 10 = .ok (.aload_n 0, 1) := by decide +kernel
theorem dX12_lines_11 : decode cX12_lines 11 = .ok (.iload_n 2, 1) := by decide +kernel
theorem dX12_lines_12 : decode cX12_lines 12 = .ok (.invokevirtual 463, 3) := by decide +kernel
theorem dX12_lines_15 : decode cX12_lines 15 = .ok (.iconst 0, 1) := by decide +kernel
theorem dX12_lines_16 : decode cX12_lines 16 = .ok (.istore_n 3, 1) := by decide +kernel
theorem dX12_lines_17 : decode cX12_lines 17 = .ok (.iconst 0, 1) := by decide +kernel
theorem dX12_lines_18 : decode cX12_lines 18 = .ok (.istore 4, 2) := by decide +kernel
theorem dX12_lines_20 : decode cX12_lines 20 = .ok (.iload 4, 2) := by decide +kernel
theorem dX12_lines_22 : decode cX12_lines 22 = .ok (.sipush 196, 3) := by decide +kernel
theorem dX12_lines_25 : decode cX12_lines 25 = .ok (.if_icmp .ge 49, 3) := by decide +kernel
theorem dX12_lines_28 : decode cX12_lines 28 = .ok (.iload_n 3, 1) := by decide +kernel
theorem dX12_lines_29 : decode cX12_lines 29 = .ok (.iload_n 1, 1) := by decide +kernel
theorem dX12_lines_30 : decode cX12_lines 30 = .ok (.ifCond .eq 21, 3) := by decide +kernel
theorem dX12_lines_33 : decode cX12_lines 33 = .ok (.aload_n 0, 1) := by decide +kernel
theorem dX12_lines_34 : decode cX12_lines 34 = .ok (.getfield 178, 3) := by decide +kernel
theorem dX12_lines_37 : decode cX12_lines 37 = .ok (.iload 4, 2) := by decide +kernel
theorem dX12_lines_39 : decode cX12_lines 39 = .ok (.baload, 1) := by decide +kernel
theorem dX12_lines_40 : decode cX12_lines 40 = .ok (.ifCond .eq 7, 3) := by decide +kernel
theorem dX12_lines_43 : decode cX12_lines 43 = .ok (.iconst 1, 1) := by decide +kernel
theorem dX12_lines_44 : decode cX12_lines 44 = .ok (.goto 22, 3) := by decide +kernel
theorem dX12_lines_47 : decode cX12_lines 47 = .ok (.iconst 0, 1) := by decide +kernel
theorem dX12_lines_48 : decode cX12_lines 48 = .ok (.goto 18, 3) := by decide +kernel
theorem dX12_lines_51 : decode cX12_lines 51 = .ok (.aload_n 0, 1) := by decide +kernel
theorem dX12_lines_52 : decode cX12_lines 52 = .ok (.getfield 169, 3) := by decide +kernel
theorem dX12_lines_55 : decode cX12_lines 55 = .ok (.iload 4, 2) := by decide +kernel
theorem dX12_lines_57 : decode cX12_lines 57 = .ok (.baload, 1) := by decide +kernel
theorem dX12_lines_58 : decode cX12_lines 58 = .ok (.ifCond .eq 7, 3) := by decide +kernel
theorem dX12_lines_61 : decode cX12_lines 61 = .ok (.iconst 1, 1) := by decide +kernel
theorem dX12_lines_62 : decode cX12_lines 62 = .ok (.goto 4, 3) := by decide +kernel
theorem dX12_lines_65 : decode cX12_lines 65 = .ok (.iconst 0, 1) := by decide +kernel
theorem dX12_lines_66 : decode cX12_lines 66 = .ok (.iadd, 1) := by decide +kernel
theorem dX12_lines_67 : decode cX12_lines 67 = .ok (.istore_n 3, 1) := by decide +kernel
theorem dX12_lines_68 : decode cX12_lines 68 = .ok (.iinc 4 1, 3) := by decide +kernel
theorem dX12_lines_71 : decode cX12_lines 71 = .ok (.goto (-51), 3) := by decide +kernel
theorem dX12_lines_74 : decode cX12_lines 74 = .ok (.iload_n 3, 1) := by decide +kernel
theorem dX12_lines_75 : decode cX12_lines 75 = .ok (.ireturn, 1) := by decide +kernel
theorem dX12_heightOf_0 : decode cX12_heightOf 0 = .ok (.aload_n 0, 1) := by decide +kernel
theorem dX12_heightOf_1 : decode cX12_heightOf 1 = .ok (.getfield 64, 3) := by decide +kernel
theorem dX12_heightOf_4 : decode cX12_heightOf 4 = .ok (.iconst 0, 1) := by decide +kernel
theorem dX12_heightOf_5 : decode cX12_heightOf 5 = .ok (.iaload, 1) := by decide +kernel
theorem dX12_heightOf_6 : decode cX12_heightOf 6 = .ok (.iconst 1, 1) := by decide +kernel
theorem dX12_heightOf_7 : decode cX12_heightOf 7 = .ok (.isub, 1) := by decide +kernel
theorem dX12_heightOf_8 : decode cX12_heightOf 8 = .ok (.istore_n 2, 1) := by decide +kernel
theorem dX12_heightOf_9 : decode cX12_heightOf 9 = .ok (.iload_n 2, 1) := by decide +kernel
theorem dX12_heightOf_10 : decode cX12_heightOf 10 = .ok (.ifCond .lt 89, 3) := by decide +kernel
theorem dX12_heightOf_13 : decode cX12_heightOf 13 = .ok (.aload_n 0, 1) := by decide +kernel
theorem dX12_heightOf_14 : decode cX12_heightOf 14 = .ok (.getfield 67, 3) := by decide +kernel
theorem dX12_heightOf_17 : decode cX12_heightOf 17 = .ok (.iload_n 2, 1) := by decide +kernel
theorem dX12_heightOf_18 : decode cX12_heightOf 18 = .ok (.iaload, 1) := by decide +kernel
theorem dX12_heightOf_19 : decode cX12_heightOf 19 = .ok (.aload_n 0, 1) := by decide +kernel
theorem dX12_heightOf_20 : decode cX12_heightOf 20 = .ok (.getfield 70, 3) := by decide +kernel
theorem dX12_heightOf_23 : decode cX12_heightOf 23 = .ok (.iload_n 2, 1) := by decide +kernel
theorem dX12_heightOf_24 : decode cX12_heightOf 24 = .ok (.iaload, 1) := by decide +kernel
theorem dX12_heightOf_25 : decode cX12_heightOf 25 = .ok (.if_icmp .gt 31, 3) := by decide +kernel
theorem dX12_heightOf_28 : decode cX12_heightOf 28 = .ok (.iload_n 1, 1) := by decide +kernel
theorem dX12_heightOf_29 : decode cX12_heightOf 29 = .ok (.aload_n 0, 1) := by decide +kernel
theorem dX12_heightOf_30 : decode cX12_heightOf 30 = .ok (.getfield 67, 3) := by decide +kernel
theorem dX12_heightOf_33 : decode cX12_heightOf 33 = .ok (.iload_n 2, 1) := by decide +kernel
theorem dX12_heightOf_34 : decode cX12_heightOf 34 = .ok (.iaload, 1) := by decide +kernel
theorem dX12_heightOf_35 : decode cX12_heightOf 35 = .ok (.if_icmp .lt 17, 3) := by decide +kernel
theorem dX12_heightOf_38 : decode cX12_heightOf 38 = .ok (.iload_n 1, 1) := by decide +kernel
theorem dX12_heightOf_39 : decode cX12_heightOf 39 = .ok (.aload_n 0, 1) := by decide +kernel
theorem dX12_heightOf_40 : decode cX12_heightOf 40 = .ok (.getfield 70, 3) := by decide +kernel
theorem dX12_heightOf_43 : decode cX12_heightOf 43 = .ok (.iload_n 2, 1) := by decide +kernel
theorem dX12_heightOf_44 : decode cX12_heightOf 44 = .ok (.iaload, 1) := by decide +kernel
theorem dX12_heightOf_45 : decode cX12_heightOf 45 = .ok (.if_icmp .gt 7, 3) := by decide +kernel
theorem dX12_heightOf_48 : decode cX12_heightOf 48 = .ok (.iconst 1, 1) := by decide +kernel
theorem dX12_heightOf_49 : decode cX12_heightOf 49 = .ok (.goto 32, 3) := by decide +kernel
theorem dX12_heightOf_52 : decode cX12_heightOf 52 = .ok (.iconst 0, 1) := by decide +kernel
theorem dX12_heightOf_53 : decode cX12_heightOf 53 = .ok (.goto 28, 3) := by decide +kernel
theorem dX12_heightOf_56 : decode cX12_heightOf 56 = .ok (.iload_n 1, 1) := by decide +kernel
theorem dX12_heightOf_57 : decode cX12_heightOf 57 = .ok (.aload_n 0, 1) := by decide +kernel
theorem dX12_heightOf_58 : decode cX12_heightOf 58 = .ok (.getfield 67, 3) := by decide +kernel
theorem dX12_heightOf_61 : decode cX12_heightOf 61 = .ok (.iload_n 2, 1) := by decide +kernel
theorem dX12_heightOf_62 : decode cX12_heightOf 62 = .ok (.iaload, 1) := by decide +kernel
theorem dX12_heightOf_63 : decode cX12_heightOf 63 = .ok (.if_icmp .ge 13, 3) := by decide +kernel
theorem dX12_heightOf_66 : decode cX12_heightOf 66 = .ok (.iload_n 1, 1) := by decide +kernel
theorem dX12_heightOf_67 : decode cX12_heightOf 67 = .ok (.aload_n 0, 1) := by decide +kernel
theorem dX12_heightOf_68 : decode cX12_heightOf 68 = .ok (.getfield 70, 3) := by decide +kernel
theorem dX12_heightOf_71 : decode cX12_heightOf 71 = .ok (.iload_n 2, 1) := by decide +kernel
theorem dX12_heightOf_72 : decode cX12_heightOf 72 = .ok (.iaload, 1) := by decide +kernel
theorem dX12_heightOf_73 : decode cX12_heightOf 73 = .ok (.if_icmp .gt 7, 3) := by decide +kernel
theorem dX12_heightOf_76 : decode cX12_heightOf 76 = .ok (.iconst 1, 1) := by decide +kernel
theorem dX12_heightOf_77 : decode cX12_heightOf 77 = .ok (.goto 4, 3) := by decide +kernel
theorem dX12_heightOf_80 : decode cX12_heightOf 80 = .ok (.iconst 0, 1) := by decide +kernel
theorem dX12_heightOf_81 : decode cX12_heightOf 81 = .ok (.istore_n 3, 1) := by decide +kernel
theorem dX12_heightOf_82 : decode cX12_heightOf 82 = .ok (.iload_n 3, 1) := by decide +kernel
theorem dX12_heightOf_83 : decode cX12_heightOf 83 = .ok (.ifCond .eq 10, 3) := by decide +kernel
theorem dX12_heightOf_86 : decode cX12_heightOf 86 = .ok (.aload_n 0, 1) := by decide +kernel
theorem dX12_heightOf_87 : decode cX12_heightOf 87 = .ok (.getfield 73, 3) := by decide +kernel
theorem dX12_heightOf_90 : decode cX12_heightOf 90 = .ok (.iload_n 2, 1) := by decide +kernel
theorem dX12_heightOf_91 : decode cX12_heightOf 91 = .ok (.iaload, 1) := by decide +kernel
theorem dX12_heightOf_92 : decode cX12_heightOf 92 = .ok (.ireturn, 1) := by decide +kernel
theorem dX12_heightOf_93 : decode cX12_heightOf 93 = .ok (.iinc 2 (-1), 3) := by decide +kernel
theorem dX12_heightOf_96 : decode cX12_heightOf 96 = .ok (.goto (-87), 3) := by decide +kernel
theorem dX12_heightOf_99 : decode cX12_heightOf 99 = .ok (.iconst 0, 1) := by decide +kernel
theorem dX12_heightOf_100 : decode cX12_heightOf 100 = .ok (.ireturn, 1) := by decide +kernel
theorem dX12_height_0 : decode cX12_height 0 = .ok (.iload_n 1, 1) := by decide +kernel
theorem dX12_height_1 : decode cX12_height 1 = .ok (.iconst 0, 1) := by decide +kernel
theorem dX12_height_2 : decode cX12_height 2 = .ok (.sipush 359, 3) := by decide +kernel
theorem dX12_height_5 : decode cX12_height 5 = .ok (.invokestatic 407, 3) := by decide +kernel
theorem dX12_height_8 : decode cX12_height 8 = .ok (.ifCond .eq 11, 3) := by decide +kernel
theorem dX12_height_11 : decode cX12_height 11 = .ok (.aload_n 0, 1) := by decide +kernel
theorem dX12_height_12 : decode cX12_height 12 = .ok (.iload_n 1, 1) := by decide +kernel
theorem dX12_height_13 : decode cX12_height 13 = .ok (.invokevirtual 466, 3) := by decide +kernel
theorem dX12_height_16 : decode cX12_height 16 = .ok (.goto 4, 3) := by decide +kernel
theorem dX12_height_19 : decode cX12_height 19 = .ok (.iconst (-1), 1) := by decide +kernel
theorem dX12_height_20 : decode cX12_height 20 = .ok (.ireturn, 1) := by decide +kernel
theorem dX12_skyAt_0 : decode cX12_skyAt 0 = .ok (.iconst 0, 1) := by decide +kernel
theorem dX12_skyAt_1 : decode cX12_skyAt 1 = .ok (.istore 4, 2) := by decide +kernel
theorem dX12_skyAt_3 : decode cX12_skyAt 3 = .ok (.iload 4, 2) := by decide +kernel
theorem dX12_skyAt_5 : decode cX12_skyAt 5 = .ok (.bipush 9, 2) := by decide +kernel
theorem dX12_skyAt_7 : decode cX12_skyAt 7 = .ok (.if_icmp .ge 17, 3) := by decide +kernel
theorem dX12_skyAt_10 : decode cX12_skyAt 10 = .ok (.aload_n 0, 1) := by decide +kernel
theorem dX12_skyAt_11 : decode cX12_skyAt 11 = .ok (.getfield 181, 3) := by decide +kernel
theorem dX12_skyAt_14 : decode cX12_skyAt 14 = .ok (.iload 4, 2) := by decide +kernel
theorem dX12_skyAt_16 : decode cX12_skyAt 16 = .ok (.iconst 0, 1) := by decide +kernel
theorem dX12_skyAt_17 : decode cX12_skyAt 17 = .ok (.iastore, 1) := by decide +kernel
theorem dX12_skyAt_18 : decode cX12_skyAt 18 = .ok (.iinc 4 1, 3) := by decide +kernel
theorem dX12_skyAt_21 : decode cX12_skyAt 21 = .ok (.goto (-18), 3) := by decide +kernel
theorem dX12_skyAt_24 : decode cX12_skyAt 24 = .ok (.aload_n 0, 1) := by decide +kernel
theorem dX12_skyAt_25 : decode cX12_skyAt 25 = .ok (.getfield 181, 3) := by decide +kernel
theorem dX12_skyAt_28 : decode cX12_skyAt 28 = .ok (.iconst 0, 1) := by decide +kernel
theorem dX12_skyAt_29 : decode cX12_skyAt 29 = .ok (.iload_n 2, 1) := by decide +kernel
theorem dX12_skyAt_30 : decode cX12_skyAt 30 = .ok (.iastore, 1) := by decide +kernel
theorem dX12_skyAt_31 : decode cX12_skyAt 31 = .ok (.aload_n 0, 1) := by decide +kernel
theorem dX12_skyAt_32 : decode cX12_skyAt 32 = .ok (.getfield 181, 3) := by decide +kernel
theorem dX12_skyAt_35 : decode cX12_skyAt 35 = .ok (.iconst 1, 1) := by decide +kernel
theorem dX12_skyAt_36 : decode cX12_skyAt 36 = .ok (.iload_n 3, 1) := by decide +kernel
theorem dX12_skyAt_37 : decode cX12_skyAt 37 = .ok (.iastore, 1) := by decide +kernel
theorem dX12_skyAt_38 : decode cX12_skyAt 38 = .ok (.aload_n 0, 1) := by decide +kernel
theorem dX12_skyAt_39 : decode cX12_skyAt 39 = .ok (.aload_n 0, 1) := by decide +kernel
theorem dX12_skyAt_40 : decode cX12_skyAt 40 = .ok (.getfield 82, 3) := by decide +kernel
theorem dX12_skyAt_43 : decode cX12_skyAt 43 = .ok (.iload_n 1, 1) := by decide +kernel
theorem dX12_skyAt_44 : decode cX12_skyAt 44 = .ok (.iaload, 1) := by decide +kernel
theorem dX12_skyAt_45 : decode cX12_skyAt 45 = .ok (.aload_n 0, 1) := by decide +kernel
theorem dX12_skyAt_46 : decode cX12_skyAt 46 = .ok (.getfield 85, 3) := by decide +kernel
theorem dX12_skyAt_49 : decode cX12_skyAt 49 = .ok (.iload_n 1, 1) := by decide +kernel
theorem dX12_skyAt_50 : decode cX12_skyAt 50 = .ok (.iaload, 1) := by decide +kernel
theorem dX12_skyAt_51 : decode cX12_skyAt 51 = .ok (.invokevirtual 451, 3) := by decide +kernel
theorem dX12_skyAt_54 : decode cX12_skyAt 54 = .ok (.sipush 360, 3) := by decide +kernel
theorem dX12_skyAt_57 : decode cX12_skyAt 57 = .ok (.irem, 1) := by decide +kernel
theorem dX12_skyAt_58 : decode cX12_skyAt 58 = .ok (.istore 4, 2) := by decide +kernel
theorem dX12_skyAt_60 : decode cX12_skyAt 60 = .ok (.iload 4, 2) := by decide +kernel
theorem dX12_skyAt_62 : decode cX12_skyAt 62 = .ok (.ifCond .ge 12, 3) := by decide +kernel
theorem dX12_skyAt_65 : decode cX12_skyAt 65 = .ok (.iload 4, 2) := by decide +kernel
theorem dX12_skyAt_67 : decode cX12_skyAt 67 = .ok (.sipush 360, 3) := by decide +kernel
theorem dX12_skyAt_70 : decode cX12_skyAt 70 = .ok (.iadd, 1) := by decide +kernel
theorem dX12_skyAt_71 : decode cX12_skyAt 71 = .ok (.goto 5, 3) := by decide +kernel
theorem dX12_skyAt_74 : decode cX12_skyAt 74 = .ok (.iload 4, 2) := by decide +kernel
theorem dX12_skyAt_76 : decode cX12_skyAt 76 = .ok (.ireturn, 1) := by decide +kernel
theorem dX12_riseOf_0 : decode cX12_riseOf 0 = .ok (.aload_n 0, 1) := by decide +kernel
theorem dX12_riseOf_1 : decode cX12_riseOf 1 = .ok (.iload_n 1, 1) := by decide +kernel
theorem dX12_riseOf_2 : decode cX12_riseOf 2 = .ok (.iload_n 2, 1) := by decide +kernel
theorem dX12_riseOf_3 : decode cX12_riseOf 3 = .ok (.iconst 0, 1) := by decide +kernel
theorem dX12_riseOf_4 : decode cX12_riseOf 4 = .ok (.invokevirtual 469, 3) := by decide +kernel
theorem dX12_riseOf_7 : decode cX12_riseOf 7 = .ok (.istore_n 3, 1) := by decide +kernel
theorem dX12_riseOf_8 : decode cX12_riseOf 8 = .ok (.aload_n 0, 1) := by decide +kernel
theorem dX12_riseOf_9 : decode cX12_riseOf 9 = .ok (.iload_n 1, 1) := by decide +kernel
theorem dX12_riseOf_10 : decode cX12_riseOf 10 = .ok (.iload_n 2, 1) := by decide +kernel
theorem dX12_riseOf_11 : decode cX12_riseOf 11 = .ok (.aload_n 0, 1) := by decide +kernel
theorem dX12_riseOf_12 : decode cX12_riseOf 12 = .ok (.iload_n 3, 1) := by decide +kernel
theorem dX12_riseOf_13 : decode cX12_riseOf 13 = .ok (.invokevirtual 466, 3) := by decide +kernel
theorem dX12_riseOf_16 : decode cX12_riseOf 16 = .ok (.invokevirtual 469, 3) := by decide +kernel
theorem dX12_riseOf_19 : decode cX12_riseOf 19 = .ok (.ireturn, 1) := by decide +kernel
theorem dX12_isYear_0 : decode cX12_isYear 0 = .ok (.iload_n 0, 1) := by decide +kernel
theorem dX12_isYear_1 : decode cX12_isYear 1 = .ok (.ifCond .lt 14, 3) := by decide +kernel
theorem dX12_isYear_4 : decode cX12_isYear 4 = .ok (.iload_n 0, 1) := by decide +kernel
theorem dX12_isYear_5 : decode cX12_isYear 5 = .ok (.sipush 5000, 3) := by decide +kernel
theorem dX12_isYear_8 : decode cX12_isYear 8 = .ok (.if_icmp .gt 7, 3) := by decide +kernel
theorem dX12_isYear_11 : decode cX12_isYear 11 = .ok (.iconst 1, 1) := by decide +kernel
theorem dX12_isYear_12 : decode cX12_isYear 12 = .ok (.goto 4, 3) := by decide +kernel
theorem dX12_isYear_15 : decode cX12_isYear 15 = .ok (.iconst 0, 1) := by decide +kernel
theorem dX12_isYear_16 : decode cX12_isYear 16 = .ok (.ireturn, 1) := by decide +kernel
theorem dX12_rise_0 : decode cX12_rise 0 = .ok (.iload_n 1, 1) := by decide +kernel
theorem dX12_rise_1 : decode cX12_rise 1 = .ok (.ifCond .lt 29, 3) := by decide +kernel
theorem dX12_rise_4 : decode cX12_rise 4 = .ok (.iload_n 1, 1) := by decide +kernel
theorem dX12_rise_5 : decode cX12_rise 5 = .ok (.aload_n 0, 1) := by decide +kernel
theorem dX12_rise_6 : decode cX12_rise 6 = .ok (.getfield 76, 3) := by decide +kernel
theorem dX12_rise_9 : decode cX12_rise 9 = .ok (.iconst 0, 1) := by decide +kernel
theorem dX12_rise_10 : decode cX12_rise 10 = .ok (.iaload, 1) := by decide +kernel
theorem dX12_rise_11 : decode cX12_rise 11 = .ok (.if_icmp .ge 19, 3) := by decide +kernel
theorem dX12_rise_14 : decode cX12_rise 14 = .ok (.iload_n 2, 1) := by decide +kernel
theorem dX12_rise_15 : decode cX12_rise 15 = .ok (.invokestatic 472, 3) := by decide +kernel
theorem dX12_rise_18 : decode cX12_rise 18 = .ok (.ifCond .eq 12, 3) := by decide +kernel
theorem dX12_rise_21 : decode cX12_rise 21 = .ok (.aload_n 0, 1) := by decide +kernel
theorem dX12_rise_22 : decode cX12_rise 22 = .ok (.iload_n 1, 1) := by decide +kernel
theorem dX12_rise_23 : decode cX12_rise 23 = .ok (.iload_n 2, 1) := by decide +kernel
theorem dX12_rise_24 : decode cX12_rise 24 = .ok (.invokevirtual 475, 3) := by decide +kernel
theorem dX12_rise_27 : decode cX12_rise 27 = .ok (.goto 4, 3) := by decide +kernel
theorem dX12_rise_30 : decode cX12_rise 30 = .ok (.iconst (-1), 1) := by decide +kernel
theorem dX12_rise_31 : decode cX12_rise 31 = .ok (.ireturn, 1) := by decide +kernel
theorem dX12_laySky_0 : decode cX12_laySky 0 = .ok (.iconst 0, 1) := by decide +kernel
theorem dX12_laySky_1 : decode cX12_laySky 1 = .ok (.istore_n 2, 1) := by decide +kernel
theorem dX12_laySky_2 : decode cX12_laySky 2 = .ok (.iload_n 2, 1) := by decide +kernel
theorem dX12_laySky_3 : decode cX12_laySky 3 = .ok (.aload_n 0, 1) := by decide +kernel
theorem dX12_laySky_4 : decode cX12_laySky 4 = .ok (.getfield 76, 3) := by decide +kernel
theorem dX12_laySky_7 : decode cX12_laySky 7 = .ok (.iconst 0, 1) := by decide +kernel
theorem dX12_laySky_8 : decode cX12_laySky 8 = .ok (.iaload, 1) := by decide +kernel
theorem dX12_laySky_9 : decode cX12_laySky 9 = .ok (.if_icmp .ge 21, 3) := by decide +kernel
theorem dX12_laySky_12 : decode cX12_laySky 12 = .ok (.aload_n 0, 1) := by decide +kernel
theorem dX12_laySky_13 : decode cX12_laySky 13 = .ok (.getfield 187, 3) := by decide +kernel
theorem dX12_laySky_16 : decode cX12_laySky 16 = .ok (.iload_n 2, 1) := by decide +kernel
theorem dX12_laySky_17 : decode cX12_laySky 17 = .ok (.aload_n 0, 1) := by decide +kernel
theorem dX12_laySky_18 : decode cX12_laySky 18 = .ok (.iload_n 2, 1) := by decide +kernel
theorem dX12_laySky_19 : decode cX12_laySky 19 = .ok (.iload_n 1, 1) := by decide +kernel
theorem dX12_laySky_20 : decode cX12_laySky 20 = .ok (.invokevirtual 475, 3) := by decide +kernel
theorem dX12_laySky_23 : decode cX12_laySky 23 = .ok (.iastore, 1) := by decide +kernel
theorem dX12_laySky_24 : decode cX12_laySky 24 = .ok (.iinc 2 1, 3) := by decide +kernel
theorem dX12_laySky_27 : decode cX12_laySky 27 = .ok (.goto (-25), 3) := by decide +kernel
theorem dX12_laySky_30 : decode cX12_laySky 30 = .ok (.return_, 1) := by decide +kernel
theorem dX12_apart_0 : decode cX12_apart 0 = .ok (.iload_n 0, 1) := by decide +kernel
theorem dX12_apart_1 : decode cX12_apart 1 = .ok (.iload_n 1, 1) := by decide +kernel
theorem dX12_apart_2 : decode cX12_apart 2 = .ok (.isub, 1) := by decide +kernel
theorem dX12_apart_3 : decode cX12_apart 3 = .ok (.invokestatic 425, 3) := by decide +kernel
theorem dX12_apart_6 : decode cX12_apart 6 = .ok (.istore_n 2, 1) := by decide +kernel
theorem dX12_apart_7 : decode cX12_apart 7 = .ok (.iload_n 2, 1) := by decide +kernel
theorem dX12_apart_8 : decode cX12_apart 8 = .ok (.sipush 180, 3) := by decide +kernel
theorem dX12_apart_11 : decode cX12_apart 11 = .ok (.if_icmp .le 11, 3) := by decide +kernel
theorem dX12_apart_14 : decode cX12_apart 14 = .ok (.sipush 360, 3) := by decide +kernel
theorem dX12_apart_17 : decode cX12_apart 17 = .ok (.iload_n 2, 1) := by decide +kernel
theorem dX12_apart_18 : decode cX12_apart 18 = .ok (.isub, 1) := by decide +kernel
theorem dX12_apart_19 : decode cX12_apart 19 = .ok (.goto 4, 3) := by decide +kernel
theorem dX12_apart_22 : decode cX12_apart 22 = .ok (.iload_n 2, 1) := by decide +kernel
theorem dX12_apart_23 : decode cX12_apart 23 = .ok (.ireturn, 1) := by decide +kernel
theorem dX12_hitBy_0 : decode cX12_hitBy 0 = .ok (.iconst 0, 1) := by decide +kernel
theorem dX12_hitBy_1 : decode cX12_hitBy 1 = .ok (.istore 4, 2) := by decide +kernel
theorem dX12_hitBy_3 : decode cX12_hitBy 3 = .ok (.iconst 0, 1) := by decide +kernel
theorem dX12_hitBy_4 : decode cX12_hitBy 4 = .ok (.istore 5, 2) := by decide +kernel
theorem dX12_hitBy_6 : decode cX12_hitBy 6 = .ok (.iload 5, 2) := by decide +kernel
theorem dX12_hitBy_8 : decode cX12_hitBy 8 = .ok (.aload_n 0, 1) := by decide +kernel
theorem dX12_hitBy_9 : decode cX12_hitBy 9 = .ok (.getfield 76, 3) := by decide +kernel
theorem dX12_hitBy_12 : decode cX12_hitBy 12 = .ok (.iconst 0, 1) := by decide +kernel
theorem dX12_hitBy_13 : decode cX12_hitBy 13 = .ok (.iaload, 1) := by decide +kernel
theorem dX12_hitBy_14 : decode cX12_hitBy 14 = .ok (.if_icmp .ge 57, 3) := by decide +kernel
theorem dX12_hitBy_17 : decode cX12_hitBy 17 = .ok (.iload_n 1, 1) := by decide +kernel
theorem dX12_hitBy_18 : decode cX12_hitBy 18 = .ok (.aload_n 0, 1) := by decide +kernel
theorem dX12_hitBy_19 : decode cX12_hitBy 19 = .ok (.getfield 187, 3) := by decide +kernel
theorem dX12_hitBy_22 : decode cX12_hitBy 22 = .ok (.iload 5, 2) := by decide +kernel
theorem dX12_hitBy_24 : decode cX12_hitBy 24 = .ok (.iaload, 1) := by decide +kernel
theorem dX12_hitBy_25 : decode cX12_hitBy 25 = .ok (.invokestatic 478, 3) := by decide +kernel
theorem dX12_hitBy_28 : decode cX12_hitBy 28 = .ok (.iload_n 3, 1) := by decide +kernel
theorem dX12_hitBy_29 : decode cX12_hitBy 29 = .ok (.ifCond .eq 15, 3) := by decide +kernel
theorem dX12_hitBy_32 : decode cX12_hitBy 32 = .ok (.iload_n 2, 1) := by decide +kernel
theorem dX12_hitBy_33 : decode cX12_hitBy 33 = .ok (.aload_n 0, 1) := by decide +kernel
theorem dX12_hitBy_34 : decode cX12_hitBy 34 = .ok (.getfield 79, 3) := by decide +kernel
theorem dX12_hitBy_37 : decode cX12_hitBy 37 = .ok (.iload 5, 2) := by decide +kernel
theorem dX12_hitBy_39 : decode cX12_hitBy 39 = .ok (.iaload, 1) := by decide +kernel
theorem dX12_hitBy_40 : decode cX12_hitBy 40 = .ok (.isub, 1) := by decide +kernel
theorem dX12_hitBy_41 : decode cX12_hitBy 41 = .ok (.goto 12, 3) := by decide +kernel
theorem dX12_hitBy_44 : decode cX12_hitBy 44 = .ok (.iload_n 2, 1) := by decide +kernel
theorem dX12_hitBy_45 : decode cX12_hitBy 45 = .ok (.aload_n 0, 1) := by decide +kernel
theorem dX12_hitBy_46 : decode cX12_hitBy 46 = .ok (.getfield 79, 3) := by decide +kernel
theorem dX12_hitBy_49 : decode cX12_hitBy 49 = .ok (.iload 5, 2) := by decide +kernel
theorem dX12_hitBy_51 : decode cX12_hitBy 51 = .ok (.iaload, 1) := by decide +kernel
theorem dX12_hitBy_52 : decode cX12_hitBy 52 = .ok (.iadd, 1) := by decide +kernel
theorem dX12_hitBy_53 : decode cX12_hitBy 53 = .ok (.if_icmp .gt 12, 3) := by decide +kernel
theorem dX12_hitBy_56 : decode cX12_hitBy 56 = .ok (.iload 4, 2) := by decide +kernel
theorem dX12_hitBy_58 : decode cX12_hitBy 58 = .ok (.iconst 1, 1) := by decide +kernel
theorem dX12_hitBy_59 : decode cX12_hitBy 59 = .ok (.iload 5, 2) := by decide +kernel
theorem dX12_hitBy_61 : decode cX12_hitBy 61 = .ok (.ishl, 1) := by decide +kernel
theorem dX12_hitBy_62 : decode cX12_hitBy 62 = .ok (.ior, 1) := by decide +kernel
theorem dX12_hitBy_63 : decode cX12_hitBy 63 = .ok (.istore 4, 2) := by decide +kernel
theorem dX12_hitBy_65 : decode cX12_hitBy 65 = .ok (.iinc 5 1, 3) := by decide +kernel
theorem dX12_hitBy_68 : decode cX12_hitBy 68 = .ok (.goto (-62), 3) := by decide +kernel
theorem dX12_hitBy_71 : decode cX12_hitBy 71 = .ok (.iload 4, 2) := by decide +kernel
theorem dX12_hitBy_73 : decode cX12_hitBy 73 = .ok (.ireturn, 1) := by decide +kernel
theorem dX12_hit_0 : decode cX12_hit 0 = .ok (.iload_n 1, 1) := by decide +kernel
theorem dX12_hit_1 : decode cX12_hit 1 = .ok (.iconst 0, 1) := by decide +kernel
theorem dX12_hit_2 : decode cX12_hit 2 = .ok (.sipush 195, 3) := by decide +kernel
theorem dX12_hit_5 : decode cX12_hit 5 = .ok (.invokestatic 407, 3) := by decide +kernel
theorem dX12_hit_8 : decode cX12_hit 8 = .ok (.ifCond .eq 33, 3) := by decide +kernel
theorem dX12_hit_11 : decode cX12_hit 11 = .ok (.iload_n 2, 1) := by decide +kernel
theorem dX12_hit_12 : decode cX12_hit 12 = .ok (.ifCond .lt 29, 3) := by decide +kernel
theorem dX12_hit_15 : decode cX12_hit 15 = .ok (.iload_n 2, 1) := by decide +kernel
theorem dX12_hit_16 : decode cX12_hit 16 = .ok (.aload_n 0, 1) := by decide +kernel
theorem dX12_hit_17 : decode cX12_hit 17 = .ok (.getfield 76, 3) := by decide +kernel
theorem dX12_hit_20 : decode cX12_hit 20 = .ok (.iconst 0, 1) := by decide +kernel
theorem dX12_hit_21 : decode cX12_hit 21 = .ok (.iaload, 1) := by decide +kernel
theorem dX12_hit_22 : decode cX12_hit 22 = .ok (.if_icmp .ge 19, 3) := by decide +kernel
theorem dX12_hit_25 : decode cX12_hit 25 = .ok (.iload_n 3, 1) := by decide +kernel
theorem dX12_hit_26 : decode cX12_hit 26 = .ok (.invokestatic 472, 3) := by decide +kernel
theorem dX12_hit_29 : decode cX12_hit 29 = .ok (.ifCond .eq 12, 3) := by decide +kernel
theorem dX12_hit_32 : decode cX12_hit 32 = .ok (.aload_n 0, 1) := by decide +kernel
theorem dX12_hit_33 : decode cX12_hit 33 = .ok (.iload 4, 2) := by decide +kernel
theorem dX12_hit_35 : decode cX12_hit 35 = .ok (.invokevirtual 457, 3) := by decide +kernel
theorem dX12_hit_38 : decode cX12_hit 38 = .ok (.ifCond .ne 5, 3) := by decide +kernel
theorem dX12_hit_41 : decode cX12_hit 41 = .ok (.iconst (-1), 1) := by decide +kernel
theorem dX12_hit_42 : decode cX12_hit 42 = .ok (.ireturn, 1) := by decide +kernel
theorem dX12_hit_43 : decode cX12_hit 43 = .ok (.aload_n 0, 1) := by decide +kernel
theorem dX12_hit_44 : decode cX12_hit 44 = .ok (.iload 4, 2) := by decide +kernel
theorem dX12_hit_46 : decode cX12_hit 46 = .ok (.invokevirtual 463, 3) := by decide +kernel
theorem dX12_hit_49 : decode cX12_hit 49 = .ok (.aload_n 0, 1) := by decide +kernel
theorem dX12_hit_50 : decode cX12_hit 50 = .ok (.iload_n 3, 1) := by decide +kernel
theorem dX12_hit_51 : decode cX12_hit 51 = .ok (.invokevirtual 481, 3) := by decide +kernel
theorem dX12_hit_54 : decode cX12_hit 54 = .ok (.aload_n 0, 1) := by decide +kernel
theorem dX12_hit_55 : decode cX12_hit 55 = .ok (.getfield 169, 3) := by decide +kernel
theorem dX12_hit_58 : decode cX12_hit 58 = .ok (.iload_n 1, 1) := by decide +kernel
theorem dX12_hit_59 : decode cX12_hit 59 = .ok (.baload, 1) := by decide +kernel
theorem dX12_hit_60 : decode cX12_hit 60 = .ok (.ifCond .ne 5, 3) := by decide +kernel
theorem dX12_hit_63 : decode cX12_hit 63 = .ok (.iconst (-1), 1) := by decide +kernel
theorem dX12_hit_64 : decode cX12_hit 64 = .ok (.ireturn, 1) := by decide +kernel
theorem dX12_hit_65 : decode cX12_hit 65 = .ok (.aload_n 0, 1) := by decide +kernel
theorem dX12_hit_66 : decode cX12_hit 66 = .ok (.aload_n 0, 1) := by decide +kernel
theorem dX12_hit_67 : decode cX12_hit 67 = .ok (.getfield 172, 3) := by decide +kernel
theorem dX12_hit_70 : decode cX12_hit 70 = .ok (.iload_n 1, 1) := by decide +kernel
theorem dX12_hit_71 : decode cX12_hit 71 = .ok (.iaload, 1) := by decide +kernel
theorem dX12_hit_72 : decode cX12_hit 72 = .ok (.aload_n 0, 1) := by decide +kernel
theorem dX12_hit_73 : decode cX12_hit 73 = .ok (.getfield 34, 3) := by decide +kernel
theorem dX12_hit_76 : decode cX12_hit 76 = .ok (.iconst 0, 1) := by decide +kernel
theorem dX12_hit_77 : decode cX12_hit 77 = .ok (.iaload, 1) := by decide +kernel
theorem dX12_hit_78 : decode cX12_hit 78 = .ok (.iconst 1, 1) := by decide +kernel
theorem dX12_hit_79 : decode cX12_hit 79 = .ok (.invokevirtual 484, 3) := by decide +kernel
theorem dX12_hit_82 : decode cX12_hit 82 = .ok (.iload_n 2, 1) := by decide +kernel
theorem dX12_hit_83 : decode cX12_hit 83 = .ok (.ishr, 1) := by decide +kernel
theorem dX12_hit_84 : decode cX12_hit 84 = .ok (.iconst 1, 1) := by decide +kernel
theorem dX12_hit_85 : decode cX12_hit 85 = .ok (.iand, 1) := by decide +kernel
theorem dX12_hit_86 : decode cX12_hit 86 = .ok (.iconst 1, 1) := by decide +kernel
theorem dX12_hit_87 : decode cX12_hit 87 = .ok (.if_icmp .ne 5, 3) := by decide +kernel
theorem dX12_hit_90 : decode cX12_hit 90 = .ok (.iconst 2, 1) := by decide +kernel
theorem dX12_hit_91 : decode cX12_hit 91 = .ok (.ireturn, 1) := by decide +kernel
theorem dX12_hit_92 : decode cX12_hit 92 = .ok (.aload_n 0, 1) := by decide +kernel
theorem dX12_hit_93 : decode cX12_hit 93 = .ok (.aload_n 0, 1) := by decide +kernel
theorem dX12_hit_94 : decode cX12_hit 94 = .ok (.getfield 172, 3) := by decide +kernel
theorem dX12_hit_97 : decode cX12_hit 97 = .ok (.iload_n 1, 1) := by decide +kernel
theorem dX12_hit_98 : decode cX12_hit 98 = .ok (.iaload, 1) := by decide +kernel
theorem dX12_hit_99 : decode cX12_hit 99 = .ok (.aload_n 0, 1) := by decide +kernel
theorem dX12_hit_100 : decode cX12_hit 100 = .ok (.getfield 34, 3) := by decide +kernel
theorem dX12_hit_103 : decode cX12_hit 103 = .ok (.iconst 0, 1) := by decide +kernel
theorem dX12_hit_104 : decode cX12_hit 104 = .ok (.iaload, 1) := by decide +kernel
theorem dX12_hit_105 : decode cX12_hit 105 = .ok (.iconst 0, 1) := by decide +kernel
theorem dX12_hit_106 : decode cX12_hit 106 = .ok (.invokevirtual 484, 3) := by decide +kernel
theorem dX12_hit_109 : decode cX12_hit 109 = .ok (.iload_n 2, 1) := by decide +kernel
theorem dX12_hit_110 : decode cX12_hit 110 = .ok (.ishr, 1) := by decide +kernel
theorem dX12_hit_111 : decode cX12_hit 111 = .ok (.iconst 1, 1) := by decide +kernel
theorem dX12_hit_112 : decode cX12_hit 112 = .ok (.iand, 1) := by decide +kernel
theorem dX12_hit_113 : decode cX12_hit 113 = .ok (.ireturn, 1) := by decide +kernel
theorem dX12_turned_0 : decode cX12_turned 0 = .ok (.iload_n 0, 1) := by decide +kernel
theorem dX12_turned_1 : decode cX12_turned 1 = .ok (.iload_n 1, 1) := by decide +kernel
theorem dX12_turned_2 : decode cX12_turned 2 = .ok (.iadd, 1) := by decide +kernel
theorem dX12_turned_3 : decode cX12_turned 3 = .ok (.sipush 360, 3) := by decide +kernel
theorem dX12_turned_6 : decode cX12_turned 6 = .ok (.irem, 1) := by decide +kernel
theorem dX12_turned_7 : decode cX12_turned 7 = .ok (.ireturn, 1) := by decide +kernel
theorem dX12_hitsOf_0 : decode cX12_hitsOf 0 = .ok (.iconst 0, 1) := by decide +kernel
theorem dX12_hitsOf_1 : decode cX12_hitsOf 1 = .ok (.istore 4, 2) := by decide +kernel
theorem dX12_hitsOf_3 : decode cX12_hitsOf 3 = .ok (.iconst 0, 1) := by decide +kernel
theorem dX12_hitsOf_4 : decode cX12_hitsOf 4 = .ok (.istore 5, 2) := by decide +kernel
theorem dX12_hitsOf_6 : decode cX12_hitsOf 6 = .ok (.iload 5, 2) := by decide +kernel
theorem dX12_hitsOf_8 : decode cX12_hitsOf 8 = .ok (.sipush 196, 3) := by decide +kernel
theorem dX12_hitsOf_11 : decode cX12_hitsOf 11 = .ok (.if_icmp .ge 49, 3) := by decide +kernel
theorem dX12_hitsOf_14 : decode cX12_hitsOf 14 = .ok (.aload_n 0, 1) := by decide +kernel
theorem dX12_hitsOf_15 : decode cX12_hitsOf 15 = .ok (.getfield 178, 3) := by decide +kernel
theorem dX12_hitsOf_18 : decode cX12_hitsOf 18 = .ok (.iload 5, 2) := by decide +kernel
theorem dX12_hitsOf_20 : decode cX12_hitsOf 20 = .ok (.baload, 1) := by decide +kernel
theorem dX12_hitsOf_21 : decode cX12_hitsOf 21 = .ok (.ifCond .eq 33, 3) := by decide +kernel
theorem dX12_hitsOf_24 : decode cX12_hitsOf 24 = .ok (.aload_n 0, 1) := by decide +kernel
theorem dX12_hitsOf_25 : decode cX12_hitsOf 25 = .ok (.aload_n 0, 1) := by decide +kernel
theorem dX12_hitsOf_26 : decode cX12_hitsOf 26 = .ok (.getfield 172, 3) := by decide +kernel
theorem dX12_hitsOf_29 : decode cX12_hitsOf 29 = .ok (.iload 5, 2) := by decide +kernel
theorem dX12_hitsOf_31 : decode cX12_hitsOf 31 = .ok (.iaload, 1) := by decide +kernel
theorem dX12_hitsOf_32 : decode cX12_hitsOf 32 = .ok (.iload_n 2, 1) := by decide +kernel
theorem dX12_hitsOf_33 : decode cX12_hitsOf 33 = .ok (.invokestatic 488, 3) := by decide +kernel
theorem dX12_hitsOf_36 : decode cX12_hitsOf 36 = .ok (.aload_n 0, 1) := by decide +kernel
theorem dX12_hitsOf_37 : decode cX12_hitsOf 37 = .ok (.getfield 34, 3) := by decide +kernel
theorem dX12_hitsOf_40 : decode cX12_hitsOf 40 = .ok (.iconst 0, 1) := by decide +kernel
theorem dX12_hitsOf_41 : decode cX12_hitsOf 41 = .ok (.iaload, 1) := by decide +kernel
theorem dX12_hitsOf_42 : decode cX12_hitsOf 42 = .ok (.iload_n 3, 1) := by decide +kernel
theorem dX12_hitsOf_43 : decode cX12_hitsOf 43 = .ok (.invokevirtual 484, 3) := by decide +kernel
theorem dX12_hitsOf_46 : decode cX12_hitsOf 46 = .ok (.iload_n 1, 1) := by decide +kernel
theorem dX12_hitsOf_47 : decode cX12_hitsOf 47 = .ok (.iand, 1) := by decide +kernel
theorem dX12_hitsOf_48 : decode cX12_hitsOf 48 = .ok (.ifCond .eq 6, 3) := by decide +kernel
theorem dX12_hitsOf_51 : decode cX12_hitsOf 51 = .ok (.iinc 4 1, 3) := by decide +kernel
theorem dX12_hitsOf_54 : decode cX12_hitsOf 54 = .ok (.iinc 5 1, 3) := by decide +kernel
theorem dX12_hitsOf_57 : decode cX12_hitsOf 57 = .ok (.goto (-51), 3) := by decide +kernel
theorem dX12_hitsOf_60 : decode cX12_hitsOf 60 = .ok (.iload 4, 2) := by decide +kernel
theorem dX12_hitsOf_62 : decode cX12_hitsOf 62 = .ok (.ireturn, 1) := by decide +kernel
theorem dX12_isSet_0 : decode cX12_isSet 0 = .ok (.iload_n 1, 1) := by decide +kernel
theorem dX12_isSet_1 : decode cX12_isSet 1 = .ok (.ifCond .lt 34, 3) := by decide +kernel
theorem dX12_isSet_4 : decode cX12_isSet 4 = .ok (.iload_n 1, 1) := by decide +kernel
theorem dX12_isSet_5 : decode cX12_isSet 5 = .ok (.iconst 1, 1) := by decide +kernel
theorem dX12_isSet_6 : decode cX12_isSet 6 = .ok (.aload_n 0, 1) := by decide +kernel
theorem dX12_isSet_7 : decode cX12_isSet 7 = .ok (.getfield 76, 3) := by decide +kernel
theorem dX12_isSet_10 : decode cX12_isSet 10 = .ok (.iconst 0, 1) := by decide +kernel
theorem dX12_isSet_11 : decode cX12_isSet 11 = .ok (.iaload, 1) := by decide +kernel
theorem dX12_isSet_12 : decode cX12_isSet 12 = .ok (.ishl, 1) := by decide +kernel
theorem dX12_isSet_13 : decode cX12_isSet 13 = .ok (.if_icmp .ge 22, 3) := by decide +kernel
theorem dX12_isSet_16 : decode cX12_isSet 16 = .ok (.iload_n 2, 1) := by decide +kernel
theorem dX12_isSet_17 : decode cX12_isSet 17 = .ok (.invokestatic 472, 3) := by decide +kernel
theorem dX12_isSet_20 : decode cX12_isSet 20 = .ok (.ifCond .eq 15, 3) := by decide +kernel
theorem dX12_isSet_23 : decode cX12_isSet 23 = .ok (.aload_n 0, 1) := by decide +kernel
theorem dX12_isSet_24 : decode cX12_isSet 24 = .ok (.iload_n 3, 1) := by decide +kernel
theorem dX12_isSet_25 : decode cX12_isSet 25 = .ok (.invokevirtual 457, 3) := by decide +kernel
theorem dX12_isSet_28 : decode cX12_isSet 28 = .ok (.ifCond .eq 7, 3) := by decide +kernel
theorem dX12_isSet_31 : decode cX12_isSet 31 = .ok (.iconst 1, 1) := by decide +kernel
theorem dX12_isSet_32 : decode cX12_isSet 32 = .ok (.goto 4, 3) := by decide +kernel
theorem dX12_isSet_35 : decode cX12_isSet 35 = .ok (.iconst 0, 1) := by decide +kernel
theorem dX12_isSet_36 : decode cX12_isSet 36 = .ok (.ireturn, 1) := by decide +kernel
theorem dX12_layAll_0 : decode cX12_layAll 0 = .ok (.aload_n 0, 1) := by decide +kernel
theorem dX12_layAll_1 : decode cX12_layAll 1 = .ok (.iload_n 2, 1) := by decide +kernel
theorem dX12_layAll_2 : decode cX12_layAll 2 = .ok (.invokevirtual 463, 3) := by decide +kernel
theorem dX12_layAll_5 : decode cX12_layAll 5 = .ok (.aload_n 0, 1) := by decide +kernel
theorem dX12_layAll_6 : decode cX12_layAll 6 = .ok (.iload_n 1, 1) := by decide +kernel
theorem dX12_layAll_7 : decode cX12_layAll 7 = .ok (.invokevirtual 481, 3) := by decide +kernel
theorem dX12_layAll_10 : decode cX12_layAll 10 = .ok (.return_, 1) := by decide +kernel
theorem dX12_hits_0 : decode cX12_hits 0 = .ok (.aload_n 0, 1) := by decide +kernel
theorem dX12_hits_1 : decode cX12_hits 1 = .ok (.iload_n 1, 1) := by decide +kernel
theorem dX12_hits_2 : decode cX12_hits 2 = .ok (.iload_n 2, 1) := by decide +kernel
theorem dX12_hits_3 : decode cX12_hits 3 = .ok (.iload 5, 2) := by decide +kernel
theorem dX12_hits_5 : decode cX12_hits 5 = .ok (.invokevirtual 491, 3) := by decide +kernel
theorem dX12_hits_8 : decode cX12_hits 8 = .ok (.ifCond .eq 14, 3) := by decide +kernel
theorem dX12_hits_11 : decode cX12_hits 11 = .ok (.iload_n 3, 1) := by decide +kernel
theorem dX12_hits_12 : decode cX12_hits 12 = .ok (.iconst 0, 1) := by decide +kernel
theorem dX12_hits_13 : decode cX12_hits 13 = .ok (.sipush 359, 3) := by decide +kernel
theorem dX12_hits_16 : decode cX12_hits 16 = .ok (.invokestatic 407, 3) := by decide +kernel
theorem dX12_hits_19 : decode cX12_hits 19 = .ok (.ifCond .ne 5, 3) := by decide +kernel
theorem dX12_hits_22 : decode cX12_hits 22 = .ok (.iconst (-1), 1) := by decide +kernel
theorem dX12_hits_23 : decode cX12_hits 23 = .ok (.ireturn, 1) := by decide +kernel
theorem dX12_hits_24 : decode cX12_hits 24 = .ok (.aload_n 0, 1) := by decide +kernel
theorem dX12_hits_25 : decode cX12_hits 25 = .ok (.iload_n 2, 1) := by decide +kernel
theorem dX12_hits_26 : decode cX12_hits 26 = .ok (.iload 5, 2) := by decide +kernel
theorem dX12_hits_28 : decode cX12_hits 28 = .ok (.invokevirtual 494, 3) := by decide +kernel
theorem dX12_hits_31 : decode cX12_hits 31 = .ok (.aload_n 0, 1) := by decide +kernel
theorem dX12_hits_32 : decode cX12_hits 32 = .ok (.iload_n 1, 1) := by decide +kernel
theorem dX12_hits_33 : decode cX12_hits 33 = .ok (.iload_n 3, 1) := by decide +kernel
theorem dX12_hits_34 : decode cX12_hits 34 = .ok (.iload 4, 2) := by decide +kernel
theorem dX12_hits_36 : decode cX12_hits 36 = .ok (.invokevirtual 497, 3) := by decide +kernel
theorem dX12_hits_39 : decode cX12_hits 39 = .ok (.ireturn, 1) := by decide +kernel
theorem dX12_hitAt_0 : decode cX12_hitAt 0 = .ok (.aload_n 0, 1) := by decide +kernel
theorem dX12_hitAt_1 : decode cX12_hitAt 1 = .ok (.iload_n 1, 1) := by decide +kernel
theorem dX12_hitAt_2 : decode cX12_hitAt 2 = .ok (.iload_n 2, 1) := by decide +kernel
theorem dX12_hitAt_3 : decode cX12_hitAt 3 = .ok (.iload 4, 2) := by decide +kernel
theorem dX12_hitAt_5 : decode cX12_hitAt 5 = .ok (.invokevirtual 491, 3) := by decide +kernel
theorem dX12_hitAt_8 : decode cX12_hitAt 8 = .ok (.ifCond .ne 5, 3) := by decide +kernel
theorem dX12_hitAt_11 : decode cX12_hitAt 11 = .ok (.iconst (-1), 1) := by decide +kernel
theorem dX12_hitAt_12 : decode cX12_hitAt 12 = .ok (.ireturn, 1) := by decide +kernel
theorem dX12_hitAt_13 : decode cX12_hitAt 13 = .ok (.aload_n 0, 1) := by decide +kernel
theorem dX12_hitAt_14 : decode cX12_hitAt 14 = .ok (.iload_n 2, 1) := by decide +kernel
theorem dX12_hitAt_15 : decode cX12_hitAt 15 = .ok (.iload 4, 2) := by decide +kernel
theorem dX12_hitAt_17 : decode cX12_hitAt 17 = .ok (.invokevirtual 494, 3) := by decide +kernel
theorem dX12_hitAt_20 : decode cX12_hitAt 20 = .ok (.iconst 0, 1) := by decide +kernel
theorem dX12_hitAt_21 : decode cX12_hitAt 21 = .ok (.istore 6, 2) := by decide +kernel
theorem dX12_hitAt_23 : decode cX12_hitAt 23 = .ok (.iconst 0, 1) := by decide +kernel
theorem dX12_hitAt_24 : decode cX12_hitAt 24 = .ok (.istore 7, 2) := by decide +kernel
theorem dX12_hitAt_26 : decode cX12_hitAt 26 = .ok (.iload 7, 2) := by decide +kernel
theorem dX12_hitAt_28 : decode cX12_hitAt 28 = .ok (.sipush 196, 3) := by decide +kernel
theorem dX12_hitAt_31 : decode cX12_hitAt 31 = .ok (.if_icmp .ge 58, 3) := by decide +kernel
theorem dX12_hitAt_34 : decode cX12_hitAt 34 = .ok (.aload_n 0, 1) := by decide +kernel
theorem dX12_hitAt_35 : decode cX12_hitAt 35 = .ok (.getfield 178, 3) := by decide +kernel
theorem dX12_hitAt_38 : decode cX12_hitAt 38 = .ok (.iload 7, 2) := by decide +kernel
theorem dX12_hitAt_40 : decode cX12_hitAt 40 = .ok (.baload, 1) := by decide +kernel
theorem dX12_hitAt_41 : decode cX12_hitAt 41 = .ok (.ifCond .eq 42, 3) := by decide +kernel
theorem dX12_hitAt_44 : decode cX12_hitAt 44 = .ok (.aload_n 0, 1) := by decide +kernel
theorem dX12_hitAt_45 : decode cX12_hitAt 45 = .ok (.aload_n 0, 1) := by decide +kernel
theorem dX12_hitAt_46 : decode cX12_hitAt 46 = .ok (.getfield 172, 3) := by decide +kernel
theorem dX12_hitAt_49 : decode cX12_hitAt 49 = .ok (.iload 7, 2) := by decide +kernel
theorem dX12_hitAt_51 : decode cX12_hitAt 51 = .ok (.iaload, 1) := by decide +kernel
theorem dX12_hitAt_52 : decode cX12_hitAt 52 = .ok (.aload_n 0, 1) := by decide +kernel
theorem dX12_hitAt_53 : decode cX12_hitAt 53 = .ok (.getfield 34, 3) := by decide +kernel
theorem dX12_hitAt_56 : decode cX12_hitAt 56 = .ok (.iconst 0, 1) := by decide +kernel
theorem dX12_hitAt_57 : decode cX12_hitAt 57 = .ok (.iaload, 1) := by decide +kernel
theorem dX12_hitAt_58 : decode cX12_hitAt 58 = .ok (.iload_n 3, 1) := by decide +kernel
theorem dX12_hitAt_59 : decode cX12_hitAt 59 = .ok (.invokevirtual 484, 3) := by decide +kernel
theorem dX12_hitAt_62 : decode cX12_hitAt 62 = .ok (.iload_n 1, 1) := by decide +kernel
theorem dX12_hitAt_63 : decode cX12_hitAt 63 = .ok (.iand, 1) := by decide +kernel
theorem dX12_hitAt_64 : decode cX12_hitAt 64 = .ok (.ifCond .ne 6, 3) := by decide +kernel
theorem dX12_hitAt_67 : decode cX12_hitAt 67 = .ok (.goto 16, 3) := by decide +kernel
theorem dX12_hitAt_70 : decode cX12_hitAt 70 = .ok (.iload 6, 2) := by decide +kernel
theorem dX12_hitAt_72 : decode cX12_hitAt 72 = .ok (.iload 5, 2) := by decide +kernel
theorem dX12_hitAt_74 : decode cX12_hitAt 74 = .ok (.if_icmp .ne 6, 3) := by decide +kernel
theorem dX12_hitAt_77 : decode cX12_hitAt 77 = .ok (.iload 7, 2) := by decide +kernel
theorem dX12_hitAt_79 : decode cX12_hitAt 79 = .ok (.ireturn, 1) := by decide +kernel
theorem dX12_hitAt_80 : decode cX12_hitAt 80 = .ok (.iinc 6 1, 3) := by decide +kernel
theorem dX12_hitAt_83 : decode cX12_hitAt 83 = .ok (.iinc 7 1, 3) := by decide +kernel
theorem dX12_hitAt_86 : decode cX12_hitAt 86 = .ok (.goto (-60), 3) := by decide +kernel
theorem dX12_hitAt_89 : decode cX12_hitAt 89 = .ok (.iconst (-1), 1) := by decide +kernel
theorem dX12_hitAt_90 : decode cX12_hitAt 90 = .ok (.ireturn, 1) := by decide +kernel
theorem dX12_asMany_0 : decode cX12_asMany 0 = .ok (.aload_n 0, 1) := by decide +kernel
theorem dX12_asMany_1 : decode cX12_asMany 1 = .ok (.iload_n 1, 1) := by decide +kernel
theorem dX12_asMany_2 : decode cX12_asMany 2 = .ok (.iconst 0, 1) := by decide +kernel
theorem dX12_asMany_3 : decode cX12_asMany 3 = .ok (.iconst 0, 1) := by decide +kernel
theorem dX12_asMany_4 : decode cX12_asMany 4 = .ok (.invokevirtual 497, 3) := by decide +kernel
theorem dX12_asMany_7 : decode cX12_asMany 7 = .ok (.istore_n 2, 1) := by decide +kernel
theorem dX12_asMany_8 : decode cX12_asMany 8 = .ok (.iconst 0, 1) := by decide +kernel
theorem dX12_asMany_9 : decode cX12_asMany 9 = .ok (.istore_n 3, 1) := by decide +kernel
theorem dX12_asMany_10 : decode cX12_asMany 10 = .ok (.iconst 0, 1) := by decide +kernel
theorem dX12_asMany_11 : decode cX12_asMany 11 = .ok (.istore 4, 2) := by decide +kernel
theorem dX12_asMany_13 : decode cX12_asMany 13 = .ok (.iload 4, 2) := by decide +kernel
theorem dX12_asMany_15 : decode cX12_asMany 15 = .ok (.sipush 360, 3) := by decide +kernel
theorem dX12_asMany_18 : decode cX12_asMany 18 = .ok (.if_icmp .ge 29, 3) := by decide +kernel
theorem dX12_asMany_21 : decode cX12_asMany 21 = .ok (.iload_n 3, 1) := by decide +kernel
theorem dX12_asMany_22 : decode cX12_asMany 22 = .ok (.aload_n 0, 1) := by decide +kernel
theorem dX12_asMany_23 : decode cX12_asMany 23 = .ok (.iload_n 1, 1) := by decide +kernel
theorem dX12_asMany_24 : decode cX12_asMany 24 = .ok (.iload 4, 2) := by decide +kernel
theorem dX12_asMany_26 : decode cX12_asMany 26 = .ok (.iconst 0, 1) := by decide +kernel
theorem dX12_asMany_27 : decode cX12_asMany 27 = .ok (.invokevirtual 497, 3) := by decide +kernel
theorem dX12_asMany_30 : decode cX12_asMany 30 = .ok (.iload_n 2, 1) := by decide +kernel
theorem dX12_asMany_31 : decode cX12_asMany 31 = .ok (.if_icmp .lt 7, 3) := by decide +kernel
theorem dX12_asMany_34 : decode cX12_asMany 34 = .ok (.iconst 1, 1) := by decide +kernel
theorem dX12_asMany_35 : decode cX12_asMany 35 = .ok (.goto 4, 3) := by decide +kernel
theorem dX12_asMany_38 : decode cX12_asMany 38 = .ok (.iconst 0, 1) := by decide +kernel
theorem dX12_asMany_39 : decode cX12_asMany 39 = .ok (.iadd, 1) := by decide +kernel
theorem dX12_asMany_40 : decode cX12_asMany 40 = .ok (.istore_n 3, 1) := by decide +kernel
theorem dX12_asMany_41 : decode cX12_asMany 41 = .ok (.iinc 4 1, 3) := by decide +kernel
theorem dX12_asMany_44 : decode cX12_asMany 44 = .ok (.goto (-31), 3) := by decide +kernel
theorem dX12_asMany_47 : decode cX12_asMany 47 = .ok (.iload_n 3, 1) := by decide +kernel
theorem dX12_asMany_48 : decode cX12_asMany 48 = .ok (.ireturn, 1) := by decide +kernel
theorem dX12_many_0 : decode cX12_many 0 = .ok (.aload_n 0, 1) := by decide +kernel
theorem dX12_many_1 : decode cX12_many 1 = .ok (.iload_n 1, 1) := by decide +kernel
theorem dX12_many_2 : decode cX12_many 2 = .ok (.iload_n 2, 1) := by decide +kernel
theorem dX12_many_3 : decode cX12_many 3 = .ok (.iload_n 3, 1) := by decide +kernel
theorem dX12_many_4 : decode cX12_many 4 = .ok (.invokevirtual 491, 3) := by decide +kernel
theorem dX12_many_7 : decode cX12_many 7 = .ok (.ifCond .ne 5, 3) := by decide +kernel
theorem dX12_many_10 : decode cX12_many 10 = .ok (.iconst (-1), 1) := by decide +kernel
theorem dX12_many_11 : decode cX12_many 11 = .ok (.ireturn, 1) := by decide +kernel
theorem dX12_many_12 : decode cX12_many 12 = .ok (.aload_n 0, 1) := by decide +kernel
theorem dX12_many_13 : decode cX12_many 13 = .ok (.iload_n 2, 1) := by decide +kernel
theorem dX12_many_14 : decode cX12_many 14 = .ok (.iload_n 3, 1) := by decide +kernel
theorem dX12_many_15 : decode cX12_many 15 = .ok (.invokevirtual 494, 3) := by decide +kernel
theorem dX12_many_18 : decode cX12_many 18 = .ok (.aload_n 0, 1) := by decide +kernel
theorem dX12_many_19 : decode cX12_many 19 = .ok (.iload_n 1, 1) := by decide +kernel
theorem dX12_many_20 : decode cX12_many 20 = .ok (.invokevirtual 500, 3) := by decide +kernel
theorem dX12_many_23 : decode cX12_many 23 = .ok (.ireturn, 1) := by decide +kernel
theorem dX12_allHits_0 : decode cX12_allHits 0 = .ok (.aload_n 0, 1) := by decide +kernel
theorem dX12_allHits_1 : decode cX12_allHits 1 = .ok (.iload_n 1, 1) := by decide +kernel
theorem dX12_allHits_2 : decode cX12_allHits 2 = .ok (.iload_n 2, 1) := by decide +kernel
theorem dX12_allHits_3 : decode cX12_allHits 3 = .ok (.iload_n 3, 1) := by decide +kernel
theorem dX12_allHits_4 : decode cX12_allHits 4 = .ok (.invokevirtual 491, 3) := by decide +kernel
theorem dX12_allHits_7 : decode cX12_allHits 7 = .ok (.ifCond .ne 5, 3) := by decide +kernel
theorem dX12_allHits_10 : decode cX12_allHits 10 = .ok (.iconst (-1), 1) := by decide +kernel
theorem dX12_allHits_11 : decode cX12_allHits 11 = .ok (.ireturn, 1) := by decide +kernel
theorem dX12_allHits_12 : decode cX12_allHits 12 = .ok (.aload_n 0, 1) := by decide +kernel
theorem dX12_allHits_13 : decode cX12_allHits 13 = .ok (.iload_n 2, 1) := by decide +kernel
theorem dX12_allHits_14 : decode cX12_allHits 14 = .ok (.iload_n 3, 1) := by decide +kernel
theorem dX12_allHits_15 : decode cX12_allHits 15 = .ok (.invokevirtual 494, 3) := by decide +kernel
theorem dX12_allHits_18 : decode cX12_allHits 18 = .ok (.iconst 0, 1) := by decide +kernel
theorem dX12_allHits_19 : decode cX12_allHits 19 = .ok (.istore 4, 2) := by decide +kernel
theorem dX12_allHits_21 : decode cX12_allHits 21 = .ok (.iconst 0, 1) := by decide +kernel
theorem dX12_allHits_22 : decode cX12_allHits 22 = .ok (.istore 5, 2) := by decide +kernel
theorem dX12_allHits_24 : decode cX12_allHits 24 = .ok (.iload 5, 2) := by decide +kernel
theorem dX12_allHits_26 : decode cX12_allHits 26 = .ok (.sipush 360, 3) := by decide +kernel
theorem dX12_allHits_29 : decode cX12_allHits 29 = .ok (.if_icmp .ge 22, 3) := by decide +kernel
theorem dX12_allHits_32 : decode cX12_allHits 32 = .ok (.iload 4, 2) := by decide +kernel
theorem dX12_allHits_34 : decode cX12_allHits 34 = .ok (.aload_n 0, 1) := by decide +kernel
theorem dX12_allHits_35 : decode cX12_allHits 35 = .ok (.iload_n 1, 1) := by decide +kernel
theorem dX12_allHits_36 : decode cX12_allHits 36 = .ok (.iload 5, 2) := by decide +kernel
theorem dX12_allHits_38 : decode cX12_allHits 38 = .ok (.iconst 0, 1) := by decide +kernel
theorem dX12_allHits_39 : decode cX12_allHits 39 = .ok (.invokevirtual 497, 3) := by decide +kernel
theorem dX12_allHits_42 : decode cX12_allHits 42 = .ok (.iadd, 1) := by decide +kernel
theorem dX12_allHits_43 : decode cX12_allHits 43 = .ok (.istore 4, 2) := by decide +kernel
theorem dX12_allHits_45 : decode cX12_allHits 45 = .ok (.iinc 5 1, 3) := by decide +kernel
theorem dX12_allHits_48 : decode cX12_allHits 48 = .ok (.goto (-24), 3) := by decide +kernel
theorem dX12_allHits_51 : decode cX12_allHits 51 = .ok (.iload 4, 2) := by decide +kernel
theorem dX12_allHits_53 : decode cX12_allHits 53 = .ok (.ireturn, 1) := by decide +kernel
theorem dX12_alone_0 : decode cX12_alone 0 = .ok (.aload_n 0, 1) := by decide +kernel
theorem dX12_alone_1 : decode cX12_alone 1 = .ok (.iload_n 1, 1) := by decide +kernel
theorem dX12_alone_2 : decode cX12_alone 2 = .ok (.iload_n 2, 1) := by decide +kernel
theorem dX12_alone_3 : decode cX12_alone 3 = .ok (.iload_n 3, 1) := by decide +kernel
theorem dX12_alone_4 : decode cX12_alone 4 = .ok (.invokevirtual 491, 3) := by decide +kernel
theorem dX12_alone_7 : decode cX12_alone 7 = .ok (.ifCond .ne 5, 3) := by decide +kernel
theorem dX12_alone_10 : decode cX12_alone 10 = .ok (.iconst (-1), 1) := by decide +kernel
theorem dX12_alone_11 : decode cX12_alone 11 = .ok (.ireturn, 1) := by decide +kernel
theorem dX12_alone_12 : decode cX12_alone 12 = .ok (.aload_n 0, 1) := by decide +kernel
theorem dX12_alone_13 : decode cX12_alone 13 = .ok (.iload_n 2, 1) := by decide +kernel
theorem dX12_alone_14 : decode cX12_alone 14 = .ok (.iload_n 3, 1) := by decide +kernel
theorem dX12_alone_15 : decode cX12_alone 15 = .ok (.invokevirtual 494, 3) := by decide +kernel
theorem dX12_alone_18 : decode cX12_alone 18 = .ok (.iconst 0, 1) := by decide +kernel
theorem dX12_alone_19 : decode cX12_alone 19 = .ok (.istore 4, 2) := by decide +kernel
theorem dX12_alone_21 : decode cX12_alone 21 = .ok (.iload 4, 2) := by decide +kernel
theorem dX12_alone_23 : decode cX12_alone 23 = .ok (.bipush 14, 2) := by decide +kernel
theorem dX12_alone_25 : decode cX12_alone 25 = .ok (.if_icmp .ge 17, 3) := by decide +kernel
theorem dX12_alone_28 : decode cX12_alone 28 = .ok (.aload_n 0, 1) := by decide +kernel
theorem dX12_alone_29 : decode cX12_alone 29 = .ok (.getfield 193, 3) := by decide +kernel
theorem dX12_alone_32 : decode cX12_alone 32 = .ok (.iload 4, 2) := by decide +kernel
theorem dX12_alone_34 : decode cX12_alone 34 = .ok (.iconst 0, 1) := by decide +kernel
theorem dX12_alone_35 : decode cX12_alone 35 = .ok (.iastore, 1) := by decide +kernel
theorem dX12_alone_36 : decode cX12_alone 36 = .ok (.iinc 4 1, 3) := by decide +kernel
theorem dX12_alone_39 : decode cX12_alone 39 = .ok (.goto (-18), 3) := by decide +kernel
theorem dX12_alone_42 : decode cX12_alone 42 = .ok (.iconst 0, 1) := by decide +kernel
theorem dX12_alone_43 : decode cX12_alone 43 = .ok (.istore 4, 2) := by decide +kernel
theorem dX12_alone_45 : decode cX12_alone 45 = .ok (.iload 4, 2) := by decide +kernel
theorem dX12_alone_47 : decode cX12_alone 47 = .ok (.sipush 196, 3) := by decide +kernel
theorem dX12_alone_50 : decode cX12_alone 50 = .ok (.if_icmp .ge 85, 3) := by decide +kernel
theorem dX12_alone_53 : decode cX12_alone 53 = .ok (.aload_n 0, 1) := by decide +kernel
theorem dX12_alone_54 : decode cX12_alone 54 = .ok (.getfield 178, 3) := by decide +kernel
theorem dX12_alone_57 : decode cX12_alone 57 = .ok (.iload 4, 2) := by decide +kernel
theorem dX12_alone_59 : decode cX12_alone 59 = .ok (.baload, 1) := by decide +kernel
theorem dX12_alone_60 : decode cX12_alone 60 = .ok (.ifCond .eq 69, 3) := by decide +kernel
theorem dX12_alone_63 : decode cX12_alone 63 = .ok (.aload_n 0, 1) := by decide +kernel
theorem dX12_alone_64 : decode cX12_alone 64 = .ok (.aload_n 0, 1) := by decide +kernel
theorem dX12_alone_65 : decode cX12_alone 65 = .ok (.getfield 172, 3) := by decide +kernel
theorem dX12_alone_68 : decode cX12_alone 68 = .ok (.iload 4, 2) := by decide +kernel
theorem dX12_alone_70 : decode cX12_alone 70 = .ok (.iaload, 1) := by decide +kernel
theorem dX12_alone_71 : decode cX12_alone 71 = .ok (.aload_n 0, 1) := by decide +kernel
theorem dX12_alone_72 : decode cX12_alone 72 = .ok (.getfield 34, 3) := by decide +kernel
theorem dX12_alone_75 : decode cX12_alone 75 = .ok (.iconst 0, 1) := by decide +kernel
theorem dX12_alone_76 : decode cX12_alone 76 = .ok (.iaload, 1) := by decide +kernel
theorem dX12_alone_77 : decode cX12_alone 77 = .ok (.iconst 0, 1) := by decide +kernel
theorem dX12_alone_78 : decode cX12_alone 78 = .ok (.invokevirtual 484, 3) := by decide +kernel
theorem dX12_alone_81 : decode cX12_alone 81 = .ok (.iload_n 1, 1) := by decide +kernel
theorem dX12_alone_82 : decode cX12_alone 82 = .ok (.iand, 1) := by decide +kernel
theorem dX12_alone_83 : decode cX12_alone 83 = .ok (.ifCond .ne 6, 3) := by decide +kernel
theorem dX12_alone_86 : decode cX12_alone 86 = .ok (.goto 43, 3) := by decide +kernel
theorem dX12_alone_89 : decode cX12_alone 89 = .ok (.aload_n 0, 1) := by decide +kernel
theorem dX12_alone_90 : decode cX12_alone 90 = .ok (.getfield 193, 3) := by decide +kernel
theorem dX12_alone_93 : decode cX12_alone 93 = .ok (.iload 4, 2) := by decide +kernel
theorem dX12_alone_95 : decode cX12_alone 95 = .ok (.bipush 14, 2) := by decide +kernel
theorem dX12_alone_97 : decode cX12_alone 97 = .ok (.idiv, 1) := by decide +kernel
theorem dX12_alone_98 : decode cX12_alone 98 = .ok (.dup2, 1) := by decide +kernel
theorem dX12_alone_99 : decode cX12_alone 99 = .ok (.iaload, 1) := by decide +kernel
theorem dX12_alone_100 : decode cX12_alone 100 = .ok (.iconst 1, 1) := by decide +kernel
theorem dX12_alone_101 : decode cX12_alone 101 = .ok (.iload 4, 2) := by decide +kernel
theorem dX12_alone_103 : decode cX12_alone 103 = .ok (.bipush 14, 2) := by decide +kernel
theorem dX12_alone_105 : decode cX12_alone 105 = .ok (.irem, 1) := by decide +kernel
theorem dX12_alone_106 : decode cX12_alone 106 = .ok (.ishl, 1) := by decide +kernel
theorem dX12_alone_107 : decode cX12_alone 107 = .ok (.ior, 1) := by decide +kernel
theorem dX12_alone_108 : decode cX12_alone 108 = .ok (.iastore, 1) := by decide +kernel
theorem dX12_alone_109 : decode cX12_alone 109 = .ok (.aload_n 0, 1) := by decide +kernel
theorem dX12_alone_110 : decode cX12_alone 110 = .ok (.getfield 193, 3) := by decide +kernel
theorem dX12_alone_113 : decode cX12_alone 113 = .ok (.iload 4, 2) := by decide +kernel
theorem dX12_alone_115 : decode cX12_alone 115 = .ok (.bipush 14, 2) := by decide +kernel
theorem dX12_alone_117 : decode cX12_alone 117 = .ok (.irem, 1) := by decide +kernel
theorem dX12_alone_118 : decode cX12_alone 118 = .ok (.dup2, 1) := by decide +kernel
theorem dX12_alone_119 : decode cX12_alone 119 = .ok (.iaload, 1) := by decide +kernel
theorem dX12_alone_120 : decode cX12_alone 120 = .ok (.iconst 1, 1) := by decide +kernel
theorem dX12_alone_121 : decode cX12_alone 121 = .ok (.iload 4, 2) := by decide +kernel
theorem dX12_alone_123 : decode cX12_alone 123 = .ok (.bipush 14, 2) := by decide +kernel
theorem dX12_alone_125 : decode cX12_alone 125 = .ok (.idiv, 1) := by decide +kernel
theorem dX12_alone_126 : decode cX12_alone 126 = .ok (.ishl, 1) := by decide +kernel
theorem dX12_alone_127 : decode cX12_alone 127 = .ok (.ior, 1) := by decide +kernel
theorem dX12_alone_128 : decode cX12_alone 128 = .ok (.iastore, 1) := by decide +kernel
theorem dX12_alone_129 : decode cX12_alone 129 = .ok (.iinc 4 1, 3) := by decide +kernel
theorem dX12_alone_132 : decode cX12_alone 132 = .ok (.goto (-87), 3) := by decide +kernel
theorem dX12_alone_135 : decode cX12_alone 135 = .ok (.iconst 1, 1) := by decide +kernel
theorem dX12_alone_136 : decode cX12_alone 136 = .ok (.aload_n 0, 1) := by decide +kernel
theorem dX12_alone_137 : decode cX12_alone 137 = .ok (.getfield 37, 3) := by decide +kernel
theorem dX12_alone_140 : decode cX12_alone 140 = .ok (.iconst 0, 1) := by decide +kernel
theorem dX12_alone_141 : decode cX12_alone 141 = .ok (.iaload, 1) := by decide +kernel
theorem dX12_alone_142 : decode cX12_alone 142 = .ok (.ishl, 1) := by decide +kernel
theorem dX12_alone_143 : decode cX12_alone 143 = .ok (.istore 4, 2) := by decide +kernel
theorem dX12_alone_145 : decode cX12_alone 145 = .ok (.aload_n 0, 1) := by decide +kernel
theorem dX12_alone_146 : decode cX12_alone 146 = .ok (.getfield 190, 3) := by decide +kernel
theorem dX12_alone_149 : decode cX12_alone 149 = .ok (.iconst 0, 1) := by decide +kernel
theorem dX12_alone_150 : decode cX12_alone 150 = .ok (.iconst 0, 1) := by decide +kernel
theorem dX12_alone_151 : decode cX12_alone 151 = .ok (.iastore, 1) := by decide +kernel
theorem dX12_alone_152 : decode cX12_alone 152 = .ok (.iconst 1, 1) := by decide +kernel
theorem dX12_alone_153 : decode cX12_alone 153 = .ok (.istore 5, 2) := by decide +kernel
theorem dX12_alone_155 : decode cX12_alone 155 = .ok (.iload 5, 2) := by decide +kernel
theorem dX12_alone_157 : decode cX12_alone 157 = .ok (.iload 4, 2) := by decide +kernel
theorem dX12_alone_159 : decode cX12_alone 159 = .ok (.if_icmp .ge 133, 3) := by decide +kernel
theorem dX12_alone_162 : decode cX12_alone 162 = .ok (.iconst 0, 1) := by decide +kernel
theorem dX12_alone_163 : decode cX12_alone 163 = .ok (.istore 6, 2) := by decide +kernel
theorem dX12_alone_165 : decode cX12_alone 165 = .ok (.iload 5, 2) := by decide +kernel
theorem dX12_alone_167 : decode cX12_alone 167 = .ok (.iload 6, 2) := by decide +kernel
theorem dX12_alone_169 : decode cX12_alone 169 = .ok (.ishr, 1) := by decide +kernel
theorem dX12_alone_170 : decode cX12_alone 170 = .ok (.iconst 1, 1) := by decide +kernel
theorem dX12_alone_171 : decode cX12_alone 171 = .ok (.iand, 1) := by decide +kernel
theorem dX12_alone_172 : decode cX12_alone 172 = .ok (.ifCond .ne 9, 3) := by decide +kernel
theorem dX12_alone_175 : decode cX12_alone 175 = .ok (.iinc 6 1, 3) := by decide +kernel
theorem dX12_alone_178 : decode cX12_alone 178 = .ok (.goto (-13), 3) := by decide +kernel
theorem dX12_alone_181 : decode cX12_alone 181 = .ok (.iload 5, 2) := by decide +kernel
theorem dX12_alone_183 : decode cX12_alone 183 = .ok (.iconst 1, 1) := by decide +kernel
theorem dX12_alone_184 : decode cX12_alone 184 = .ok (.iload 6, 2) := by decide +kernel
theorem dX12_alone_186 : decode cX12_alone 186 = .ok (.ishl, 1) := by decide +kernel
theorem dX12_alone_187 : decode cX12_alone 187 = .ok (.iconst (-1), 1) := by decide +kernel
theorem dX12_alone_188 : decode cX12_alone 188 = .ok (.ixor, 1) := by decide +kernel
theorem dX12_alone_189 : decode cX12_alone 189 = .ok (.iand, 1) := by decide +kernel
theorem dX12_alone_190 : decode cX12_alone 190 = .ok (.istore 7, 2) := by decide +kernel
theorem dX12_alone_192 : decode cX12_alone 192 = .ok (.aload_n 0, 1) := by decide +kernel
theorem dX12_alone_193 : decode cX12_alone 193 = .ok (.getfield 190, 3) := by decide +kernel
theorem dX12_alone_196 : decode cX12_alone 196 = .ok (.iload 7, 2) := by decide +kernel
theorem dX12_alone_198 : decode cX12_alone 198 = .ok (.iaload, 1) := by decide +kernel
theorem dX12_alone_199 : decode cX12_alone 199 = .ok (.istore 8, 2) := by decide +kernel
theorem dX12_alone_201 : decode cX12_alone 201 = .ok (.iload 6, 2) := by decide +kernel
theorem dX12_alone_203 : decode cX12_alone 203 = .ok (.iconst 1, 1) := by decide +kernel
theorem dX12_alone_204 : decode cX12_alone 204 = .ok (.iadd, 1) := by decide +kernel
theorem dX12_alone_205 : decode cX12_alone 205 = .ok (.istore 9, 2) := by decide +kernel
theorem dX12_alone_207 : decode cX12_alone 207 = .ok (.iload 9, 2) := by decide +kernel
theorem dX12_alone_209 : decode cX12_alone 209 = .ok (.bipush 14, 2) := by decide +kernel
theorem dX12_alone_211 : decode cX12_alone 211 = .ok (.if_icmp .ge 66, 3) := by decide +kernel
theorem dX12_alone_214 : decode cX12_alone 214 = .ok (.iload 7, 2) := by decide +kernel
theorem dX12_alone_216 : decode cX12_alone 216 = .ok (.iload 9, 2) := by decide +kernel
theorem dX12_alone_218 : decode cX12_alone 218 = .ok (.ishr, 1) := by decide +kernel
theorem dX12_alone_219 : decode cX12_alone 219 = .ok (.iconst 1, 1) := by decide +kernel
theorem dX12_alone_220 : decode cX12_alone 220 = .ok (.iand, 1) := by decide +kernel
theorem dX12_alone_221 : decode cX12_alone 221 = .ok (.ifCond .eq 50, 3) := by decide +kernel
theorem dX12_alone_224 : decode cX12_alone 224 = .ok (.aload_n 0, 1) := by decide +kernel
theorem dX12_alone_225 : decode cX12_alone 225 = .ok (.getfield 193, 3) := by decide +kernel
theorem dX12_alone_228 : decode cX12_alone 228 = .ok (.iload 6, 2) := by decide +kernel
theorem dX12_alone_230 : decode cX12_alone 230 = .ok (.iaload, 1) := by decide +kernel
theorem dX12_alone_231 : decode cX12_alone 231 = .ok (.iload 9, 2) := by decide +kernel
theorem dX12_alone_233 : decode cX12_alone 233 = .ok (.ishr, 1) := by decide +kernel
theorem dX12_alone_234 : decode cX12_alone 234 = .ok (.iconst 1, 1) := by decide +kernel
theorem dX12_alone_235 : decode cX12_alone 235 = .ok (.iand, 1) := by decide +kernel
theorem dX12_alone_236 : decode cX12_alone 236 = .ok (.ifCond .ne 6, 3) := by decide +kernel
theorem dX12_alone_239 : decode cX12_alone 239 = .ok (.goto 32, 3) := by decide +kernel
theorem dX12_alone_242 : decode cX12_alone 242 = .ok (.aload_n 0, 1) := by decide +kernel
theorem dX12_alone_243 : decode cX12_alone 243 = .ok (.getfield 190, 3) := by decide +kernel
theorem dX12_alone_246 : decode cX12_alone 246 = .ok (.iload 7, 2) := by decide +kernel
theorem dX12_alone_248 : decode cX12_alone 248 = .ok (.iconst 1, 1) := by decide +kernel
theorem dX12_alone_249 : decode cX12_alone 249 = .ok (.iload 9, 2) := by decide +kernel
theorem dX12_alone_251 : decode cX12_alone 251 = .ok (.ishl, 1) := by decide +kernel
theorem dX12_alone_252 : decode cX12_alone 252 = .ok (.iconst (-1), 1) := by decide +kernel
