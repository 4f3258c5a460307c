theorem dX12_alone_253 : decode cX12_alone 253 = .ok (.ixor, 1) := by decide +kernel
theorem dX12_alone_254 : decode cX12_alone 254 = .ok (.iand, 1) := by decide +kernel
theorem dX12_alone_255 : decode cX12_alone 255 = .ok (.iaload, 1) := by decide +kernel
theorem dX12_alone_256 : decode cX12_alone 256 = .ok (.iconst 1, 1) := by decide +kernel
theorem dX12_alone_257 : decode cX12_alone 257 = .ok (.iadd, 1) := by decide +kernel
theorem dX12_alone_258 : decode cX12_alone 258 = .ok (.istore 10, 2) := by decide +kernel
theorem dX12_alone_260 : decode cX12_alone 260 = .ok (.iload 10, 2) := by decide +kernel
theorem dX12_alone_262 : decode cX12_alone 262 = .ok (.iload 8, 2) := by decide +kernel
theorem dX12_alone_264 : decode cX12_alone 264 = .ok (.if_icmp .le 7, 3) := by decide +kernel
theorem dX12_alone_267 : decode cX12_alone 267 = .ok (.iload 10, 2) := by decide +kernel
theorem dX12_alone_269 : decode cX12_alone 269 = .ok (.istore 8, 2) := by decide +kernel
theorem dX12_alone_271 : decode cX12_alone 271 = .ok (.iinc 9 1, 3) := by decide +kernel
theorem dX12_alone_274 : decode cX12_alone 274 = .ok (.goto (-67), 3) := by decide +kernel
theorem dX12_alone_277 : decode cX12_alone 277 = .ok (.aload_n 0, 1) := by decide +kernel
theorem dX12_alone_278 : decode cX12_alone 278 = .ok (.getfield 190, 3) := by decide +kernel
theorem dX12_alone_281 : decode cX12_alone 281 = .ok (.iload 5, 2) := by decide +kernel
theorem dX12_alone_283 : decode cX12_alone 283 = .ok (.iload 8, 2) := by decide +kernel
theorem dX12_alone_285 : decode cX12_alone 285 = .ok (.iastore, 1) := by decide +kernel
theorem dX12_alone_286 : decode cX12_alone 286 = .ok (.iinc 5 1, 3) := by decide +kernel
theorem dX12_alone_289 : decode cX12_alone 289 = .ok (.goto (-134), 3) := by decide +kernel
theorem dX12_alone_292 : decode cX12_alone 292 = .ok (.aload_n 0, 1) := by decide +kernel
theorem dX12_alone_293 : decode cX12_alone 293 = .ok (.getfield 190, 3) := by decide +kernel
theorem dX12_alone_296 : decode cX12_alone 296 = .ok (.iload 4, 2) := by decide +kernel
theorem dX12_alone_298 : decode cX12_alone 298 = .ok (.iconst 1, 1) := by decide +kernel
theorem dX12_alone_299 : decode cX12_alone 299 = .ok (.isub, 1) := by decide +kernel
theorem dX12_alone_300 : decode cX12_alone 300 = .ok (.iaload, 1) := by decide +kernel
theorem dX12_alone_301 : decode cX12_alone 301 = .ok (.ireturn, 1) := by decide +kernel
theorem dX12_strike_0 : decode cX12_strike 0 = .ok (.iconst 0, 1) := by decide +kernel
theorem dX12_strike_1 : decode cX12_strike 1 = .ok (.istore_n 1, 1) := by decide +kernel
theorem dX12_strike_2 : decode cX12_strike 2 = .ok (.iload_n 1, 1) := by decide +kernel
theorem dX12_strike_3 : decode cX12_strike 3 = .ok (.sipush 360, 3) := by decide +kernel
theorem dX12_strike_6 : decode cX12_strike 6 = .ok (.if_icmp .ge 18, 3) := by decide +kernel
theorem dX12_strike_9 : decode cX12_strike 9 = .ok (.aload_n 0, 1) := by decide +kernel
theorem dX12_strike_10 : decode cX12_strike 10 = .ok (.getfield 196, 3) := by decide +kernel
theorem dX12_strike_13 : decode cX12_strike 13 = .ok (.iload_n 1, 1) := by decide +kernel
theorem dX12_strike_14 : decode cX12_strike 14 = .ok (.sipush 360, 3) := by decide +kernel
theorem dX12_strike_17 : decode cX12_strike 17 = .ok (.iastore, 1) := by decide +kernel
theorem dX12_strike_18 : decode cX12_strike 18 = .ok (.iinc 1 1, 3) := by decide +kernel
theorem dX12_strike_21 : decode cX12_strike 21 = .ok (.goto (-19), 3) := by decide +kernel
theorem dX12_strike_24 : decode cX12_strike 24 = .ok (.iconst 0, 1) := by decide +kernel
theorem dX12_strike_25 : decode cX12_strike 25 = .ok (.istore_n 1, 1) := by decide +kernel
theorem dX12_strike_26 : decode cX12_strike 26 = .ok (.iload_n 1, 1) := by decide +kernel
theorem dX12_strike_27 : decode cX12_strike 27 = .ok (.iconst 5, 1) := by decide +kernel
theorem dX12_strike_28 : decode cX12_strike 28 = .ok (.if_icmp .ge 105, 3) := by decide +kernel
theorem dX12_strike_31 : decode cX12_strike 31 = .ok (.iconst 0, 1) := by decide +kernel
theorem dX12_strike_32 : decode cX12_strike 32 = .ok (.istore_n 2, 1) := by decide +kernel
theorem dX12_strike_33 : decode cX12_strike 33 = .ok (.iload_n 2, 1) := by decide +kernel
theorem dX12_strike_34 : decode cX12_strike 34 = .ok (.sipush 360, 3) := by decide +kernel
theorem dX12_strike_37 : decode cX12_strike 37 = .ok (.if_icmp .ge 65, 3) := by decide +kernel
theorem dX12_strike_40 : decode cX12_strike 40 = .ok (.iconst 0, 1) := by decide +kernel
theorem dX12_strike_41 : decode cX12_strike 41 = .ok (.istore_n 3, 1) := by decide +kernel
theorem dX12_strike_42 : decode cX12_strike 42 = .ok (.iload_n 3, 1) := by decide +kernel
theorem dX12_strike_43 : decode cX12_strike 43 = .ok (.sipush 196, 3) := by decide +kernel
theorem dX12_strike_46 : decode cX12_strike 46 = .ok (.if_icmp .ge 50, 3) := by decide +kernel
theorem dX12_strike_49 : decode cX12_strike 49 = .ok (.aload_n 0, 1) := by decide +kernel
theorem dX12_strike_50 : decode cX12_strike 50 = .ok (.getfield 206, 3) := by decide +kernel
theorem dX12_strike_53 : decode cX12_strike 53 = .ok (.sipush 196, 3) := by decide +kernel
theorem dX12_strike_56 : decode cX12_strike 56 = .ok (.iload_n 2, 1) := by decide +kernel
theorem dX12_strike_57 : decode cX12_strike 57 = .ok (.imul, 1) := by decide +kernel
theorem dX12_strike_58 : decode cX12_strike 58 = .ok (.iload_n 3, 1) := by decide +kernel
theorem dX12_strike_59 : decode cX12_strike 59 = .ok (.iadd, 1) := by decide +kernel
theorem dX12_strike_60 : decode cX12_strike 60 = .ok (.aload_n 0, 1) := by decide +kernel
theorem dX12_strike_61 : decode cX12_strike 61 = .ok (.getfield 178, 3) := by decide +kernel
theorem dX12_strike_64 : decode cX12_strike 64 = .ok (.iload_n 3, 1) := by decide +kernel
theorem dX12_strike_65 : decode cX12_strike 65 = .ok (.baload, 1) := by decide +kernel
theorem dX12_strike_66 : decode cX12_strike 66 = .ok (.ifCond .eq 22, 3) := by decide +kernel
theorem dX12_strike_69 : decode cX12_strike 69 = .ok (.aload_n 0, 1) := by decide +kernel
theorem dX12_strike_70 : decode cX12_strike 70 = .ok (.aload_n 0, 1) := by decide +kernel
theorem dX12_strike_71 : decode cX12_strike 71 = .ok (.getfield 172, 3) := by decide +kernel
theorem dX12_strike_74 : decode cX12_strike 74 = .ok (.iload_n 3, 1) := by decide +kernel
theorem dX12_strike_75 : decode cX12_strike 75 = .ok (.iaload, 1) := by decide +kernel
theorem dX12_strike_76 : decode cX12_strike 76 = .ok (.iload_n 2, 1) := by decide +kernel
theorem dX12_strike_77 : decode cX12_strike 77 = .ok (.invokestatic 488, 3) := by decide +kernel
theorem dX12_strike_80 : decode cX12_strike 80 = .ok (.iload_n 1, 1) := by decide +kernel
theorem dX12_strike_81 : decode cX12_strike 81 = .ok (.iconst 0, 1) := by decide +kernel
theorem dX12_strike_82 : decode cX12_strike 82 = .ok (.invokevirtual 484, 3) := by decide +kernel
theorem dX12_strike_85 : decode cX12_strike 85 = .ok (.goto 4, 3) := by decide +kernel
theorem dX12_strike_88 : decode cX12_strike 88 = .ok (.iconst 0, 1) := by decide +kernel
theorem dX12_strike_89 : decode cX12_strike 89 = .ok (.iastore, 1) := by decide +kernel
theorem dX12_strike_90 : decode cX12_strike 90 = .ok (.iinc 3 1, 3) := by decide +kernel
theorem dX12_strike_93 : decode cX12_strike 93 = .ok (.goto (-51), 3) := by decide +kernel
theorem dX12_strike_96 : decode cX12_strike 96 = .ok (.iinc 2 1, 3) := by decide +kernel
theorem dX12_strike_99 : decode cX12_strike 99 = .ok (.goto (-66), 3) := by decide +kernel
theorem dX12_strike_102 : decode cX12_strike 102 = .ok (.iconst 1, 1) := by decide +kernel
theorem dX12_strike_103 : decode cX12_strike 103 = .ok (.istore_n 2, 1) := by decide +kernel
theorem dX12_strike_104 : decode cX12_strike 104 = .ok (.iload_n 2, 1) := by decide +kernel
theorem dX12_strike_105 : decode cX12_strike 105 = .ok (.iconst 1, 1) := by decide +kernel
theorem dX12_strike_106 : decode cX12_strike 106 = .ok (.aload_n 0, 1) := by decide +kernel
theorem dX12_strike_107 : decode cX12_strike 107 = .ok (.getfield 76, 3) := by decide +kernel
theorem dX12_strike_110 : decode cX12_strike 110 = .ok (.iconst 0, 1) := by decide +kernel
theorem dX12_strike_111 : decode cX12_strike 111 = .ok (.iaload, 1) := by decide +kernel
theorem dX12_strike_112 : decode cX12_strike 112 = .ok (.ishl, 1) := by decide +kernel
theorem dX12_strike_113 : decode cX12_strike 113 = .ok (.if_icmp .ge 14, 3) := by decide +kernel
theorem dX12_strike_116 : decode cX12_strike 116 = .ok (.aload_n 0, 1) := by decide +kernel
theorem dX12_strike_117 : decode cX12_strike 117 = .ok (.iload_n 2, 1) := by decide +kernel
theorem dX12_strike_118 : decode cX12_strike 118 = .ok (.invokevirtual 503, 3) := by decide +kernel
theorem dX12_strike_121 : decode cX12_strike 121 = .ok (.iinc 2 1, 3) := by decide +kernel
theorem dX12_strike_124 : decode cX12_strike 124 = .ok (.goto (-20), 3) := by decide +kernel
theorem dX12_strike_127 : decode cX12_strike 127 = .ok (.iinc 1 1, 3) := by decide +kernel
theorem dX12_strike_130 : decode cX12_strike 130 = .ok (.goto (-104), 3) := by decide +kernel
theorem dX12_strike_133 : decode cX12_strike 133 = .ok (.return_, 1) := by decide +kernel
theorem dX12_strikeBy_0 : decode cX12_strikeBy 0 = .ok (.iconst 0, 1) := by decide +kernel
theorem dX12_strikeBy_1 : decode cX12_strikeBy 1 = .ok (.istore_n 2, 1) := by decide +kernel
theorem dX12_strikeBy_2 : decode cX12_strikeBy 2 = .ok (.iload_n 2, 1) := by decide +kernel
theorem dX12_strikeBy_3 : decode cX12_strikeBy 3 = .ok (.sipush 200, 3) := by decide +kernel
theorem dX12_strikeBy_6 : decode cX12_strikeBy 6 = .ok (.if_icmp .ge 16, 3) := by decide +kernel
theorem dX12_strikeBy_9 : decode cX12_strikeBy 9 = .ok (.aload_n 0, 1) := by decide +kernel
theorem dX12_strikeBy_10 : decode cX12_strikeBy 10 = .ok (.getfield 202, 3) := by decide +kernel
theorem dX12_strikeBy_13 : decode cX12_strikeBy 13 = .ok (.iload_n 2, 1) := by decide +kernel
theorem dX12_strikeBy_14 : decode cX12_strikeBy 14 = .ok (.iconst 0, 1) := by decide +kernel
theorem dX12_strikeBy_15 : decode cX12_strikeBy 15 = .ok (.iastore, 1) := by decide +kernel
theorem dX12_strikeBy_16 : decode cX12_strikeBy 16 = .ok (.iinc 2 1, 3) := by decide +kernel
theorem dX12_strikeBy_19 : decode cX12_strikeBy 19 = .ok (.goto (-17), 3) := by decide +kernel
theorem dX12_strikeBy_22 : decode cX12_strikeBy 22 = .ok (.iconst 0, 1) := by decide +kernel
theorem dX12_strikeBy_23 : decode cX12_strikeBy 23 = .ok (.istore_n 2, 1) := by decide +kernel
theorem dX12_strikeBy_24 : decode cX12_strikeBy 24 = .ok (.iload_n 2, 1) := by decide +kernel
theorem dX12_strikeBy_25 : decode cX12_strikeBy 25 = .ok (.sipush 360, 3) := by decide +kernel
theorem dX12_strikeBy_28 : decode cX12_strikeBy 28 = .ok (.if_icmp .ge 66, 3) := by decide +kernel
theorem dX12_strikeBy_31 : decode cX12_strikeBy 31 = .ok (.iconst 0, 1) := by decide +kernel
theorem dX12_strikeBy_32 : decode cX12_strikeBy 32 = .ok (.istore_n 3, 1) := by decide +kernel
theorem dX12_strikeBy_33 : decode cX12_strikeBy 33 = .ok (.iconst 0, 1) := by decide +kernel
theorem dX12_strikeBy_34 : decode cX12_strikeBy 34 = .ok (.istore 4, 2) := by decide +kernel
theorem dX12_strikeBy_36 : decode cX12_strikeBy 36 = .ok (.iload 4, 2) := by decide +kernel
theorem dX12_strikeBy_38 : decode cX12_strikeBy 38 = .ok (.sipush 196, 3) := by decide +kernel
theorem dX12_strikeBy_41 : decode cX12_strikeBy 41 = .ok (.if_icmp .ge 30, 3) := by decide +kernel
theorem dX12_strikeBy_44 : decode cX12_strikeBy 44 = .ok (.aload_n 0, 1) := by decide +kernel
theorem dX12_strikeBy_45 : decode cX12_strikeBy 45 = .ok (.getfield 206, 3) := by decide +kernel
theorem dX12_strikeBy_48 : decode cX12_strikeBy 48 = .ok (.sipush 196, 3) := by decide +kernel
theorem dX12_strikeBy_51 : decode cX12_strikeBy 51 = .ok (.iload_n 2, 1) := by decide +kernel
theorem dX12_strikeBy_52 : decode cX12_strikeBy 52 = .ok (.imul, 1) := by decide +kernel
theorem dX12_strikeBy_53 : decode cX12_strikeBy 53 = .ok (.iload 4, 2) := by decide +kernel
theorem dX12_strikeBy_55 : decode cX12_strikeBy 55 = .ok (.iadd, 1) := by decide +kernel
theorem dX12_strikeBy_56 : decode cX12_strikeBy 56 = .ok (.iaload, 1) := by decide +kernel
theorem dX12_strikeBy_57 : decode cX12_strikeBy 57 = .ok (.iload_n 1, 1) := by decide +kernel
theorem dX12_strikeBy_58 : decode cX12_strikeBy 58 = .ok (.iand, 1) := by decide +kernel
theorem dX12_strikeBy_59 : decode cX12_strikeBy 59 = .ok (.ifCond .eq 6, 3) := by decide +kernel
theorem dX12_strikeBy_62 : decode cX12_strikeBy 62 = .ok (.iinc 3 1, 3) := by decide +kernel
theorem dX12_strikeBy_65 : decode cX12_strikeBy 65 = .ok (.iinc 4 1, 3) := by decide +kernel
theorem dX12_strikeBy_68 : decode cX12_strikeBy 68 = .ok (.goto (-32), 3) := by decide +kernel
theorem dX12_strikeBy_71 : decode cX12_strikeBy 71 = .ok (.aload_n 0, 1) := by decide +kernel
theorem dX12_strikeBy_72 : decode cX12_strikeBy 72 = .ok (.getfield 199, 3) := by decide +kernel
theorem dX12_strikeBy_75 : decode cX12_strikeBy 75 = .ok (.iload_n 2, 1) := by decide +kernel
theorem dX12_strikeBy_76 : decode cX12_strikeBy 76 = .ok (.iload_n 3, 1) := by decide +kernel
theorem dX12_strikeBy_77 : decode cX12_strikeBy 77 = .ok (.iastore, 1) := by decide +kernel
theorem dX12_strikeBy_78 : decode cX12_strikeBy 78 = .ok (.aload_n 0, 1) := by decide +kernel
theorem dX12_strikeBy_79 : decode cX12_strikeBy 79 = .ok (.getfield 202, 3) := by decide +kernel
theorem dX12_strikeBy_82 : decode cX12_strikeBy 82 = .ok (.iload_n 3, 1) := by decide +kernel
theorem dX12_strikeBy_83 : decode cX12_strikeBy 83 = .ok (.dup2, 1) := by decide +kernel
theorem dX12_strikeBy_84 : decode cX12_strikeBy 84 = .ok (.iaload, 1) := by decide +kernel
theorem dX12_strikeBy_85 : decode cX12_strikeBy 85 = .ok (.iconst 1, 1) := by decide +kernel
theorem dX12_strikeBy_86 : decode cX12_strikeBy 86 = .ok (.iadd, 1) := by decide +kernel
theorem dX12_strikeBy_87 : decode cX12_strikeBy 87 = .ok (.iastore, 1) := by decide +kernel
theorem dX12_strikeBy_88 : decode cX12_strikeBy 88 = .ok (.iinc 2 1, 3) := by decide +kernel
theorem dX12_strikeBy_91 : decode cX12_strikeBy 91 = .ok (.goto (-67), 3) := by decide +kernel
theorem dX12_strikeBy_94 : decode cX12_strikeBy 94 = .ok (.sipush 198, 3) := by decide +kernel
theorem dX12_strikeBy_97 : decode cX12_strikeBy 97 = .ok (.istore_n 2, 1) := by decide +kernel
theorem dX12_strikeBy_98 : decode cX12_strikeBy 98 = .ok (.iload_n 2, 1) := by decide +kernel
theorem dX12_strikeBy_99 : decode cX12_strikeBy 99 = .ok (.ifCond .lt 26, 3) := by decide +kernel
theorem dX12_strikeBy_102 : decode cX12_strikeBy 102 = .ok (.aload_n 0, 1) := by decide +kernel
theorem dX12_strikeBy_103 : decode cX12_strikeBy 103 = .ok (.getfield 202, 3) := by decide +kernel
theorem dX12_strikeBy_106 : decode cX12_strikeBy 106 = .ok (.iload_n 2, 1) := by decide +kernel
theorem dX12_strikeBy_107 : decode cX12_strikeBy 107 = .ok (.dup2, 1) := by decide +kernel
theorem dX12_strikeBy_108 : decode cX12_strikeBy 108 = .ok (.iaload, 1) := by decide +kernel
theorem dX12_strikeBy_109 : decode cX12_strikeBy 109 = .ok (.aload_n 0, 1) := by decide +kernel
theorem dX12_strikeBy_110 : decode cX12_strikeBy 110 = .ok (.getfield 202, 3) := by decide +kernel
theorem dX12_strikeBy_113 : decode cX12_strikeBy 113 = .ok (.iload_n 2, 1) := by decide +kernel
theorem dX12_strikeBy_114 : decode cX12_strikeBy 114 = .ok (.iconst 1, 1) := by decide +kernel
theorem dX12_strikeBy_115 : decode cX12_strikeBy 115 = .ok (.iadd, 1) := by decide +kernel
theorem dX12_strikeBy_116 : decode cX12_strikeBy 116 = .ok (.iaload, 1) := by decide +kernel
theorem dX12_strikeBy_117 : decode cX12_strikeBy 117 = .ok (.iadd, 1) := by decide +kernel
theorem dX12_strikeBy_118 : decode cX12_strikeBy 118 = .ok (.iastore, 1) := by decide +kernel
theorem dX12_strikeBy_119 : decode cX12_strikeBy 119 = .ok (.iinc 2 (-1), 3) := by decide +kernel
theorem dX12_strikeBy_122 : decode cX12_strikeBy 122 = .ok (.goto (-24), 3) := by decide +kernel
theorem dX12_strikeBy_125 : decode cX12_strikeBy 125 = .ok (.iconst 0, 1) := by decide +kernel
theorem dX12_strikeBy_126 : decode cX12_strikeBy 126 = .ok (.istore_n 2, 1) := by decide +kernel
theorem dX12_strikeBy_127 : decode cX12_strikeBy 127 = .ok (.iload_n 2, 1) := by decide +kernel
theorem dX12_strikeBy_128 : decode cX12_strikeBy 128 = .ok (.sipush 360, 3) := by decide +kernel
theorem dX12_strikeBy_131 : decode cX12_strikeBy 131 = .ok (.if_icmp .ge 46, 3) := by decide +kernel
theorem dX12_strikeBy_134 : decode cX12_strikeBy 134 = .ok (.aload_n 0, 1) := by decide +kernel
theorem dX12_strikeBy_135 : decode cX12_strikeBy 135 = .ok (.getfield 202, 3) := by decide +kernel
theorem dX12_strikeBy_138 : decode cX12_strikeBy 138 = .ok (.aload_n 0, 1) := by decide +kernel
theorem dX12_strikeBy_139 : decode cX12_strikeBy 139 = .ok (.getfield 199, 3) := by decide +kernel
theorem dX12_strikeBy_142 : decode cX12_strikeBy 142 = .ok (.iload_n 2, 1) := by decide +kernel
theorem dX12_strikeBy_143 : decode cX12_strikeBy 143 = .ok (.iaload, 1) := by decide +kernel
theorem dX12_strikeBy_144 : decode cX12_strikeBy 144 = .ok (.iaload, 1) := by decide +kernel
theorem dX12_strikeBy_145 : decode cX12_strikeBy 145 = .ok (.aload_n 0, 1) := by decide +kernel
theorem dX12_strikeBy_146 : decode cX12_strikeBy 146 = .ok (.getfield 196, 3) := by decide +kernel
theorem dX12_strikeBy_149 : decode cX12_strikeBy 149 = .ok (.iload_n 2, 1) := by decide +kernel
theorem dX12_strikeBy_150 : decode cX12_strikeBy 150 = .ok (.iaload, 1) := by decide +kernel
theorem dX12_strikeBy_151 : decode cX12_strikeBy 151 = .ok (.if_icmp .ge 20, 3) := by decide +kernel
theorem dX12_strikeBy_154 : decode cX12_strikeBy 154 = .ok (.aload_n 0, 1) := by decide +kernel
theorem dX12_strikeBy_155 : decode cX12_strikeBy 155 = .ok (.getfield 196, 3) := by decide +kernel
theorem dX12_strikeBy_158 : decode cX12_strikeBy 158 = .ok (.iload_n 2, 1) := by decide +kernel
theorem dX12_strikeBy_159 : decode cX12_strikeBy 159 = .ok (.aload_n 0, 1) := by decide +kernel
theorem dX12_strikeBy_160 : decode cX12_strikeBy 160 = .ok (.getfield 202, 3) := by decide +kernel
theorem dX12_strikeBy_163 : decode cX12_strikeBy 163 = .ok (.aload_n 0, 1) := by decide +kernel
theorem dX12_strikeBy_164 : decode cX12_strikeBy 164 = .ok (.getfield 199, 3) := by decide +kernel
theorem dX12_strikeBy_167 : decode cX12_strikeBy 167 = .ok (.iload_n 2, 1) := by decide +kernel
theorem dX12_strikeBy_168 : decode cX12_strikeBy 168 = .ok (.iaload, 1) := by decide +kernel
theorem dX12_strikeBy_169 : decode cX12_strikeBy 169 = .ok (.iaload, 1) := by decide +kernel
theorem dX12_strikeBy_170 : decode cX12_strikeBy 170 = .ok (.iastore, 1) := by decide +kernel
theorem dX12_strikeBy_171 : decode cX12_strikeBy 171 = .ok (.iinc 2 1, 3) := by decide +kernel
theorem dX12_strikeBy_174 : decode cX12_strikeBy 174 = .ok (.goto (-47), 3) := by decide +kernel
theorem dX12_strikeBy_177 : decode cX12_strikeBy 177 = .ok (.return_, 1) := by decide +kernel
theorem dX12_striking_0 : decode cX12_striking 0 = .ok (.iload_n 1, 1) := by decide +kernel
theorem dX12_striking_1 : decode cX12_striking 1 = .ok (.invokestatic 472, 3) := by decide +kernel
theorem dX12_striking_4 : decode cX12_striking 4 = .ok (.ifCond .eq 22, 3) := by decide +kernel
theorem dX12_striking_7 : decode cX12_striking 7 = .ok (.iload_n 2, 1) := by decide +kernel
theorem dX12_striking_8 : decode cX12_striking 8 = .ok (.iconst 0, 1) := by decide +kernel
theorem dX12_striking_9 : decode cX12_striking 9 = .ok (.sipush 359, 3) := by decide +kernel
theorem dX12_striking_12 : decode cX12_striking 12 = .ok (.invokestatic 407, 3) := by decide +kernel
theorem dX12_striking_15 : decode cX12_striking 15 = .ok (.ifCond .eq 11, 3) := by decide +kernel
theorem dX12_striking_18 : decode cX12_striking 18 = .ok (.aload_n 0, 1) := by decide +kernel
theorem dX12_striking_19 : decode cX12_striking 19 = .ok (.iload_n 3, 1) := by decide +kernel
theorem dX12_striking_20 : decode cX12_striking 20 = .ok (.invokevirtual 457, 3) := by decide +kernel
theorem dX12_striking_23 : decode cX12_striking 23 = .ok (.ifCond .ne 5, 3) := by decide +kernel
theorem dX12_striking_26 : decode cX12_striking 26 = .ok (.iconst (-1), 1) := by decide +kernel
theorem dX12_striking_27 : decode cX12_striking 27 = .ok (.ireturn, 1) := by decide +kernel
theorem dX12_striking_28 : decode cX12_striking 28 = .ok (.aload_n 0, 1) := by decide +kernel
theorem dX12_striking_29 : decode cX12_striking 29 = .ok (.iload_n 1, 1) := by decide +kernel
theorem dX12_striking_30 : decode cX12_striking 30 = .ok (.iload_n 3, 1) := by decide +kernel
theorem dX12_striking_31 : decode cX12_striking 31 = .ok (.invokevirtual 494, 3) := by decide +kernel
theorem dX12_striking_34 : decode cX12_striking 34 = .ok (.aload_n 0, 1) := by decide +kernel
theorem dX12_striking_35 : decode cX12_striking 35 = .ok (.invokevirtual 506, 3) := by decide +kernel
theorem dX12_striking_38 : decode cX12_striking 38 = .ok (.aload_n 0, 1) := by decide +kernel
theorem dX12_striking_39 : decode cX12_striking 39 = .ok (.getfield 196, 3) := by decide +kernel
theorem dX12_striking_42 : decode cX12_striking 42 = .ok (.iload_n 2, 1) := by decide +kernel
theorem dX12_striking_43 : decode cX12_striking 43 = .ok (.iaload, 1) := by decide +kernel
theorem dX12_striking_44 : decode cX12_striking 44 = .ok (.ireturn, 1) := by decide +kernel
theorem dX12_price_0 : decode cX12_price 0 = .ok (.iload_n 1, 1) := by decide +kernel
theorem dX12_price_1 : decode cX12_price 1 = .ok (.invokestatic 472, 3) := by decide +kernel
theorem dX12_price_4 : decode cX12_price 4 = .ok (.ifCond .eq 11, 3) := by decide +kernel
theorem dX12_price_7 : decode cX12_price 7 = .ok (.aload_n 0, 1) := by decide +kernel
theorem dX12_price_8 : decode cX12_price 8 = .ok (.iload_n 2, 1) := by decide +kernel
theorem dX12_price_9 : decode cX12_price 9 = .ok (.invokevirtual 457, 3) := by decide +kernel
theorem dX12_price_12 : decode cX12_price 12 = .ok (.ifCond .ne 5, 3) := by decide +kernel
theorem dX12_price_15 : decode cX12_price 15 = .ok (.iconst (-1), 1) := by decide +kernel
theorem dX12_price_16 : decode cX12_price 16 = .ok (.ireturn, 1) := by decide +kernel
theorem dX12_price_17 : decode cX12_price 17 = .ok (.aload_n 0, 1) := by decide +kernel
theorem dX12_price_18 : decode cX12_price 18 = .ok (.iload_n 1, 1) := by decide +kernel
theorem dX12_price_19 : decode cX12_price 19 = .ok (.iload_n 2, 1) := by decide +kernel
theorem dX12_price_20 : decode cX12_price 20 = .ok (.invokevirtual 494, 3) := by decide +kernel
theorem dX12_price_23 : decode cX12_price 23 = .ok (.aload_n 0, 1) := by decide +kernel
theorem dX12_price_24 : decode cX12_price 24 = .ok (.invokevirtual 506, 3) := by decide +kernel
theorem dX12_price_27 : decode cX12_price 27 = .ok (.iconst 0, 1) := by decide +kernel
theorem dX12_price_28 : decode cX12_price 28 = .ok (.istore_n 3, 1) := by decide +kernel
theorem dX12_price_29 : decode cX12_price 29 = .ok (.iconst 0, 1) := by decide +kernel
theorem dX12_price_30 : decode cX12_price 30 = .ok (.istore 4, 2) := by decide +kernel
theorem dX12_price_32 : decode cX12_price 32 = .ok (.iload 4, 2) := by decide +kernel
theorem dX12_price_34 : decode cX12_price 34 = .ok (.sipush 360, 3) := by decide +kernel
theorem dX12_price_37 : decode cX12_price 37 = .ok (.if_icmp .ge 33, 3) := by decide +kernel
theorem dX12_price_40 : decode cX12_price 40 = .ok (.iload_n 3, 1) := by decide +kernel
theorem dX12_price_41 : decode cX12_price 41 = .ok (.aload_n 0, 1) := by decide +kernel
theorem dX12_price_42 : decode cX12_price 42 = .ok (.getfield 196, 3) := by decide +kernel
theorem dX12_price_45 : decode cX12_price 45 = .ok (.iload 4, 2) := by decide +kernel
theorem dX12_price_47 : decode cX12_price 47 = .ok (.iaload, 1) := by decide +kernel
theorem dX12_price_48 : decode cX12_price 48 = .ok (.aload_n 0, 1) := by decide +kernel
theorem dX12_price_49 : decode cX12_price 49 = .ok (.getfield 196, 3) := by decide +kernel
theorem dX12_price_52 : decode cX12_price 52 = .ok (.iconst 0, 1) := by decide +kernel
theorem dX12_price_53 : decode cX12_price 53 = .ok (.iaload, 1) := by decide +kernel
theorem dX12_price_54 : decode cX12_price 54 = .ok (.if_icmp .gt 7, 3) := by decide +kernel
theorem dX12_price_57 : decode cX12_price 57 = .ok (.iconst 1, 1) := by decide +kernel
theorem dX12_price_58 : decode cX12_price 58 = .ok (.goto 4, 3) := by decide +kernel
theorem dX12_price_61 : decode cX12_price 61 = .ok (.iconst 0, 1) := by decide +kernel
theorem dX12_price_62 : decode cX12_price 62 = .ok (.iadd, 1) := by decide +kernel
theorem dX12_price_63 : decode cX12_price 63 = .ok (.istore_n 3, 1) := by decide +kernel
theorem dX12_price_64 : decode cX12_price 64 = .ok (.iinc 4 1, 3) := by decide +kernel
theorem dX12_price_67 : decode cX12_price 67 = .ok (.goto (-35), 3) := by decide +kernel
theorem dX12_price_70 : decode cX12_price 70 = .ok (.iload_n 3, 1) := by decide +kernel
theorem dX12_price_71 : decode cX12_price 71 = .ok (.ireturn, 1) := by decide +kernel
theorem dX12_story_0 : decode cX12_story 0 = .ok (.iload_n 1, 1) := by decide +kernel
theorem dX12_story_1 : decode cX12_story 1 = .ok (.ifCond .lt 34, 3) := by decide +kernel
theorem dX12_story_4 : decode cX12_story 4 = .ok (.iload_n 1, 1) := by decide +kernel
theorem dX12_story_5 : decode cX12_story 5 = .ok (.aload_n 0, 1) := by decide +kernel
theorem dX12_story_6 : decode cX12_story 6 = .ok (.getfield 88, 3) := by decide +kernel
theorem dX12_story_9 : decode cX12_story 9 = .ok (.iconst 0, 1) := by decide +kernel
theorem dX12_story_10 : decode cX12_story 10 = .ok (.iaload, 1) := by decide +kernel
theorem dX12_story_11 : decode cX12_story 11 = .ok (.if_icmp .ge 24, 3) := by decide +kernel
theorem dX12_story_14 : decode cX12_story 14 = .ok (.aload_n 0, 1) := by decide +kernel
theorem dX12_story_15 : decode cX12_story 15 = .ok (.iload_n 2, 1) := by decide +kernel
theorem dX12_story_16 : decode cX12_story 16 = .ok (.iload_n 3, 1) := by decide +kernel
theorem dX12_story_17 : decode cX12_story 17 = .ok (.iload 4, 2) := by decide +kernel
theorem dX12_story_19 : decode cX12_story 19 = .ok (.invokevirtual 491, 3) := by decide +kernel
theorem dX12_story_22 : decode cX12_story 22 = .ok (.ifCond .eq 13, 3) := by decide +kernel
theorem dX12_story_25 : decode cX12_story 25 = .ok (.iload 5, 2) := by decide +kernel
theorem dX12_story_27 : decode cX12_story 27 = .ok (.iconst 0, 1) := by decide +kernel
theorem dX12_story_28 : decode cX12_story 28 = .ok (.iconst 2, 1) := by decide +kernel
theorem dX12_story_29 : decode cX12_story 29 = .ok (.invokestatic 407, 3) := by decide +kernel
theorem dX12_story_32 : decode cX12_story 32 = .ok (.ifCond .ne 5, 3) := by decide +kernel
theorem dX12_story_35 : decode cX12_story 35 = .ok (.iconst (-1), 1) := by decide +kernel
theorem dX12_story_36 : decode cX12_story 36 = .ok (.ireturn, 1) := by decide +kernel
theorem dX12_story_37 : decode cX12_story 37 = .ok (.aload_n 0, 1) := by decide +kernel
theorem dX12_story_38 : decode cX12_story 38 = .ok (.iload 4, 2) := by decide +kernel
theorem dX12_story_40 : decode cX12_story 40 = .ok (.invokevirtual 463, 3) := by decide +kernel
theorem dX12_story_43 : decode cX12_story 43 = .ok (.iconst 0, 1) := by decide +kernel
theorem dX12_story_44 : decode cX12_story 44 = .ok (.istore 6, 2) := by decide +kernel
theorem dX12_story_46 : decode cX12_story 46 = .ok (.iconst 0, 1) := by decide +kernel
theorem dX12_story_47 : decode cX12_story 47 = .ok (.istore 7, 2) := by decide +kernel
theorem dX12_story_49 : decode cX12_story 49 = .ok (.iload 7, 2) := by decide +kernel
theorem dX12_story_51 : decode cX12_story 51 = .ok (.sipush 196, 3) := by decide +kernel
theorem dX12_story_54 : decode cX12_story 54 = .ok (.if_icmp .ge 71, 3) := by decide +kernel
theorem dX12_story_57 : decode cX12_story 57 = .ok (.aload_n 0, 1) := by decide +kernel
theorem dX12_story_58 : decode cX12_story 58 = .ok (.getfield 169, 3) := by decide +kernel
theorem dX12_story_61 : decode cX12_story 61 = .ok (.iload 7, 2) := by decide +kernel
theorem dX12_story_63 : decode cX12_story 63 = .ok (.baload, 1) := by decide +kernel
theorem dX12_story_64 : decode cX12_story 64 = .ok (.ifCond .ne 6, 3) := by decide +kernel
theorem dX12_story_67 : decode cX12_story 67 = .ok (.goto 52, 3) := by decide +kernel
theorem dX12_story_70 : decode cX12_story 70 = .ok (.aload_n 0, 1) := by decide +kernel
theorem dX12_story_71 : decode cX12_story 71 = .ok (.iload 7, 2) := by decide +kernel
theorem dX12_story_73 : decode cX12_story 73 = .ok (.invokevirtual 435, 3) := by decide +kernel
theorem dX12_story_76 : decode cX12_story 76 = .ok (.aload_n 0, 1) := by decide +kernel
theorem dX12_story_77 : decode cX12_story 77 = .ok (.getfield 178, 3) := by decide +kernel
theorem dX12_story_80 : decode cX12_story 80 = .ok (.iload 7, 2) := by decide +kernel
theorem dX12_story_82 : decode cX12_story 82 = .ok (.aload_n 0, 1) := by decide +kernel
theorem dX12_story_83 : decode cX12_story 83 = .ok (.aload_n 0, 1) := by decide +kernel
theorem dX12_story_84 : decode cX12_story 84 = .ok (.getfield 91, 3) := by decide +kernel
theorem dX12_story_87 : decode cX12_story 87 = .ok (.iload_n 1, 1) := by decide +kernel
theorem dX12_story_88 : decode cX12_story 88 = .ok (.iaload, 1) := by decide +kernel
theorem dX12_story_89 : decode cX12_story 89 = .ok (.aload_n 0, 1) := by decide +kernel
theorem dX12_story_90 : decode cX12_story 90 = .ok (.getfield 94, 3) := by decide +kernel
theorem dX12_story_93 : decode cX12_story 93 = .ok (.iload_n 1, 1) := by decide +kernel
theorem dX12_story_94 : decode cX12_story 94 = .ok (.iaload, 1) := by decide +kernel
theorem dX12_story_95 : decode cX12_story 95 = .ok (.invokevirtual 438, 3) := by decide +kernel
theorem dX12_story_98 : decode cX12_story 98 = .ok (.bastore, 1) := by decide +kernel
theorem dX12_story_99 : decode cX12_story 99 = .ok (.iload 6, 2) := by decide +kernel
theorem dX12_story_101 : decode cX12_story 101 = .ok (.aload_n 0, 1) := by decide +kernel
theorem dX12_story_102 : decode cX12_story 102 = .ok (.getfield 178, 3) := by decide +kernel
theorem dX12_story_105 : decode cX12_story 105 = .ok (.iload 7, 2) := by decide +kernel
theorem dX12_story_107 : decode cX12_story 107 = .ok (.baload, 1) := by decide +kernel
theorem dX12_story_108 : decode cX12_story 108 = .ok (.ifCond .eq 7, 3) := by decide +kernel
theorem dX12_story_111 : decode cX12_story 111 = .ok (.iconst 1, 1) := by decide +kernel
theorem dX12_story_112 : decode cX12_story 112 = .ok (.goto 4, 3) := by decide +kernel
theorem dX12_story_115 : decode cX12_story 115 = .ok (.iconst 0, 1) := by decide +kernel
theorem dX12_story_116 : decode cX12_story 116 = .ok (.iadd, 1) := by decide +kernel
theorem dX12_story_117 : decode cX12_story 117 = .ok (.istore 6, 2) := by decide +kernel
theorem dX12_story_119 : decode cX12_story 119 = .ok (.iinc 7 1, 3) := by decide +kernel
theorem dX12_story_122 : decode cX12_story 122 = .ok (.goto (-73), 3) := by decide +kernel
theorem dX12_story_125 : decode cX12_story 125 = .ok (.aload_n 0, 1) := by decide +kernel
theorem dX12_story_126 : decode cX12_story 126 = .ok (.iload_n 3, 1) := by decide +kernel
theorem dX12_story_127 : decode cX12_story 127 = .ok (.invokevirtual 481, 3) := by decide +kernel
theorem dX12_story_130 : decode cX12_story 130 = .ok (.iload 5, 2) := by decide +kernel
theorem dX12_story_132 : decode cX12_story 132 = .ok (.ifCond .ne 8, 3) := by decide +kernel
theorem dX12_story_135 : decode cX12_story 135 = .ok (.iload 6, 2) := by decide +kernel
theorem dX12_story_137 : decode cX12_story 137 = .ok (.goto 24, 3) := by decide +kernel
theorem dX12_story_140 : decode cX12_story 140 = .ok (.iload 5, 2) := by decide +kernel
theorem dX12_story_142 : decode cX12_story 142 = .ok (.iconst 1, 1) := by decide +kernel
theorem dX12_story_143 : decode cX12_story 143 = .ok (.if_icmp .ne 13, 3) := by decide +kernel
theorem dX12_story_146 : decode cX12_story 146 = .ok (.aload_n 0, 1) := by decide +kernel
theorem dX12_story_147 : decode cX12_story 147 = .ok (.iload_n 2, 1) := by decide +kernel
theorem dX12_story_148 : decode cX12_story 148 = .ok (.iconst 0, 1) := by decide +kernel
theorem dX12_story_149 : decode cX12_story 149 = .ok (.iconst 0, 1) := by decide +kernel
theorem dX12_story_150 : decode cX12_story 150 = .ok (.invokevirtual 497, 3) := by decide +kernel
theorem dX12_story_153 : decode cX12_story 153 = .ok (.goto 8, 3) := by decide +kernel
theorem dX12_story_156 : decode cX12_story 156 = .ok (.aload_n 0, 1) := by decide +kernel
theorem dX12_story_157 : decode cX12_story 157 = .ok (.iload_n 2, 1) := by decide +kernel
theorem dX12_story_158 : decode cX12_story 158 = .ok (.invokevirtual 500, 3) := by decide +kernel
theorem dX12_story_161 : decode cX12_story 161 = .ok (.ireturn, 1) := by decide +kernel
theorem dX12_otherwise_0 : decode cX12_otherwise 0 = .ok (.aload_n 0, 1) := by decide +kernel
theorem dX12_otherwise_1 : decode cX12_otherwise 1 = .ok (.iload_n 1, 1) := by decide +kernel
theorem dX12_otherwise_2 : decode cX12_otherwise 2 = .ok (.iload_n 2, 1) := by decide +kernel
theorem dX12_otherwise_3 : decode cX12_otherwise 3 = .ok (.iload_n 3, 1) := by decide +kernel
theorem dX12_otherwise_4 : decode cX12_otherwise 4 = .ok (.invokevirtual 491, 3) := by decide +kernel
theorem dX12_otherwise_7 : decode cX12_otherwise 7 = .ok (.ifCond .eq 12, 3) := by decide +kernel
theorem dX12_otherwise_10 : decode cX12_otherwise 10 = .ok (.aload_n 0, 1) := by decide +kernel
theorem dX12_otherwise_11 : decode cX12_otherwise 11 = .ok (.iload 4, 2) := by decide +kernel
theorem dX12_otherwise_13 : decode cX12_otherwise 13 = .ok (.invokevirtual 457, 3) := by decide +kernel
theorem dX12_otherwise_16 : decode cX12_otherwise 16 = .ok (.ifCond .ne 5, 3) := by decide +kernel
theorem dX12_otherwise_19 : decode cX12_otherwise 19 = .ok (.iconst (-1), 1) := by decide +kernel
theorem dX12_otherwise_20 : decode cX12_otherwise 20 = .ok (.ireturn, 1) := by decide +kernel
theorem dX12_otherwise_21 : decode cX12_otherwise 21 = .ok (.aload_n 0, 1) := by decide +kernel
theorem dX12_otherwise_22 : decode cX12_otherwise 22 = .ok (.iload_n 2, 1) := by decide +kernel
theorem dX12_otherwise_23 : decode cX12_otherwise 23 = .ok (.iload_n 3, 1) := by decide +kernel
theorem dX12_otherwise_24 : decode cX12_otherwise 24 = .ok (.invokevirtual 494, 3) := by decide +kernel
theorem dX12_otherwise_27 : decode cX12_otherwise 27 = .ok (.iconst 0, 1) := by decide +kernel
theorem dX12_otherwise_28 : decode cX12_otherwise 28 = .ok (.istore 5, 2) := by decide +kernel
theorem dX12_otherwise_30 : decode cX12_otherwise 30 = .ok (.iload 5, 2) := by decide +kernel
theorem dX12_otherwise_32 : decode cX12_otherwise 32 = .ok (.sipush 196, 3) := by decide +kernel
theorem dX12_otherwise_35 : decode cX12_otherwise 35 = .ok (.if_icmp .ge 54, 3) := by decide +kernel
theorem dX12_otherwise_38 : decode cX12_otherwise 38 = .ok (.aload_n 0, 1) := by decide +kernel
theorem dX12_otherwise_39 : decode cX12_otherwise 39 = .ok (.getfield 209, 3) := by decide +kernel
theorem dX12_otherwise_42 : decode cX12_otherwise 42 = .ok (.iload 5, 2) := by decide +kernel
theorem dX12_otherwise_44 : decode cX12_otherwise 44 = .ok (.aload_n 0, 1) := by decide +kernel
theorem dX12_otherwise_45 : decode cX12_otherwise 45 = .ok (.getfield 178, 3) := by decide +kernel
theorem dX12_otherwise_48 : decode cX12_otherwise 48 = .ok (.iload 5, 2) := by decide +kernel
theorem dX12_otherwise_50 : decode cX12_otherwise 50 = .ok (.baload, 1) := by decide +kernel
theorem dX12_otherwise_51 : decode cX12_otherwise 51 = .ok (.ifCond .eq 30, 3) := by decide +kernel
theorem dX12_otherwise_54 : decode cX12_otherwise 54 = .ok (.aload_n 0, 1) := by decide +kernel
theorem dX12_otherwise_55 : decode cX12_otherwise 55 = .ok (.aload_n 0, 1) := by decide +kernel
theorem dX12_otherwise_56 : decode cX12_otherwise 56 = .ok (.getfield 172, 3) := by decide +kernel
theorem dX12_otherwise_59 : decode cX12_otherwise 59 = .ok (.iload 5, 2) := by decide +kernel
theorem dX12_otherwise_61 : decode cX12_otherwise 61 = .ok (.iaload, 1) := by decide +kernel
theorem dX12_otherwise_62 : decode cX12_otherwise 62 = .ok (.aload_n 0, 1) := by decide +kernel
theorem dX12_otherwise_63 : decode cX12_otherwise 63 = .ok (.getfield 34, 3) := by decide +kernel
theorem dX12_otherwise_66 : decode cX12_otherwise 66 = .ok (.iconst 0, 1) := by decide +kernel
theorem dX12_otherwise_67 : decode cX12_otherwise 67 = .ok (.iaload, 1) := by decide +kernel
theorem dX12_otherwise_68 : decode cX12_otherwise 68 = .ok (.iconst 0, 1) := by decide +kernel
theorem dX12_otherwise_69 : decode cX12_otherwise 69 = .ok (.invokevirtual 484, 3) := by decide +kernel
theorem dX12_otherwise_72 : decode cX12_otherwise 72 = .ok (.iload_n 1, 1) := by decide +kernel
theorem dX12_otherwise_73 : decode cX12_otherwise 73 = .ok (.iand, 1) := by decide +kernel
theorem dX12_otherwise_74 : decode cX12_otherwise 74 = .ok (.ifCond .eq 7, 3) := by decide +kernel
theorem dX12_otherwise_77 : decode cX12_otherwise 77 = .ok (.iconst 1, 1) := by decide +kernel
theorem dX12_otherwise_78 : decode cX12_otherwise 78 = .ok (.goto 4, 3) := by decide +kernel
theorem dX12_otherwise_81 : decode cX12_otherwise 81 = .ok (.iconst 0, 1) := by decide +kernel
theorem dX12_otherwise_82 : decode cX12_otherwise 82 = .ok (.bastore, 1) := by decide +kernel
theorem dX12_otherwise_83 : decode cX12_otherwise 83 = .ok (.iinc 5 1, 3) := by decide +kernel
theorem dX12_otherwise_86 : decode cX12_otherwise 86 = .ok (.goto (-56), 3) := by decide +kernel
theorem dX12_otherwise_89 : decode cX12_otherwise 89 = .ok (.aload_n 0, 1) := by decide +kernel
theorem dX12_otherwise_90 : decode cX12_otherwise 90 = .ok (.iload 4, 2) := by decide +kernel
theorem dX12_otherwise_92 : decode cX12_otherwise 92 = .ok (.invokevirtual 463, 3) := by decide +kernel
theorem dX12_otherwise_95 : decode cX12_otherwise 95 = .ok (.iconst 0, 1) := by decide +kernel
theorem dX12_otherwise_96 : decode cX12_otherwise 96 = .ok (.istore 5, 2) := by decide +kernel
theorem dX12_otherwise_98 : decode cX12_otherwise 98 = .ok (.iconst 0, 1) := by decide +kernel
theorem dX12_otherwise_99 : decode cX12_otherwise 99 = .ok (.istore 6, 2) := by decide +kernel
theorem dX12_otherwise_101 : decode cX12_otherwise 101 = .ok (.iload 6, 2) := by decide +kernel
theorem dX12_otherwise_103 : decode cX12_otherwise 103 = .ok (.sipush 196, 3) := by decide +kernel
theorem dX12_otherwise_106 : decode cX12_otherwise 106 = .ok (.if_icmp .ge 55, 3) := by decide +kernel
theorem dX12_otherwise_109 : decode cX12_otherwise 109 = .ok (.aload_n 0, 1) := by decide +kernel
theorem dX12_otherwise_110 : decode cX12_otherwise 110 = .ok (.getfield 209, 3) := by decide +kernel
theorem dX12_otherwise_113 : decode cX12_otherwise 113 = .ok (.iload 6, 2) := by decide +kernel
theorem dX12_otherwise_115 : decode cX12_otherwise 115 = .ok (.baload, 1) := by decide +kernel
theorem dX12_otherwise_116 : decode cX12_otherwise 116 = .ok (.ifCond .eq 39, 3) := by decide +kernel
theorem dX12_otherwise_119 : decode cX12_otherwise 119 = .ok (.aload_n 0, 1) := by decide +kernel
theorem dX12_otherwise_120 : decode cX12_otherwise 120 = .ok (.getfield 178, 3) := by decide +kernel
theorem dX12_otherwise_123 : decode cX12_otherwise 123 = .ok (.iload 6, 2) := by decide +kernel
theorem dX12_otherwise_125 : decode cX12_otherwise 125 = .ok (.baload, 1) := by decide +kernel
theorem dX12_otherwise_126 : decode cX12_otherwise 126 = .ok (.ifCond .eq 26, 3) := by decide +kernel
theorem dX12_otherwise_129 : decode cX12_otherwise 129 = .ok (.aload_n 0, 1) := by decide +kernel
theorem dX12_otherwise_130 : decode cX12_otherwise 130 = .ok (.aload_n 0, 1) := by decide +kernel
theorem dX12_otherwise_131 : decode cX12_otherwise 131 = .ok (.getfield 172, 3) := by decide +kernel
theorem dX12_otherwise_134 : decode cX12_otherwise 134 = .ok (.iload 6, 2) := by decide +kernel
theorem dX12_otherwise_136 : decode cX12_otherwise 136 = .ok (.iaload, 1) := by decide +kernel
theorem dX12_otherwise_137 : decode cX12_otherwise 137 = .ok (.aload_n 0, 1) := by decide +kernel
theorem dX12_otherwise_138 : decode cX12_otherwise 138 = .ok (.getfield 34, 3) := by decide +kernel
theorem dX12_otherwise_141 : decode cX12_otherwise 141 = .ok (.iconst 0, 1) := by decide +kernel
theorem dX12_otherwise_142 : decode cX12_otherwise 142 = .ok (.iaload, 1) := by decide +kernel
theorem dX12_otherwise_143 : decode cX12_otherwise 143 = .ok (.iconst 0, 1) := by decide +kernel
theorem dX12_otherwise_144 : decode cX12_otherwise 144 = .ok (.invokevirtual 484, 3) := by decide +kernel
theorem dX12_otherwise_147 : decode cX12_otherwise 147 = .ok (.iload_n 1, 1) := by decide +kernel
theorem dX12_otherwise_148 : decode cX12_otherwise 148 = .ok (.iand, 1) := by decide +kernel
theorem dX12_otherwise_149 : decode cX12_otherwise 149 = .ok (.ifCond .ne 6, 3) := by decide +kernel
theorem dX12_otherwise_152 : decode cX12_otherwise 152 = .ok (.iinc 5 1, 3) := by decide +kernel
theorem dX12_otherwise_155 : decode cX12_otherwise 155 = .ok (.iinc 6 1, 3) := by decide +kernel
theorem dX12_otherwise_158 : decode cX12_otherwise 158 = .ok (.goto (-57), 3) := by decide +kernel
theorem dX12_otherwise_161 : decode cX12_otherwise 161 = .ok (.iload 5, 2) := by decide +kernel
theorem dX12_otherwise_163 : decode cX12_otherwise 163 = .ok (.ireturn, 1) := by decide +kernel
theorem dX12_isSpan_0 : decode cX12_isSpan 0 = .ok (.aload_n 0, 1) := by decide +kernel
theorem dX12_isSpan_1 : decode cX12_isSpan 1 = .ok (.iload_n 1, 1) := by decide +kernel
theorem dX12_isSpan_2 : decode cX12_isSpan 2 = .ok (.iload_n 3, 1) := by decide +kernel
theorem dX12_isSpan_3 : decode cX12_isSpan 3 = .ok (.iload_n 2, 1) := by decide +kernel
theorem dX12_isSpan_4 : decode cX12_isSpan 4 = .ok (.invokevirtual 491, 3) := by decide +kernel
theorem dX12_isSpan_7 : decode cX12_isSpan 7 = .ok (.ifCond .eq 45, 3) := by decide +kernel
theorem dX12_isSpan_10 : decode cX12_isSpan 10 = .ok (.iload 4, 2) := by decide +kernel
theorem dX12_isSpan_12 : decode cX12_isSpan 12 = .ok (.iconst 1, 1) := by decide +kernel
theorem dX12_isSpan_13 : decode cX12_isSpan 13 = .ok (.bipush 100, 2) := by decide +kernel
theorem dX12_isSpan_15 : decode cX12_isSpan 15 = .ok (.invokestatic 407, 3) := by decide +kernel
theorem dX12_isSpan_18 : decode cX12_isSpan 18 = .ok (.ifCond .eq 34, 3) := by decide +kernel
theorem dX12_isSpan_21 : decode cX12_isSpan 21 = .ok (.iload 5, 2) := by decide +kernel
theorem dX12_isSpan_23 : decode cX12_isSpan 23 = .ok (.iconst 1, 1) := by decide +kernel
theorem dX12_isSpan_24 : decode cX12_isSpan 24 = .ok (.sipush 200, 3) := by decide +kernel
theorem dX12_isSpan_27 : decode cX12_isSpan 27 = .ok (.invokestatic 407, 3) := by decide +kernel
theorem dX12_isSpan_30 : decode cX12_isSpan 30 = .ok (.ifCond .eq 22, 3) := by decide +kernel
theorem dX12_isSpan_33 : decode cX12_isSpan 33 = .ok (.iload_n 3, 1) := by decide +kernel
theorem dX12_isSpan_34 : decode cX12_isSpan 34 = .ok (.iload 4, 2) := by decide +kernel
theorem dX12_isSpan_36 : decode cX12_isSpan 36 = .ok (.iload 5, 2) := by decide +kernel
theorem dX12_isSpan_38 : decode cX12_isSpan 38 = .ok (.iconst 1, 1) := by decide +kernel
theorem dX12_isSpan_39 : decode cX12_isSpan 39 = .ok (.isub, 1) := by decide +kernel
theorem dX12_isSpan_40 : decode cX12_isSpan 40 = .ok (.imul, 1) := by decide +kernel
theorem dX12_isSpan_41 : decode cX12_isSpan 41 = .ok (.iadd, 1) := by decide +kernel
theorem dX12_isSpan_42 : decode cX12_isSpan 42 = .ok (.sipush 5000, 3) := by decide +kernel
theorem dX12_isSpan_45 : decode cX12_isSpan 45 = .ok (.if_icmp .gt 7, 3) := by decide +kernel
theorem dX12_isSpan_48 : decode cX12_isSpan 48 = .ok (.iconst 1, 1) := by decide +kernel
theorem dX12_isSpan_49 : decode cX12_isSpan 49 = .ok (.goto 4, 3) := by decide +kernel
theorem dX12_isSpan_52 : decode cX12_isSpan 52 = .ok (.iconst 0, 1) := by decide +kernel
theorem dX12_isSpan_53 : decode cX12_isSpan 53 = .ok (.ireturn, 1) := by decide +kernel
theorem dX12_free_0 : decode cX12_free 0 = .ok (.aload_n 0, 1) := by decide +kernel
theorem dX12_free_1 : decode cX12_free 1 = .ok (.iload_n 1, 1) := by decide +kernel
theorem dX12_free_2 : decode cX12_free 2 = .ok (.iload_n 2, 1) := by decide +kernel
theorem dX12_free_3 : decode cX12_free 3 = .ok (.iload_n 3, 1) := by decide +kernel
theorem dX12_free_4 : decode cX12_free 4 = .ok (.iload 4, 2) := by decide +kernel
theorem dX12_free_6 : decode cX12_free 6 = .ok (.iload 5, 2) := by decide +kernel
theorem dX12_free_8 : decode cX12_free 8 = .ok (.invokevirtual 509, 3) := by decide +kernel
theorem dX12_free_11 : decode cX12_free 11 = .ok (.ifCond .ne 5, 3) := by decide +kernel
theorem dX12_free_14 : decode cX12_free 14 = .ok (.iconst (-1), 1) := by decide +kernel
theorem dX12_free_15 : decode cX12_free 15 = .ok (.ireturn, 1) := by decide +kernel
theorem dX12_free_16 : decode cX12_free 16 = .ok (.aload_n 0, 1) := by decide +kernel
theorem dX12_free_17 : decode cX12_free 17 = .ok (.iload_n 2, 1) := by decide +kernel
theorem dX12_free_18 : decode cX12_free 18 = .ok (.invokevirtual 463, 3) := by decide +kernel
theorem dX12_free_21 : decode cX12_free 21 = .ok (.iconst (-1), 1) := by decide +kernel
theorem dX12_free_22 : decode cX12_free 22 = .ok (.istore 6, 2) := by decide +kernel
theorem dX12_free_24 : decode cX12_free 24 = .ok (.iconst (-1), 1) := by decide +kernel
theorem dX12_free_25 : decode cX12_free 25 = .ok (.istore 7, 2) := by decide +kernel
theorem dX12_free_27 : decode cX12_free 27 = .ok (.iconst 0, 1) := by decide +kernel
theorem dX12_free_28 : decode cX12_free 28 = .ok (.istore 8, 2) := by decide +kernel
theorem dX12_free_30 : decode cX12_free 30 = .ok (.iload 8, 2) := by decide +kernel
theorem dX12_free_32 : decode cX12_free 32 = .ok (.iload 5, 2) := by decide +kernel
theorem dX12_free_34 : decode cX12_free 34 = .ok (.if_icmp .ge 52, 3) := by decide +kernel
theorem dX12_free_37 : decode cX12_free 37 = .ok (.aload_n 0, 1) := by decide +kernel
theorem dX12_free_38 : decode cX12_free 38 = .ok (.iload_n 3, 1) := by decide +kernel
theorem dX12_free_39 : decode cX12_free 39 = .ok (.iload 4, 2) := by decide +kernel
theorem dX12_free_41 : decode cX12_free 41 = .ok (.iload 8, 2) := by decide +kernel
theorem dX12_free_43 : decode cX12_free 43 = .ok (.imul, 1) := by decide +kernel
theorem dX12_free_44 : decode cX12_free 44 = .ok (.iadd, 1) := by decide +kernel
theorem dX12_free_45 : decode cX12_free 45 = .ok (.invokevirtual 481, 3) := by decide +kernel
theorem dX12_free_48 : decode cX12_free 48 = .ok (.aload_n 0, 1) := by decide +kernel
theorem dX12_free_49 : decode cX12_free 49 = .ok (.iload_n 1, 1) := by decide +kernel
theorem dX12_free_50 : decode cX12_free 50 = .ok (.iconst 0, 1) := by decide +kernel
theorem dX12_free_51 : decode cX12_free 51 = .ok (.iconst 0, 1) := by decide +kernel
theorem dX12_free_52 : decode cX12_free 52 = .ok (.invokevirtual 497, 3) := by decide +kernel
theorem dX12_free_55 : decode cX12_free 55 = .ok (.istore 9, 2) := by decide +kernel
theorem dX12_free_57 : decode cX12_free 57 = .ok (.iload 9, 2) := by decide +kernel
theorem dX12_free_59 : decode cX12_free 59 = .ok (.iload 6, 2) := by decide +kernel
theorem dX12_free_61 : decode cX12_free 61 = .ok (.if_icmp .gt 6, 3) := by decide +kernel
theorem dX12_free_64 : decode cX12_free 64 = .ok (.goto 16, 3) := by decide +kernel
theorem dX12_free_67 : decode cX12_free 67 = .ok (.iload 9, 2) := by decide +kernel
theorem dX12_free_69 : decode cX12_free 69 = .ok (.istore 6, 2) := by decide +kernel
theorem dX12_free_71 : decode cX12_free 71 = .ok (.iload_n 3, 1) := by decide +kernel
theorem dX12_free_72 : decode cX12_free 72 = .ok (.iload 4, 2) := by decide +kernel
theorem dX12_free_74 : decode cX12_free 74 = .ok (.iload 8, 2) := by decide +kernel
theorem dX12_free_76 : decode cX12_free 76 = .ok (.imul, 1) := by decide +kernel
theorem dX12_free_77 : decode cX12_free 77 = .ok (.iadd, 1) := by decide +kernel
theorem dX12_free_78 : decode cX12_free 78 = .ok (.istore 7, 2) := by decide +kernel
theorem dX12_free_80 : decode cX12_free 80 = .ok (.iinc 8 1, 3) := by decide +kernel
theorem dX12_free_83 : decode cX12_free 83 = .ok (.goto (-53), 3) := by decide +kernel
theorem dX12_free_86 : decode cX12_free 86 = .ok (.iload 7, 2) := by decide +kernel
theorem dX12_free_88 : decode cX12_free 88 = .ok (.ireturn, 1) := by decide +kernel
theorem dX12_freer_0 : decode cX12_freer 0 = .ok (.aload_n 0, 1) := by decide +kernel
theorem dX12_freer_1 : decode cX12_freer 1 = .ok (.iload_n 1, 1) := by decide +kernel
theorem dX12_freer_2 : decode cX12_freer 2 = .ok (.iload_n 2, 1) := by decide +kernel
theorem dX12_freer_3 : decode cX12_freer 3 = .ok (.iload_n 3, 1) := by decide +kernel
theorem dX12_freer_4 : decode cX12_freer 4 = .ok (.iload 4, 2) := by decide +kernel
theorem dX12_freer_6 : decode cX12_freer 6 = .ok (.iload 5, 2) := by decide +kernel
theorem dX12_freer_8 : decode cX12_freer 8 = .ok (.invokevirtual 509, 3) := by decide +kernel
theorem dX12_freer_11 : decode cX12_freer 11 = .ok (.ifCond .eq 11, 3) := by decide +kernel
theorem dX12_freer_14 : decode cX12_freer 14 = .ok (.iload 6, 2) := by decide +kernel
theorem dX12_freer_16 : decode cX12_freer 16 = .ok (.invokestatic 472, 3) := by decide +kernel
theorem dX12_freer_19 : decode cX12_freer 19 = .ok (.ifCond .ne 5, 3) := by decide +kernel
theorem dX12_freer_22 : decode cX12_freer 22 = .ok (.iconst (-1), 1) := by decide +kernel
theorem dX12_freer_23 : decode cX12_freer 23 = .ok (.ireturn, 1) := by decide +kernel
theorem dX12_freer_24 : decode cX12_freer 24 = .ok (.aload_n 0, 1) := by decide +kernel
theorem dX12_freer_25 : decode cX12_freer 25 = .ok (.iload 6, 2) := by decide +kernel
theorem dX12_freer_27 : decode cX12_freer 27 = .ok (.iload_n 2, 1) := by decide +kernel
theorem dX12_freer_28 : decode cX12_freer 28 = .ok (.invokevirtual 494, 3) := by decide +kernel
theorem dX12_freer_31 : decode cX12_freer 31 = .ok (.aload_n 0, 1) := by decide +kernel
theorem dX12_freer_32 : decode cX12_freer 32 = .ok (.iload_n 1, 1) := by decide +kernel
theorem dX12_freer_33 : decode cX12_freer 33 = .ok (.iconst 0, 1) := by decide +kernel
theorem dX12_freer_34 : decode cX12_freer 34 = .ok (.iconst 0, 1) := by decide +kernel
theorem dX12_freer_35 : decode cX12_freer 35 = .ok (.invokevirtual 497, 3) := by decide +kernel
theorem dX12_freer_38 : decode cX12_freer 38 = .ok (.istore 7, 2) := by decide +kernel
theorem dX12_freer_40 : decode cX12_freer 40 = .ok (.iconst 0, 1) := by decide +kernel
theorem dX12_freer_41 : decode cX12_freer 41 = .ok (.istore 8, 2) := by decide +kernel
theorem dX12_freer_43 : decode cX12_freer 43 = .ok (.iconst 0, 1) := by decide +kernel
theorem dX12_freer_44 : decode cX12_freer 44 = .ok (.istore 9, 2) := by decide +kernel
theorem dX12_freer_46 : decode cX12_freer 46 = .ok (.iload 9, 2) := by decide +kernel
theorem dX12_freer_48 : decode cX12_freer 48 = .ok (.iload 5, 2) := by decide +kernel
theorem dX12_freer_50 : decode cX12_freer 50 = .ok (.if_icmp .ge 42, 3) := by decide +kernel
theorem dX12_freer_53 : decode cX12_freer 53 = .ok (.aload_n 0, 1) := by decide +kernel
theorem dX12_freer_54 : decode cX12_freer 54 = .ok (.iload_n 3, 1) := by decide +kernel
theorem dX12_freer_55 : decode cX12_freer 55 = .ok (.iload 4, 2) := by decide +kernel
theorem dX12_freer_57 : decode cX12_freer 57 = .ok (.iload 9, 2) := by decide +kernel
theorem dX12_freer_59 : decode cX12_freer 59 = .ok (.imul, 1) := by decide +kernel
theorem dX12_freer_60 : decode cX12_freer 60 = .ok (.iadd, 1) := by decide +kernel
theorem dX12_freer_61 : decode cX12_freer 61 = .ok (.invokevirtual 481, 3) := by decide +kernel
theorem dX12_freer_64 : decode cX12_freer 64 = .ok (.iload 8, 2) := by decide +kernel
theorem dX12_freer_66 : decode cX12_freer 66 = .ok (.aload_n 0, 1) := by decide +kernel
theorem dX12_freer_67 : decode cX12_freer 67 = .ok (.iload_n 1, 1) := by decide +kernel
theorem dX12_freer_68 : decode cX12_freer 68 = .ok (.iconst 0, 1) := by decide +kernel
theorem dX12_freer_69 : decode cX12_freer 69 = .ok (.iconst 0, 1) := by decide +kernel
theorem dX12_freer_70 : decode cX12_freer 70 = .ok (.invokevirtual 497, 3) := by decide +kernel
theorem dX12_freer_73 : decode cX12_freer 73 = .ok (.iload 7, 2) := by decide +kernel
theorem dX12_freer_75 : decode cX12_freer 75 = .ok (.if_icmp .lt 7, 3) := by decide +kernel
theorem dX12_freer_78 : decode cX12_freer 78 = .ok (.iconst 1, 1) := by decide +kernel
theorem dX12_freer_79 : decode cX12_freer 79 = .ok (.goto 4, 3) := by decide +kernel
theorem dX12_freer_82 : decode cX12_freer 82 = .ok (.iconst 0, 1) := by decide +kernel
theorem dX12_freer_83 : decode cX12_freer 83 = .ok (.iadd, 1) := by decide +kernel
theorem dX12_freer_84 : decode cX12_freer 84 = .ok (.istore 8, 2) := by decide +kernel
theorem dX12_freer_86 : decode cX12_freer 86 = .ok (.iinc 9 1, 3) := by decide +kernel
theorem dX12_freer_89 : decode cX12_freer 89 = .ok (.goto (-43), 3) := by decide +kernel
theorem dX12_freer_92 : decode cX12_freer 92 = .ok (.iload 8, 2) := by decide +kernel
theorem dX12_freer_94 : decode cX12_freer 94 = .ok (.ireturn, 1) := by decide +kernel
theorem dX12_next_0 : decode cX12_next 0 = .ok (.aload_n 0, 1) := by decide +kernel
theorem dX12_next_1 : decode cX12_next 1 = .ok (.iload_n 1, 1) := by decide +kernel
theorem dX12_next_2 : decode cX12_next 2 = .ok (.iload_n 2, 1) := by decide +kernel
theorem dX12_next_3 : decode cX12_next 3 = .ok (.iload_n 3, 1) := by decide +kernel
theorem dX12_next_4 : decode cX12_next 4 = .ok (.invokevirtual 491, 3) := by decide +kernel
theorem dX12_next_7 : decode cX12_next 7 = .ok (.ifCond .ne 5, 3) := by decide +kernel
theorem dX12_next_10 : decode cX12_next 10 = .ok (.iconst (-1), 1) := by decide +kernel
theorem dX12_next_11 : decode cX12_next 11 = .ok (.ireturn, 1) := by decide +kernel
theorem dX12_next_12 : decode cX12_next 12 = .ok (.aload_n 0, 1) := by decide +kernel
theorem dX12_next_13 : decode cX12_next 13 = .ok (.iload_n 2, 1) := by decide +kernel
theorem dX12_next_14 : decode cX12_next 14 = .ok (.iload_n 3, 1) := by decide +kernel
theorem dX12_next_15 : decode cX12_next 15 = .ok (.invokevirtual 494, 3) := by decide +kernel
theorem dX12_next_18 : decode cX12_next 18 = .ok (.bipush (-2), 2) := by decide +kernel
theorem dX12_next_20 : decode cX12_next 20 = .ok (.istore 4, 2) := by decide +kernel
theorem dX12_next_22 : decode cX12_next 22 = .ok (.iconst 0, 1) := by decide +kernel
theorem dX12_next_23 : decode cX12_next 23 = .ok (.istore 5, 2) := by decide +kernel
theorem dX12_next_25 : decode cX12_next 25 = .ok (.iconst 0, 1) := by decide +kernel
theorem dX12_next_26 : decode cX12_next 26 = .ok (.istore 6, 2) := by decide +kernel
theorem dX12_next_28 : decode cX12_next 28 = .ok (.iload 6, 2) := by decide +kernel
theorem dX12_next_30 : decode cX12_next 30 = .ok (.aload_n 0, 1) := by decide +kernel
theorem dX12_next_31 : decode cX12_next 31 = .ok (.getfield 37, 3) := by decide +kernel
theorem dX12_next_34 : decode cX12_next 34 = .ok (.iconst 0, 1) := by decide +kernel
theorem dX12_next_35 : decode cX12_next 35 = .ok (.iaload, 1) := by decide +kernel
theorem dX12_next_36 : decode cX12_next 36 = .ok (.if_icmp .ge 121, 3) := by decide +kernel
theorem dX12_next_39 : decode cX12_next 39 = .ok (.aload_n 0, 1) := by decide +kernel
theorem dX12_next_40 : decode cX12_next 40 = .ok (.getfield 166, 3) := by decide +kernel
theorem dX12_next_43 : decode cX12_next 43 = .ok (.iload 6, 2) := by decide +kernel
theorem dX12_next_45 : decode cX12_next 45 = .ok (.baload, 1) := by decide +kernel
theorem dX12_next_46 : decode cX12_next 46 = .ok (.ifCond .eq 6, 3) := by decide +kernel
theorem dX12_next_49 : decode cX12_next 49 = .ok (.goto 102, 3) := by decide +kernel
theorem dX12_next_52 : decode cX12_next 52 = .ok (.iconst 0, 1) := by decide +kernel
theorem dX12_next_53 : decode cX12_next 53 = .ok (.istore 7, 2) := by decide +kernel
theorem dX12_next_55 : decode cX12_next 55 = .ok (.iconst 0, 1) := by decide +kernel
theorem dX12_next_56 : decode cX12_next 56 = .ok (.istore 8, 2) := by decide +kernel
theorem dX12_next_58 : decode cX12_next 58 = .ok (.iload 8, 2) := by decide +kernel
theorem dX12_next_60 : decode cX12_next 60 = .ok (.sipush 196, 3) := by decide +kernel
theorem dX12_next_63 : decode cX12_next 63 = .ok (.if_icmp .ge 65, 3) := by decide +kernel
theorem dX12_next_66 : decode cX12_next 66 = .ok (.iload 8, 2) := by decide +kernel
theorem dX12_next_68 : decode cX12_next 68 = .ok (.bipush 14, 2) := by decide +kernel
theorem dX12_next_70 : decode cX12_next 70 = .ok (.idiv, 1) := by decide +kernel
theorem dX12_next_71 : decode cX12_next 71 = .ok (.iload 6, 2) := by decide +kernel
theorem dX12_next_73 : decode cX12_next 73 = .ok (.if_icmp .eq 13, 3) := by decide +kernel
theorem dX12_next_76 : decode cX12_next 76 = .ok (.iload 8, 2) := by decide +kernel
theorem dX12_next_78 : decode cX12_next 78 = .ok (.bipush 14, 2) := by decide +kernel
theorem dX12_next_80 : decode cX12_next 80 = .ok (.irem, 1) := by decide +kernel
theorem dX12_next_81 : decode cX12_next 81 = .ok (.iload 6, 2) := by decide +kernel
theorem dX12_next_83 : decode cX12_next 83 = .ok (.if_icmp .ne 39, 3) := by decide +kernel
theorem dX12_next_86 : decode cX12_next 86 = .ok (.aload_n 0, 1) := by decide +kernel
theorem dX12_next_87 : decode cX12_next 87 = .ok (.getfield 178, 3) := by decide +kernel
theorem dX12_next_90 : decode cX12_next 90 = .ok (.iload 8, 2) := by decide +kernel
theorem dX12_next_92 : decode cX12_next 92 = .ok (.baload, 1) := by decide +kernel
theorem dX12_next_93 : decode cX12_next 93 = .ok (.ifCond .eq 29, 3) := by decide +kernel
theorem dX12_next_96 : decode cX12_next 96 = .ok (.aload_n 0, 1) := by decide +kernel
theorem dX12_next_97 : decode cX12_next 97 = .ok (.aload_n 0, 1) := by decide +kernel
theorem dX12_next_98 : decode cX12_next 98 = .ok (.getfield 172, 3) := by decide +kernel
theorem dX12_next_101 : decode cX12_next 101 = .ok (.iload 8, 2) := by decide +kernel
theorem dX12_next_103 : decode cX12_next 103 = .ok (.iaload, 1) := by decide +kernel
theorem dX12_next_104 : decode cX12_next 104 = .ok (.aload_n 0, 1) := by decide +kernel
theorem dX12_next_105 : decode cX12_next 105 = .ok (.getfield 34, 3) := by decide +kernel
theorem dX12_next_108 : decode cX12_next 108 = .ok (.iconst 0, 1) := by decide +kernel
theorem dX12_next_109 : decode cX12_next 109 = .ok (.iaload, 1) := by decide +kernel
theorem dX12_next_110 : decode cX12_next 110 = .ok (.iconst 0, 1) := by decide +kernel
theorem dX12_next_111 : decode cX12_next 111 = .ok (.invokevirtual 484, 3) := by decide +kernel
theorem dX12_next_114 : decode cX12_next 114 = .ok (.iload_n 1, 1) := by decide +kernel
theorem dX12_next_115 : decode cX12_next 115 = .ok (.iand, 1) := by decide +kernel
theorem dX12_next_116 : decode cX12_next 116 = .ok (.ifCond .eq 6, 3) := by decide +kernel
theorem dX12_next_119 : decode cX12_next 119 = .ok (.iinc 7 1, 3) := by decide +kernel
theorem dX12_next_122 : decode cX12_next 122 = .ok (.iinc 8 1, 3) := by decide +kernel
theorem dX12_next_125 : decode cX12_next 125 = .ok (.goto (-67), 3) := by decide +kernel
theorem dX12_next_128 : decode cX12_next 128 = .ok (.iload 4, 2) := by decide +kernel
theorem dX12_next_130 : decode cX12_next 130 = .ok (.ifCond .lt 13, 3) := by decide +kernel
theorem dX12_next_133 : decode cX12_next 133 = .ok (.iload 7, 2) := by decide +kernel
theorem dX12_next_135 : decode cX12_next 135 = .ok (.iload 5, 2) := by decide +kernel
theorem dX12_next_137 : decode cX12_next 137 = .ok (.if_icmp .gt 6, 3) := by decide +kernel
theorem dX12_next_140 : decode cX12_next 140 = .ok (.goto 11, 3) := by decide +kernel
theorem dX12_next_143 : decode cX12_next 143 = .ok (.iload 6, 2) := by decide +kernel
theorem dX12_next_145 : decode cX12_next 145 = .ok (.istore 4, 2) := by decide +kernel
theorem dX12_next_147 : decode cX12_next 147 = .ok (.iload 7, 2) := by decide +kernel
theorem dX12_next_149 : decode cX12_next 149 = .ok (.istore 5, 2) := by decide +kernel
theorem dX12_next_151 : decode cX12_next 151 = .ok (.iinc 6 1, 3) := by decide +kernel
theorem dX12_next_154 : decode cX12_next 154 = .ok (.goto (-126), 3) := by decide +kernel
theorem dX12_next_157 : decode cX12_next 157 = .ok (.iload 4, 2) := by decide +kernel
theorem dX12_next_159 : decode cX12_next 159 = .ok (.ireturn, 1) := by decide +kernel
theorem dX12_site_0 : decode cX12_site 0 = .ok (.aload_n 0, 1) := by decide +kernel
theorem dX12_site_1 : decode cX12_site 1 = .ok (.getfield 513, 3) := by decide +kernel
theorem dX12_site_4 : decode cX12_site 4 = .ok (.bipush 6, 2) := by decide +kernel
theorem dX12_site_6 : decode cX12_site 6 = .ok (.if_icmp .eq 25, 3) := by decide +kernel
theorem dX12_site_9 : decode cX12_site 9 = .ok (.iload_n 1, 1) := by decide +kernel
theorem dX12_site_10 : decode cX12_site 10 = .ok (.iconst 0, 1) := by decide +kernel
theorem dX12_site_11 : decode cX12_site 11 = .ok (.sipush 359, 3) := by decide +kernel
theorem dX12_site_14 : decode cX12_site 14 = .ok (.invokestatic 407, 3) := by decide +kernel
theorem dX12_site_17 : decode cX12_site 17 = .ok (.ifCond .eq 14, 3) := by decide +kernel
theorem dX12_site_20 : decode cX12_site 20 = .ok (.iload_n 2, 1) := by decide +kernel
theorem dX12_site_21 : decode cX12_site 21 = .ok (.iconst 0, 1) := by decide +kernel
theorem dX12_site_22 : decode cX12_site 22 = .ok (.sipush 359, 3) := by decide +kernel
theorem dX12_site_25 : decode cX12_site 25 = .ok (.invokestatic 407, 3) := by decide +kernel
theorem dX12_site_28 : decode cX12_site 28 = .ok (.ifCond .ne 5, 3) := by decide +kernel
theorem dX12_site_31 : decode cX12_site 31 = .ok (.iconst (-1), 1) := by decide +kernel
theorem dX12_site_32 : decode cX12_site 32 = .ok (.ireturn, 1) := by decide +kernel
theorem dX12_site_33 : decode cX12_site 33 = .ok (.aload_n 0, 1) := by decide +kernel
theorem dX12_site_34 : decode cX12_site 34 = .ok (.getfield 148, 3) := by decide +kernel
theorem dX12_site_37 : decode cX12_site 37 = .ok (.aload_n 0, 1) := by decide +kernel
theorem dX12_site_38 : decode cX12_site 38 = .ok (.getfield 513, 3) := by decide +kernel
theorem dX12_site_41 : decode cX12_site 41 = .ok (.iload_n 1, 1) := by decide +kernel
theorem dX12_site_42 : decode cX12_site 42 = .ok (.iastore, 1) := by decide +kernel
theorem dX12_site_43 : decode cX12_site 43 = .ok (.aload_n 0, 1) := by decide +kernel
theorem dX12_site_44 : decode cX12_site 44 = .ok (.getfield 151, 3) := by decide +kernel
theorem dX12_site_47 : decode cX12_site 47 = .ok (.aload_n 0, 1) := by decide +kernel
theorem dX12_site_48 : decode cX12_site 48 = .ok (.getfield 513, 3) := by decide +kernel
theorem dX12_site_51 : decode cX12_site 51 = .ok (.iload_n 2, 1) := by decide +kernel
theorem dX12_site_52 : decode cX12_site 52 = .ok (.iastore, 1) := by decide +kernel
theorem dX12_site_53 : decode cX12_site 53 = .ok (.aload_n 0, 1) := by decide +kernel
theorem dX12_site_54 : decode cX12_site 54 = .ok (.dup, 1) := by decide +kernel
theorem dX12_site_55 : decode cX12_site 55 = .ok (.getfield 513, 3) := by decide +kernel
theorem dX12_site_58 : decode cX12_site 58 = .ok (.iconst 1, 1) := by decide +kernel
theorem dX12_site_59 : decode cX12_site 59 = .ok (.iadd, 1) := by decide +kernel
theorem dX12_site_60 : decode cX12_site 60 = .ok (.putfield 513, 3) := by decide +kernel
theorem dX12_site_63 : decode cX12_site 63 = .ok (.aload_n 0, 1) := by decide +kernel
theorem dX12_site_64 : decode cX12_site 64 = .ok (.getfield 513, 3) := by decide +kernel
theorem dX12_site_67 : decode cX12_site 67 = .ok (.iconst 1, 1) := by decide +kernel
theorem dX12_site_68 : decode cX12_site 68 = .ok (.isub, 1) := by decide +kernel
theorem dX12_site_69 : decode cX12_site 69 = .ok (.ireturn, 1) := by decide +kernel
theorem dX12_clear_0 : decode cX12_clear 0 = .ok (.aload_n 0, 1) := by decide +kernel
theorem dX12_clear_1 : decode cX12_clear 1 = .ok (.getfield 513, 3) := by decide +kernel
theorem dX12_clear_4 : decode cX12_clear 4 = .ok (.istore_n 1, 1) := by decide +kernel
theorem dX12_clear_5 : decode cX12_clear 5 = .ok (.aload_n 0, 1) := by decide +kernel
theorem dX12_clear_6 : decode cX12_clear 6 = .ok (.iconst 0, 1) := by decide +kernel
theorem dX12_clear_7 : decode cX12_clear 7 = .ok (.putfield 513, 3) := by decide +kernel
theorem dX12_clear_10 : decode cX12_clear 10 = .ok (.iload_n 1, 1) := by decide +kernel
theorem dX12_clear_11 : decode cX12_clear 11 = .ok (.ireturn, 1) := by decide +kernel
theorem dX12_pointed_0 : decode cX12_pointed 0 = .ok (.iconst 0, 1) := by decide +kernel
theorem dX12_pointed_1 : decode cX12_pointed 1 = .ok (.istore 4, 2) := by decide +kernel
theorem dX12_pointed_3 : decode cX12_pointed 3 = .ok (.iconst 0, 1) := by decide +kernel
theorem dX12_pointed_4 : decode cX12_pointed 4 = .ok (.istore 5, 2) := by decide +kernel
theorem dX12_pointed_6 : decode cX12_pointed 6 = .ok (.iload 5, 2) := by decide +kernel
theorem dX12_pointed_8 : decode cX12_pointed 8 = .ok (.aload_n 0, 1) := by decide +kernel
theorem dX12_pointed_9 : decode cX12_pointed 9 = .ok (.getfield 513, 3) := by decide +kernel
theorem dX12_pointed_12 : decode cX12_pointed 12 = .ok (.if_icmp .ge 48, 3) := by decide +kernel
theorem dX12_pointed_15 : decode cX12_pointed 15 = .ok (.iload 4, 2) := by decide +kernel
theorem dX12_pointed_17 : decode cX12_pointed 17 = .ok (.iload_n 3, 1) := by decide +kernel
theorem dX12_pointed_18 : decode cX12_pointed 18 = .ok (.ifCond .eq 13, 3) := by decide +kernel
theorem dX12_pointed_21 : decode cX12_pointed 21 = .ok (.aload_n 0, 1) := by decide +kernel
theorem dX12_pointed_22 : decode cX12_pointed 22 = .ok (.getfield 151, 3) := by decide +kernel
theorem dX12_pointed_25 : decode cX12_pointed 25 = .ok (.iload 5, 2) := by decide +kernel
theorem dX12_pointed_27 : decode cX12_pointed 27 = .ok (.iaload, 1) := by decide +kernel
theorem dX12_pointed_28 : decode cX12_pointed 28 = .ok (.goto 10, 3) := by decide +kernel
theorem dX12_pointed_31 : decode cX12_pointed 31 = .ok (.aload_n 0, 1) := by decide +kernel
theorem dX12_pointed_32 : decode cX12_pointed 32 = .ok (.getfield 148, 3) := by decide +kernel
theorem dX12_pointed_35 : decode cX12_pointed 35 = .ok (.iload 5, 2) := by decide +kernel
theorem dX12_pointed_37 : decode cX12_pointed 37 = .ok (.iaload, 1) := by decide +kernel
theorem dX12_pointed_38 : decode cX12_pointed 38 = .ok (.iload_n 1, 1) := by decide +kernel
theorem dX12_pointed_39 : decode cX12_pointed 39 = .ok (.invokestatic 478, 3) := by decide +kernel
theorem dX12_pointed_42 : decode cX12_pointed 42 = .ok (.iload_n 2, 1) := by decide +kernel
theorem dX12_pointed_43 : decode cX12_pointed 43 = .ok (.if_icmp .gt 7, 3) := by decide +kernel
theorem dX12_pointed_46 : decode cX12_pointed 46 = .ok (.iconst 1, 1) := by decide +kernel
theorem dX12_pointed_47 : decode cX12_pointed 47 = .ok (.goto 4, 3) := by decide +kernel
theorem dX12_pointed_50 : decode cX12_pointed 50 = .ok (.iconst 0, 1) := by decide +kernel
theorem dX12_pointed_51 : decode cX12_pointed 51 = .ok (.iadd, 1) := by decide +kernel
theorem dX12_pointed_52 : decode cX12_pointed 52 = .ok (.istore 4, 2) := by decide +kernel
theorem dX12_pointed_54 : decode cX12_pointed 54 = .ok (.iinc 5 1, 3) := by decide +kernel
theorem dX12_pointed_57 : decode cX12_pointed 57 = .ok (.goto (-51), 3) := by decide +kernel
theorem dX12_pointed_60 : decode cX12_pointed 60 = .ok (.iload 4, 2) := by decide +kernel
theorem dX12_pointed_62 : decode cX12_pointed 62 = .ok (.ireturn, 1) := by decide +kernel
theorem dX12_pointing_0 : decode cX12_pointing 0 = .ok (.iload_n 1, 1) := by decide +kernel
theorem dX12_pointing_1 : decode cX12_pointing 1 = .ok (.iconst 0, 1) := by decide +kernel
theorem dX12_pointing_2 : decode cX12_pointing 2 = .ok (.sipush 359, 3) := by decide +kernel
theorem dX12_pointing_5 : decode cX12_pointing 5 = .ok (.invokestatic 407, 3) := by decide +kernel
theorem dX12_pointing_8 : decode cX12_pointing 8 = .ok (.ifCond .eq 23, 3) := by decide +kernel
theorem dX12_pointing_11 : decode cX12_pointing 11 = .ok (.iload_n 2, 1) := by decide +kernel
theorem dX12_pointing_12 : decode cX12_pointing 12 = .ok (.iconst 0, 1) := by decide +kernel
theorem dX12_pointing_13 : decode cX12_pointing 13 = .ok (.bipush 20, 2) := by decide +kernel
theorem dX12_pointing_15 : decode cX12_pointing 15 = .ok (.invokestatic 407, 3) := by decide +kernel
theorem dX12_pointing_18 : decode cX12_pointing 18 = .ok (.ifCond .eq 13, 3) := by decide +kernel
theorem dX12_pointing_21 : decode cX12_pointing 21 = .ok (.aload_n 0, 1) := by decide +kernel
theorem dX12_pointing_22 : decode cX12_pointing 22 = .ok (.iload_n 1, 1) := by decide +kernel
theorem dX12_pointing_23 : decode cX12_pointing 23 = .ok (.iload_n 2, 1) := by decide +kernel
theorem dX12_pointing_24 : decode cX12_pointing 24 = .ok (.iload_n 3, 1) := by decide +kernel
theorem dX12_pointing_25 : decode cX12_pointing 25 = .ok (.invokevirtual 516, 3) := by decide +kernel
theorem dX12_pointing_28 : decode cX12_pointing 28 = .ok (.goto 4, 3) := by decide +kernel
theorem dX12_pointing_31 : decode cX12_pointing 31 = .ok (.iconst (-1), 1) := by decide +kernel
theorem dX12_pointing_32 : decode cX12_pointing 32 = .ok (.ireturn, 1) := by decide +kernel
theorem dX12_chosen_0 : decode cX12_chosen 0 = .ok (.lconst 1, 1) := by decide +kernel
theorem dX12_chosen_1 : decode cX12_chosen 1 = .ok (.lstore_n 2, 1) := by decide +kernel
theorem dX12_chosen_2 : decode cX12_chosen 2 = .ok (.iconst 1, 1) := by decide +kernel
theorem dX12_chosen_3 : decode cX12_chosen 3 = .ok (.istore 4, 2) := by decide +kernel
theorem dX12_chosen_5 : decode cX12_chosen 5 = .ok (.iload 4, 2) := by decide +kernel
theorem dX12_chosen_7 : decode cX12_chosen 7 = .ok (.iload_n 1, 1) := by decide +kernel
theorem dX12_chosen_8 : decode cX12_chosen 8 = .ok (.if_icmp .gt 23, 3) := by decide +kernel
theorem dX12_chosen_11 : decode cX12_chosen 11 = .ok (.lload_n 2, 1) := by decide +kernel
theorem dX12_chosen_12 : decode cX12_chosen 12 = .ok (.iload_n 0, 1) := by decide +kernel
theorem dX12_chosen_13 : decode cX12_chosen 13 = .ok (.iload_n 1, 1) := by decide +kernel
theorem dX12_chosen_14 : decode cX12_chosen 14 = .ok (.isub, 1) := by decide +kernel
theorem dX12_chosen_15 : decode cX12_chosen 15 = .ok (.iload 4, 2) := by decide +kernel
theorem dX12_chosen_17 : decode cX12_chosen 17 = .ok (.iadd, 1) := by decide +kernel
theorem dX12_chosen_18 : decode cX12_chosen 18 = .ok (.i2l, 1) := by decide +kernel
theorem dX12_chosen_19 : decode cX12_chosen 19 = .ok (.lmul, 1) := by decide +kernel
theorem dX12_chosen_20 : decode cX12_chosen 20 = .ok (.iload 4, 2) := by decide +kernel
theorem dX12_chosen_22 : decode cX12_chosen 22 = .ok (.i2l, 1) := by decide +kernel
theorem dX12_chosen_23 : decode cX12_chosen 23 = .ok (.ldiv, 1) := by decide +kernel
theorem dX12_chosen_24 : decode cX12_chosen 24 = .ok (.lstore_n 2, 1) := by decide +kernel
theorem dX12_chosen_25 : decode cX12_chosen 25 = .ok (.iinc 4 1, 3) := by decide +kernel
theorem dX12_chosen_28 : decode cX12_chosen 28 = .ok (.goto (-23), 3) := by decide +kernel
theorem dX12_chosen_31 : decode cX12_chosen 31 = .ok (.lload_n 2, 1) := by decide +kernel
theorem dX12_chosen_32 : decode cX12_chosen 32 = .ok (.lreturn, 1) := by decide +kernel
theorem dX12_power_0 : decode cX12_power 0 = .ok (.lconst 1, 1) := by decide +kernel
theorem dX12_power_1 : decode cX12_power 1 = .ok (.lstore_n 2, 1) := by decide +kernel
theorem dX12_power_2 : decode cX12_power 2 = .ok (.iconst 0, 1) := by decide +kernel
theorem dX12_power_3 : decode cX12_power 3 = .ok (.istore 4, 2) := by decide +kernel
theorem dX12_power_5 : decode cX12_power 5 = .ok (.iload 4, 2) := by decide +kernel
theorem dX12_power_7 : decode cX12_power 7 = .ok (.iload_n 1, 1) := by decide +kernel
theorem dX12_power_8 : decode cX12_power 8 = .ok (.if_icmp .ge 14, 3) := by decide +kernel
theorem dX12_power_11 : decode cX12_power 11 = .ok (.lload_n 2, 1) := by decide +kernel
theorem dX12_power_12 : decode cX12_power 12 = .ok (.iload_n 0, 1) := by decide +kernel
theorem dX12_power_13 : decode cX12_power 13 = .ok (.i2l, 1) := by decide +kernel
theorem dX12_power_14 : decode cX12_power 14 = .ok (.lmul, 1) := by decide +kernel
theorem dX12_power_15 : decode cX12_power 15 = .ok (.lstore_n 2, 1) := by decide +kernel
theorem dX12_power_16 : decode cX12_power 16 = .ok (.iinc 4 1, 3) := by decide +kernel
theorem dX12_power_19 : decode cX12_power 19 = .ok (.goto (-14), 3) := by decide +kernel
theorem dX12_power_22 : decode cX12_power 22 = .ok (.lload_n 2, 1) := by decide +kernel
theorem dX12_power_23 : decode cX12_power 23 = .ok (.lreturn, 1) := by decide +kernel
theorem dX12_rows_0 : decode cX12_rows 0 = .ok (.lconst 0, 1) := by decide +kernel
theorem dX12_rows_1 : decode cX12_rows 1 = .ok (.lstore 4, 2) := by decide +kernel
theorem dX12_rows_3 : decode cX12_rows 3 = .ok (.iload_n 1, 1) := by decide +kernel
theorem dX12_rows_4 : decode cX12_rows 4 = .ok (.istore 6, 2) := by decide +kernel
theorem dX12_rows_6 : decode cX12_rows 6 = .ok (.iload 6, 2) := by decide +kernel
theorem dX12_rows_8 : decode cX12_rows 8 = .ok (.iload_n 0, 1) := by decide +kernel
theorem dX12_rows_9 : decode cX12_rows 9 = .ok (.if_icmp .gt 38, 3) := by decide +kernel
theorem dX12_rows_12 : decode cX12_rows 12 = .ok (.lload 4, 2) := by decide +kernel
theorem dX12_rows_14 : decode cX12_rows 14 = .ok (.iload_n 0, 1) := by decide +kernel
theorem dX12_rows_15 : decode cX12_rows 15 = .ok (.iload 6, 2) := by decide +kernel
theorem dX12_rows_17 : decode cX12_rows 17 = .ok (.invokestatic 519, 3) := by decide +kernel
theorem dX12_rows_20 : decode cX12_rows 20 = .ok (.iload_n 2, 1) := by decide +kernel
theorem dX12_rows_21 : decode cX12_rows 21 = .ok (.iload 6, 2) := by decide +kernel
theorem dX12_rows_23 : decode cX12_rows 23 = .ok (.invokestatic 523, 3) := by decide +kernel
theorem dX12_rows_26 : decode cX12_rows 26 = .ok (.lmul, 1) := by decide +kernel
theorem dX12_rows_27 : decode cX12_rows 27 = .ok (.iload_n 3, 1) := by decide +kernel
theorem dX12_rows_28 : decode cX12_rows 28 = .ok (.iload_n 2, 1) := by decide +kernel
theorem dX12_rows_29 : decode cX12_rows 29 = .ok (.isub, 1) := by decide +kernel
theorem dX12_rows_30 : decode cX12_rows 30 = .ok (.iload_n 0, 1) := by decide +kernel
theorem dX12_rows_31 : decode cX12_rows 31 = .ok (.iload 6, 2) := by decide +kernel
theorem dX12_rows_33 : decode cX12_rows 33 = .ok (.isub, 1) := by decide +kernel
theorem dX12_rows_34 : decode cX12_rows 34 = .ok (.invokestatic 523, 3) := by decide +kernel
theorem dX12_rows_37 : decode cX12_rows 37 = .ok (.lmul, 1) := by decide +kernel
theorem dX12_rows_38 : decode cX12_rows 38 = .ok (.ladd, 1) := by decide +kernel
theorem dX12_rows_39 : decode cX12_rows 39 = .ok (.lstore 4, 2) := by decide +kernel
theorem dX12_rows_41 : decode cX12_rows 41 = .ok (.iinc 6 1, 3) := by decide +kernel
theorem dX12_rows_44 : decode cX12_rows 44 = .ok (.goto (-38), 3) := by decide +kernel
theorem dX12_rows_47 : decode cX12_rows 47 = .ok (.lload 4, 2) := by decide +kernel
theorem dX12_rows_49 : decode cX12_rows 49 = .ok (.lreturn, 1) := by decide +kernel
theorem dX12_chance_0 : decode cX12_chance 0 = .ok (.iload_n 1, 1) := by decide +kernel
theorem dX12_chance_1 : decode cX12_chance 1 = .ok (.iconst 0, 1) := by decide +kernel
theorem dX12_chance_2 : decode cX12_chance 2 = .ok (.sipush 359, 3) := by decide +kernel
theorem dX12_chance_5 : decode cX12_chance 5 = .ok (.invokestatic 407, 3) := by decide +kernel
theorem dX12_chance_8 : decode cX12_chance 8 = .ok (.ifCond .eq 38, 3) := by decide +kernel
theorem dX12_chance_11 : decode cX12_chance 11 = .ok (.iload_n 2, 1) := by decide +kernel
theorem dX12_chance_12 : decode cX12_chance 12 = .ok (.iconst 0, 1) := by decide +kernel
theorem dX12_chance_13 : decode cX12_chance 13 = .ok (.bipush 20, 2) := by decide +kernel
theorem dX12_chance_15 : decode cX12_chance 15 = .ok (.invokestatic 407, 3) := by decide +kernel
theorem dX12_chance_18 : decode cX12_chance 18 = .ok (.ifCond .eq 28, 3) := by decide +kernel
theorem dX12_chance_21 : decode cX12_chance 21 = .ok (.aload_n 0, 1) := by decide +kernel
theorem dX12_chance_22 : decode cX12_chance 22 = .ok (.getfield 513, 3) := by decide +kernel
theorem dX12_chance_25 : decode cX12_chance 25 = .ok (.aload_n 0, 1) := by decide +kernel
theorem dX12_chance_26 : decode cX12_chance 26 = .ok (.iload_n 1, 1) := by decide +kernel
theorem dX12_chance_27 : decode cX12_chance 27 = .ok (.iload_n 2, 1) := by decide +kernel
theorem dX12_chance_28 : decode cX12_chance 28 = .ok (.iconst 0, 1) := by decide +kernel
theorem dX12_chance_29 : decode cX12_chance 29 = .ok (.invokevirtual 516, 3) := by decide +kernel
theorem dX12_chance_32 : decode cX12_chance 32 = .ok (.iconst 2, 1) := by decide +kernel
theorem dX12_chance_33 : decode cX12_chance 33 = .ok (.iload_n 2, 1) := by decide +kernel
theorem dX12_chance_34 : decode cX12_chance 34 = .ok (.imul, 1) := by decide +kernel
theorem dX12_chance_35 : decode cX12_chance 35 = .ok (.iconst 1, 1) := by decide +kernel
theorem dX12_chance_36 : decode cX12_chance 36 = .ok (.iadd, 1) := by decide +kernel
theorem dX12_chance_37 : decode cX12_chance 37 = .ok (.sipush 360, 3) := by decide +kernel
theorem dX12_chance_40 : decode cX12_chance 40 = .ok (.invokestatic 526, 3) := by decide +kernel
theorem dX12_chance_43 : decode cX12_chance 43 = .ok (.goto 6, 3) := by decide +kernel
theorem dX12_chance_46 : decode cX12_chance 46 = .ok (.ldc2_w 530, 3) := by decide +kernel
theorem dX12_chance_49 : decode cX12_chance 49 = .ok (.lreturn, 1) := by decide +kernel
theorem dX12_mixed_0 : decode cX12_mixed 0 = .ok (.iload_n 0, 1) := by decide +kernel
theorem dX12_mixed_1 : decode cX12_mixed 1 = .ok (.iload_n 1, 1) := by decide +kernel
theorem dX12_mixed_2 : decode cX12_mixed 2 = .ok (.ixor, 1) := by decide +kernel
theorem dX12_mixed_3 : decode cX12_mixed 3 = .ok (.ldc_w 532, 3) := by decide +kernel
theorem dX12_mixed_6 : decode cX12_mixed 6 = .ok (.imul, 1) := by decide +kernel
theorem dX12_mixed_7 : decode cX12_mixed 7 = .ok (.sipush 12345, 3) := by decide +kernel
theorem dX12_mixed_10 : decode cX12_mixed 10 = .ok (.iadd, 1) := by decide +kernel
theorem dX12_mixed_11 : decode cX12_mixed 11 = .ok (.istore_n 2, 1) := by decide +kernel
theorem dX12_mixed_12 : decode cX12_mixed 12 = .ok (.iload_n 2, 1) := by decide +kernel
theorem dX12_mixed_13 : decode cX12_mixed 13 = .ok (.iload_n 2, 1) := by decide +kernel
theorem dX12_mixed_14 : decode cX12_mixed 14 = .ok (.bipush 15, 2) := by decide +kernel
theorem dX12_mixed_16 : decode cX12_mixed 16 = .ok (.iushr, 1) := by decide +kernel
theorem dX12_mixed_17 : decode cX12_mixed 17 = .ok (.ixor, 1) := by decide +kernel
theorem dX12_mixed_18 : decode cX12_mixed 18 = .ok (.ireturn, 1) := by decide +kernel
theorem dX12_lot_0 : decode cX12_lot 0 = .ok (.iload_n 0, 1) := by decide +kernel
theorem dX12_lot_1 : decode cX12_lot 1 = .ok (.iconst 2, 1) := by decide +kernel
theorem dX12_lot_2 : decode cX12_lot 2 = .ok (.invokestatic 533, 3) := by decide +kernel
theorem dX12_lot_5 : decode cX12_lot 5 = .ok (.iload_n 1, 1) := by decide +kernel
theorem dX12_lot_6 : decode cX12_lot 6 = .ok (.invokestatic 533, 3) := by decide +kernel
theorem dX12_lot_9 : decode cX12_lot 9 = .ok (.iconst 1, 1) := by decide +kernel
theorem dX12_lot_10 : decode cX12_lot 10 = .ok (.iushr, 1) := by decide +kernel
theorem dX12_lot_11 : decode cX12_lot 11 = .ok (.iload_n 2, 1) := by decide +kernel
theorem dX12_lot_12 : decode cX12_lot 12 = .ok (.irem, 1) := by decide +kernel
theorem dX12_lot_13 : decode cX12_lot 13 = .ok (.ireturn, 1) := by decide +kernel
theorem dX12_make_0 : decode cX12_make 0 = .ok (.aload_n 0, 1) := by decide +kernel
theorem dX12_make_1 : decode cX12_make 1 = .ok (.iconst 0, 1) := by decide +kernel
theorem dX12_make_2 : decode cX12_make 2 = .ok (.invokevirtual 481, 3) := by decide +kernel
theorem dX12_make_5 : decode cX12_make 5 = .ok (.iconst 0, 1) := by decide +kernel
theorem dX12_make_6 : decode cX12_make 6 = .ok (.istore 4, 2) := by decide +kernel
theorem dX12_make_8 : decode cX12_make 8 = .ok (.iload 4, 2) := by decide +kernel
theorem dX12_make_10 : decode cX12_make 10 = .ok (.iload_n 2, 1) := by decide +kernel
theorem dX12_make_11 : decode cX12_make 11 = .ok (.if_icmp .ge 192, 3) := by decide +kernel
theorem dX12_make_14 : decode cX12_make 14 = .ok (.iconst 1, 1) := by decide +kernel
theorem dX12_make_15 : decode cX12_make 15 = .ok (.iload_n 1, 1) := by decide +kernel
theorem dX12_make_16 : decode cX12_make 16 = .ok (.bipush 8, 2) := by decide +kernel
theorem dX12_make_18 : decode cX12_make 18 = .ok (.iload 4, 2) := by decide +kernel
theorem dX12_make_20 : decode cX12_make 20 = .ok (.imul, 1) := by decide +kernel
theorem dX12_make_21 : decode cX12_make 21 = .ok (.iconst 2, 1) := by decide +kernel
theorem dX12_make_22 : decode cX12_make 22 = .ok (.iadd, 1) := by decide +kernel
theorem dX12_make_23 : decode cX12_make 23 = .ok (.iconst 3, 1) := by decide +kernel
theorem dX12_make_24 : decode cX12_make 24 = .ok (.invokestatic 536, 3) := by decide +kernel
theorem dX12_make_27 : decode cX12_make 27 = .ok (.iadd, 1) := by decide +kernel
theorem dX12_make_28 : decode cX12_make 28 = .ok (.istore 5, 2) := by decide +kernel
theorem dX12_make_30 : decode cX12_make 30 = .ok (.iload_n 1, 1) := by decide +kernel
theorem dX12_make_31 : decode cX12_make 31 = .ok (.bipush 8, 2) := by decide +kernel
theorem dX12_make_33 : decode cX12_make 33 = .ok (.iload 4, 2) := by decide +kernel
theorem dX12_make_35 : decode cX12_make 35 = .ok (.imul, 1) := by decide +kernel
theorem dX12_make_36 : decode cX12_make 36 = .ok (.iconst 3, 1) := by decide +kernel
theorem dX12_make_37 : decode cX12_make 37 = .ok (.iadd, 1) := by decide +kernel
theorem dX12_make_38 : decode cX12_make 38 = .ok (.sipush 360, 3) := by decide +kernel
theorem dX12_make_41 : decode cX12_make 41 = .ok (.invokestatic 536, 3) := by decide +kernel
theorem dX12_make_44 : decode cX12_make 44 = .ok (.istore 6, 2) := by decide +kernel
theorem dX12_make_46 : decode cX12_make 46 = .ok (.iload 4, 2) := by decide +kernel
theorem dX12_make_48 : decode cX12_make 48 = .ok (.iload_n 3, 1) := by decide +kernel
theorem dX12_make_49 : decode cX12_make 49 = .ok (.if_icmp .ge 36, 3) := by decide +kernel
theorem dX12_make_52 : decode cX12_make 52 = .ok (.aload_n 0, 1) := by decide +kernel
theorem dX12_make_53 : decode cX12_make 53 = .ok (.getfield 76, 3) := by decide +kernel
theorem dX12_make_56 : decode cX12_make 56 = .ok (.iconst 0, 1) := by decide +kernel
theorem dX12_make_57 : decode cX12_make 57 = .ok (.iaload, 1) := by decide +kernel
theorem dX12_make_58 : decode cX12_make 58 = .ok (.ifCond .le 27, 3) := by decide +kernel
theorem dX12_make_61 : decode cX12_make 61 = .ok (.aload_n 0, 1) := by decide +kernel
theorem dX12_make_62 : decode cX12_make 62 = .ok (.getfield 187, 3) := by decide +kernel
theorem dX12_make_65 : decode cX12_make 65 = .ok (.iload_n 1, 1) := by decide +kernel
theorem dX12_make_66 : decode cX12_make 66 = .ok (.bipush 8, 2) := by decide +kernel
theorem dX12_make_68 : decode cX12_make 68 = .ok (.iload 4, 2) := by decide +kernel
theorem dX12_make_70 : decode cX12_make 70 = .ok (.imul, 1) := by decide +kernel
theorem dX12_make_71 : decode cX12_make 71 = .ok (.iconst 4, 1) := by decide +kernel
theorem dX12_make_72 : decode cX12_make 72 = .ok (.iadd, 1) := by decide +kernel
theorem dX12_make_73 : decode cX12_make 73 = .ok (.aload_n 0, 1) := by decide +kernel
theorem dX12_make_74 : decode cX12_make 74 = .ok (.getfield 76, 3) := by decide +kernel
theorem dX12_make_77 : decode cX12_make 77 = .ok (.iconst 0, 1) := by decide +kernel
theorem dX12_make_78 : decode cX12_make 78 = .ok (.iaload, 1) := by decide +kernel
theorem dX12_make_79 : decode cX12_make 79 = .ok (.invokestatic 536, 3) := by decide +kernel
theorem dX12_make_82 : decode cX12_make 82 = .ok (.iaload, 1) := by decide +kernel
theorem dX12_make_83 : decode cX12_make 83 = .ok (.istore 6, 2) := by decide +kernel
theorem dX12_make_85 : decode cX12_make 85 = .ok (.aload_n 0, 1) := by decide +kernel
theorem dX12_make_86 : decode cX12_make 86 = .ok (.getfield 212, 3) := by decide +kernel
theorem dX12_make_89 : decode cX12_make 89 = .ok (.iconst 2, 1) := by decide +kernel
theorem dX12_make_90 : decode cX12_make 90 = .ok (.iload 4, 2) := by decide +kernel
theorem dX12_make_92 : decode cX12_make 92 = .ok (.imul, 1) := by decide +kernel
theorem dX12_make_93 : decode cX12_make 93 = .ok (.sipush 300, 3) := by decide +kernel
theorem dX12_make_96 : decode cX12_make 96 = .ok (.iload_n 1, 1) := by decide +kernel
theorem dX12_make_97 : decode cX12_make 97 = .ok (.bipush 8, 2) := by decide +kernel
theorem dX12_make_99 : decode cX12_make 99 = .ok (.iload 4, 2) := by decide +kernel
theorem dX12_make_101 : decode cX12_make 101 = .ok (.imul, 1) := by decide +kernel
theorem dX12_make_102 : decode cX12_make 102 = .ok (.sipush 400, 3) := by decide +kernel
theorem dX12_make_105 : decode cX12_make 105 = .ok (.invokestatic 536, 3) := by decide +kernel
theorem dX12_make_108 : decode cX12_make 108 = .ok (.iadd, 1) := by decide +kernel
theorem dX12_make_109 : decode cX12_make 109 = .ok (.iastore, 1) := by decide +kernel
theorem dX12_make_110 : decode cX12_make 110 = .ok (.aload_n 0, 1) := by decide +kernel
theorem dX12_make_111 : decode cX12_make 111 = .ok (.getfield 215, 3) := by decide +kernel
theorem dX12_make_114 : decode cX12_make 114 = .ok (.iconst 2, 1) := by decide +kernel
theorem dX12_make_115 : decode cX12_make 115 = .ok (.iload 4, 2) := by decide +kernel
theorem dX12_make_117 : decode cX12_make 117 = .ok (.imul, 1) := by decide +kernel
theorem dX12_make_118 : decode cX12_make 118 = .ok (.sipush 300, 3) := by decide +kernel
theorem dX12_make_121 : decode cX12_make 121 = .ok (.iload_n 1, 1) := by decide +kernel
theorem dX12_make_122 : decode cX12_make 122 = .ok (.bipush 8, 2) := by decide +kernel
theorem dX12_make_124 : decode cX12_make 124 = .ok (.iload 4, 2) := by decide +kernel
theorem dX12_make_126 : decode cX12_make 126 = .ok (.imul, 1) := by decide +kernel
theorem dX12_make_127 : decode cX12_make 127 = .ok (.iconst 1, 1) := by decide +kernel
theorem dX12_make_128 : decode cX12_make 128 = .ok (.iadd, 1) := by decide +kernel
theorem dX12_make_129 : decode cX12_make 129 = .ok (.sipush 400, 3) := by decide +kernel
theorem dX12_make_132 : decode cX12_make 132 = .ok (.invokestatic 536, 3) := by decide +kernel
theorem dX12_make_135 : decode cX12_make 135 = .ok (.iadd, 1) := by decide +kernel
theorem dX12_make_136 : decode cX12_make 136 = .ok (.iastore, 1) := by decide +kernel
theorem dX12_make_137 : decode cX12_make 137 = .ok (.aload_n 0, 1) := by decide +kernel
theorem dX12_make_138 : decode cX12_make 138 = .ok (.getfield 212, 3) := by decide +kernel
theorem dX12_make_141 : decode cX12_make 141 = .ok (.iconst 2, 1) := by decide +kernel
theorem dX12_make_142 : decode cX12_make 142 = .ok (.iload 4, 2) := by decide +kernel
theorem dX12_make_144 : decode cX12_make 144 = .ok (.imul, 1) := by decide +kernel
theorem dX12_make_145 : decode cX12_make 145 = .ok (.iconst 1, 1) := by decide +kernel
theorem dX12_make_146 : decode cX12_make 146 = .ok (.iadd, 1) := by decide +kernel
theorem dX12_make_147 : decode cX12_make 147 = .ok (.aload_n 0, 1) := by decide +kernel
theorem dX12_make_148 : decode cX12_make 148 = .ok (.getfield 212, 3) := by decide +kernel
theorem dX12_make_151 : decode cX12_make 151 = .ok (.iconst 2, 1) := by decide +kernel
theorem dX12_make_152 : decode cX12_make 152 = .ok (.iload 4, 2) := by decide +kernel
theorem dX12_make_154 : decode cX12_make 154 = .ok (.imul, 1) := by decide +kernel
theorem dX12_make_155 : decode cX12_make 155 = .ok (.iaload, 1) := by decide +kernel
theorem dX12_make_156 : decode cX12_make 156 = .ok (.iload 5, 2) := by decide +kernel
theorem dX12_make_158 : decode cX12_make 158 = .ok (.iload 6, 2) := by decide +kernel
theorem dX12_make_160 : decode cX12_make 160 = .ok (.iconst 0, 1) := by decide +kernel
theorem dX12_make_161 : decode cX12_make 161 = .ok (.invokestatic 460, 3) := by decide +kernel
theorem dX12_make_164 : decode cX12_make 164 = .ok (.imul, 1) := by decide +kernel
theorem dX12_make_165 : decode cX12_make 165 = .ok (.iadd, 1) := by decide +kernel
theorem dX12_make_166 : decode cX12_make 166 = .ok (.iastore, 1) := by decide +kernel
theorem dX12_make_167 : decode cX12_make 167 = .ok (.aload_n 0, 1) := by decide +kernel
theorem dX12_make_168 : decode cX12_make 168 = .ok (.getfield 215, 3) := by decide +kernel
theorem dX12_make_171 : decode cX12_make 171 = .ok (.iconst 2, 1) := by decide +kernel
theorem dX12_make_172 : decode cX12_make 172 = .ok (.iload 4, 2) := by decide +kernel
theorem dX12_make_174 : decode cX12_make 174 = .ok (.imul, 1) := by decide +kernel
theorem dX12_make_175 : decode cX12_make 175 = .ok (.iconst 1, 1) := by decide +kernel
theorem dX12_make_176 : decode cX12_make 176 = .ok (.iadd, 1) := by decide +kernel
theorem dX12_make_177 : decode cX12_make 177 = .ok (.aload_n 0, 1) := by decide +kernel
theorem dX12_make_178 : decode cX12_make 178 = .ok (.getfield 215, 3) := by decide +kernel
theorem dX12_make_181 : decode cX12_make 181 = .ok (.iconst 2, 1) := by decide +kernel
theorem dX12_make_182 : decode cX12_make 182 = .ok (.iload 4, 2) := by decide +kernel
theorem dX12_make_184 : decode cX12_make 184 = .ok (.imul, 1) := by decide +kernel
theorem dX12_make_185 : decode cX12_make 185 = .ok (.iaload, 1) := by decide +kernel
theorem dX12_make_186 : decode cX12_make 186 = .ok (.iload 5, 2) := by decide +kernel
theorem dX12_make_188 : decode cX12_make 188 = .ok (.iload 6, 2) := by decide +kernel
theorem dX12_make_190 : decode cX12_make 190 = .ok (.iconst 1, 1) := by decide +kernel
theorem dX12_make_191 : decode cX12_make 191 = .ok (.invokestatic 460, 3) := by decide +kernel
theorem dX12_make_194 : decode cX12_make 194 = .ok (.imul, 1) := by decide +kernel
theorem dX12_make_195 : decode cX12_make 195 = .ok (.iadd, 1) := by decide +kernel
theorem dX12_make_196 : decode cX12_make 196 = .ok (.iastore, 1) := by decide +kernel
theorem dX12_make_197 : decode cX12_make 197 = .ok (.iinc 4 1, 3) := by decide +kernel
theorem dX12_make_200 : decode cX12_make 200 = .ok (.goto (-192), 3) := by decide +kernel
theorem dX12_make_203 : decode cX12_make 203 = .ok (.return_, 1) := by decide +kernel
theorem dX12_isMake_0 : decode cX12_isMake 0 = .ok (.iload_n 0, 1) := by decide +kernel
theorem dX12_isMake_1 : decode cX12_isMake 1 = .ok (.iconst 1, 1) := by decide +kernel
theorem dX12_isMake_2 : decode cX12_isMake 2 = .ok (.bipush 7, 2) := by decide +kernel
theorem dX12_isMake_4 : decode cX12_isMake 4 = .ok (.invokestatic 407, 3) := by decide +kernel
theorem dX12_isMake_7 : decode cX12_isMake 7 = .ok (.ifCond .eq 16, 3) := by decide +kernel
theorem dX12_isMake_10 : decode cX12_isMake 10 = .ok (.iload_n 1, 1) := by decide +kernel
theorem dX12_isMake_11 : decode cX12_isMake 11 = .ok (.iconst 0, 1) := by decide +kernel
theorem dX12_isMake_12 : decode cX12_isMake 12 = .ok (.iload_n 0, 1) := by decide +kernel
theorem dX12_isMake_13 : decode cX12_isMake 13 = .ok (.invokestatic 407, 3) := by decide +kernel
theorem dX12_isMake_16 : decode cX12_isMake 16 = .ok (.ifCond .eq 7, 3) := by decide +kernel
theorem dX12_isMake_19 : decode cX12_isMake 19 = .ok (.iconst 1, 1) := by decide +kernel
theorem dX12_isMake_20 : decode cX12_isMake 20 = .ok (.goto 4, 3) := by decide +kernel
theorem dX12_isMake_23 : decode cX12_isMake 23 = .ok (.iconst 0, 1) := by decide +kernel
theorem dX12_isMake_24 : decode cX12_isMake 24 = .ok (.ireturn, 1) := by decide +kernel
theorem dX12_madeHits_0 : decode cX12_madeHits 0 = .ok (.aload_n 0, 1) := by decide +kernel
theorem dX12_madeHits_1 : decode cX12_madeHits 1 = .ok (.iload_n 1, 1) := by decide +kernel
theorem dX12_madeHits_2 : decode cX12_madeHits 2 = .ok (.iload_n 2, 1) := by decide +kernel
theorem dX12_madeHits_3 : decode cX12_madeHits 3 = .ok (.iload_n 3, 1) := by decide +kernel
theorem dX12_madeHits_4 : decode cX12_madeHits 4 = .ok (.invokevirtual 539, 3) := by decide +kernel
theorem dX12_madeHits_7 : decode cX12_madeHits 7 = .ok (.iconst 0, 1) := by decide +kernel
theorem dX12_madeHits_8 : decode cX12_madeHits 8 = .ok (.istore 4, 2) := by decide +kernel
theorem dX12_madeHits_10 : decode cX12_madeHits 10 = .ok (.iconst 0, 1) := by decide +kernel
theorem dX12_madeHits_11 : decode cX12_madeHits 11 = .ok (.istore 5, 2) := by decide +kernel
theorem dX12_madeHits_13 : decode cX12_madeHits 13 = .ok (.iload 5, 2) := by decide +kernel
theorem dX12_madeHits_15 : decode cX12_madeHits 15 = .ok (.iconst 2, 1) := by decide +kernel
theorem dX12_madeHits_16 : decode cX12_madeHits 16 = .ok (.iload_n 2, 1) := by decide +kernel
theorem dX12_madeHits_17 : decode cX12_madeHits 17 = .ok (.imul, 1) := by decide +kernel
theorem dX12_madeHits_18 : decode cX12_madeHits 18 = .ok (.if_icmp .ge 97, 3) := by decide +kernel
theorem dX12_madeHits_21 : decode cX12_madeHits 21 = .ok (.iconst 0, 1) := by decide +kernel
theorem dX12_madeHits_22 : decode cX12_madeHits 22 = .ok (.istore 6, 2) := by decide +kernel
theorem dX12_madeHits_24 : decode cX12_madeHits 24 = .ok (.iload 6, 2) := by decide +kernel
theorem dX12_madeHits_26 : decode cX12_madeHits 26 = .ok (.iconst 2, 1) := by decide +kernel
theorem dX12_madeHits_27 : decode cX12_madeHits 27 = .ok (.iload_n 2, 1) := by decide +kernel
theorem dX12_madeHits_28 : decode cX12_madeHits 28 = .ok (.imul, 1) := by decide +kernel
theorem dX12_madeHits_29 : decode cX12_madeHits 29 = .ok (.if_icmp .ge 80, 3) := by decide +kernel
theorem dX12_madeHits_32 : decode cX12_madeHits 32 = .ok (.aload_n 0, 1) := by decide +kernel
theorem dX12_madeHits_33 : decode cX12_madeHits 33 = .ok (.getfield 212, 3) := by decide +kernel
theorem dX12_madeHits_36 : decode cX12_madeHits 36 = .ok (.iload 6, 2) := by decide +kernel
theorem dX12_madeHits_38 : decode cX12_madeHits 38 = .ok (.iaload, 1) := by decide +kernel
theorem dX12_madeHits_39 : decode cX12_madeHits 39 = .ok (.aload_n 0, 1) := by decide +kernel
theorem dX12_madeHits_40 : decode cX12_madeHits 40 = .ok (.getfield 212, 3) := by decide +kernel
theorem dX12_madeHits_43 : decode cX12_madeHits 43 = .ok (.iload 5, 2) := by decide +kernel
theorem dX12_madeHits_45 : decode cX12_madeHits 45 = .ok (.iaload, 1) := by decide +kernel
theorem dX12_madeHits_46 : decode cX12_madeHits 46 = .ok (.isub, 1) := by decide +kernel
theorem dX12_madeHits_47 : decode cX12_madeHits 47 = .ok (.istore 7, 2) := by decide +kernel
theorem dX12_madeHits_49 : decode cX12_madeHits 49 = .ok (.aload_n 0, 1) := by decide +kernel
theorem dX12_madeHits_50 : decode cX12_madeHits 50 = .ok (.getfield 215, 3) := by decide +kernel
theorem dX12_madeHits_53 : decode cX12_madeHits 53 = .ok (.iload 6, 2) := by decide +kernel
theorem dX12_madeHits_55 : decode cX12_madeHits 55 = .ok (.iaload, 1) := by decide +kernel
theorem dX12_madeHits_56 : decode cX12_madeHits 56 = .ok (.aload_n 0, 1) := by decide +kernel
theorem dX12_madeHits_57 : decode cX12_madeHits 57 = .ok (.getfield 215, 3) := by decide +kernel
theorem dX12_madeHits_60 : decode cX12_madeHits 60 = .ok (.iload 5, 2) := by decide +kernel
theorem dX12_madeHits_62 : decode cX12_madeHits 62 = .ok (.iaload, 1) := by decide +kernel
theorem dX12_madeHits_63 : decode cX12_madeHits 63 = .ok (.isub, 1) := by decide +kernel
theorem dX12_madeHits_64 : decode cX12_madeHits 64 = .ok (.istore 8, 2) := by decide +kernel
theorem dX12_madeHits_66 : decode cX12_madeHits 66 = .ok (.iload 7, 2) := by decide +kernel
theorem dX12_madeHits_68 : decode cX12_madeHits 68 = .ok (.ifCond .ne 11, 3) := by decide +kernel
theorem dX12_madeHits_71 : decode cX12_madeHits 71 = .ok (.iload 8, 2) := by decide +kernel
theorem dX12_madeHits_73 : decode cX12_madeHits 73 = .ok (.ifCond .ne 6, 3) := by decide +kernel
theorem dX12_madeHits_76 : decode cX12_madeHits 76 = .ok (.goto 27, 3) := by decide +kernel
theorem dX12_madeHits_79 : decode cX12_madeHits 79 = .ok (.aload_n 0, 1) := by decide +kernel
theorem dX12_madeHits_80 : decode cX12_madeHits 80 = .ok (.iload 7, 2) := by decide +kernel
theorem dX12_madeHits_82 : decode cX12_madeHits 82 = .ok (.iload 8, 2) := by decide +kernel
theorem dX12_madeHits_84 : decode cX12_madeHits 84 = .ok (.invokestatic 431, 3) := by decide +kernel
theorem dX12_madeHits_87 : decode cX12_madeHits 87 = .ok (.aload_n 0, 1) := by decide +kernel
theorem dX12_madeHits_88 : decode cX12_madeHits 88 = .ok (.getfield 34, 3) := by decide +kernel
theorem dX12_madeHits_91 : decode cX12_madeHits 91 = .ok (.iconst 0, 1) := by decide +kernel
theorem dX12_madeHits_92 : decode cX12_madeHits 92 = .ok (.iaload, 1) := by decide +kernel
theorem dX12_madeHits_93 : decode cX12_madeHits 93 = .ok (.iconst 0, 1) := by decide +kernel
theorem dX12_madeHits_94 : decode cX12_madeHits 94 = .ok (.invokevirtual 484, 3) := by decide +kernel
theorem dX12_madeHits_97 : decode cX12_madeHits 97 = .ok (.ifCond .eq 6, 3) := by decide +kernel
theorem dX12_madeHits_100 : decode cX12_madeHits 100 = .ok (.iinc 4 1, 3) := by decide +kernel
theorem dX12_madeHits_103 : decode cX12_madeHits 103 = .ok (.iinc 6 1, 3) := by decide +kernel
theorem dX12_madeHits_106 : decode cX12_madeHits 106 = .ok (.goto (-82), 3) := by decide +kernel
theorem dX12_madeHits_109 : decode cX12_madeHits 109 = .ok (.iinc 5 1, 3) := by decide +kernel
theorem dX12_madeHits_112 : decode cX12_madeHits 112 = .ok (.goto (-99), 3) := by decide +kernel
theorem dX12_madeHits_115 : decode cX12_madeHits 115 = .ok (.iload 4, 2) := by decide +kernel
theorem dX12_madeHits_117 : decode cX12_madeHits 117 = .ok (.ireturn, 1) := by decide +kernel
theorem dX12_made_0 : decode cX12_made 0 = .ok (.iload_n 2, 1) := by decide +kernel
theorem dX12_made_1 : decode cX12_made 1 = .ok (.iload_n 3, 1) := by decide +kernel
theorem dX12_made_2 : decode cX12_made 2 = .ok (.invokestatic 542, 3) := by decide +kernel
theorem dX12_made_5 : decode cX12_made 5 = .ok (.ifCond .eq 13, 3) := by decide +kernel
theorem dX12_made_8 : decode cX12_made 8 = .ok (.aload_n 0, 1) := by decide +kernel
theorem dX12_made_9 : decode cX12_made 9 = .ok (.iload_n 1, 1) := by decide +kernel
theorem dX12_made_10 : decode cX12_made 10 = .ok (.iload_n 2, 1) := by decide +kernel
theorem dX12_made_11 : decode cX12_made 11 = .ok (.iload_n 3, 1) := by decide +kernel
theorem dX12_made_12 : decode cX12_made 12 = .ok (.invokevirtual 545, 3) := by decide +kernel
theorem dX12_made_15 : decode cX12_made 15 = .ok (.goto 4, 3) := by decide +kernel
theorem dX12_made_18 : decode cX12_made 18 = .ok (.iconst (-1), 1) := by decide +kernel
theorem dX12_made_19 : decode cX12_made 19 = .ok (.ireturn, 1) := by decide +kernel
theorem dX12_madeAt_0 : decode cX12_madeAt 0 = .ok (.iload_n 2, 1) := by decide +kernel
theorem dX12_madeAt_1 : decode cX12_madeAt 1 = .ok (.iload_n 3, 1) := by decide +kernel
theorem dX12_madeAt_2 : decode cX12_madeAt 2 = .ok (.invokestatic 542, 3) := by decide +kernel
theorem dX12_madeAt_5 : decode cX12_madeAt 5 = .ok (.ifCond .eq 26, 3) := by decide +kernel
theorem dX12_madeAt_8 : decode cX12_madeAt 8 = .ok (.iload 4, 2) := by decide +kernel
theorem dX12_madeAt_10 : decode cX12_madeAt 10 = .ok (.ifCond .lt 21, 3) := by decide +kernel
theorem dX12_madeAt_13 : decode cX12_madeAt 13 = .ok (.iload 4, 2) := by decide +kernel
theorem dX12_madeAt_15 : decode cX12_madeAt 15 = .ok (.iconst 2, 1) := by decide +kernel
theorem dX12_madeAt_16 : decode cX12_madeAt 16 = .ok (.iload_n 2, 1) := by decide +kernel
theorem dX12_madeAt_17 : decode cX12_madeAt 17 = .ok (.imul, 1) := by decide +kernel
theorem dX12_madeAt_18 : decode cX12_madeAt 18 = .ok (.if_icmp .ge 13, 3) := by decide +kernel
theorem dX12_madeAt_21 : decode cX12_madeAt 21 = .ok (.iload 5, 2) := by decide +kernel
theorem dX12_madeAt_23 : decode cX12_madeAt 23 = .ok (.iconst 0, 1) := by decide +kernel
theorem dX12_madeAt_24 : decode cX12_madeAt 24 = .ok (.iconst 1, 1) := by decide +kernel
theorem dX12_madeAt_25 : decode cX12_madeAt 25 = .ok (.invokestatic 407, 3) := by decide +kernel
theorem dX12_madeAt_28 : decode cX12_madeAt 28 = .ok (.ifCond .ne 7, 3) := by decide +kernel
theorem dX12_madeAt_31 : decode cX12_madeAt 31 = .ok (.sipush (-10000), 3) := by decide +kernel
theorem dX12_madeAt_34 : decode cX12_madeAt 34 = .ok (.ireturn, 1) := by decide +kernel
theorem dX12_madeAt_35 : decode cX12_madeAt 35 = .ok (.aload_n 0, 1) := by decide +kernel
theorem dX12_madeAt_36 : decode cX12_madeAt 36 = .ok (.iload_n 1, 1) := by decide +kernel
theorem dX12_madeAt_37 : decode cX12_madeAt 37 = .ok (.iload_n 2, 1) := by decide +kernel
theorem dX12_madeAt_38 : decode cX12_madeAt 38 = .ok (.iload_n 3, 1) := by decide +kernel
theorem dX12_madeAt_39 : decode cX12_madeAt 39 = .ok (.invokevirtual 539, 3) := by decide +kernel
theorem dX12_madeAt_42 : decode cX12_madeAt 42 = .ok (.iload 5, 2) := by decide +kernel
theorem dX12_madeAt_44 : decode cX12_madeAt 44 = .ok (.ifCond .ne 13, 3) := by decide +kernel
theorem dX12_madeAt_47 : decode cX12_madeAt 47 = .ok (.aload_n 0, 1) := by decide +kernel
theorem dX12_madeAt_48 : decode cX12_madeAt 48 = .ok (.getfield 212, 3) := by decide +kernel
theorem dX12_madeAt_51 : decode cX12_madeAt 51 = .ok (.iload 4, 2) := by decide +kernel
theorem dX12_madeAt_53 : decode cX12_madeAt 53 = .ok (.iaload, 1) := by decide +kernel
theorem dX12_madeAt_54 : decode cX12_madeAt 54 = .ok (.goto 10, 3) := by decide +kernel
theorem dX12_madeAt_57 : decode cX12_madeAt 57 = .ok (.aload_n 0, 1) := by decide +kernel
theorem dX12_madeAt_58 : decode cX12_madeAt 58 = .ok (.getfield 215, 3) := by decide +kernel
theorem dX12_madeAt_61 : decode cX12_madeAt 61 = .ok (.iload 4, 2) := by decide +kernel
theorem dX12_madeAt_63 : decode cX12_madeAt 63 = .ok (.iaload, 1) := by decide +kernel
theorem dX12_madeAt_64 : decode cX12_madeAt 64 = .ok (.ireturn, 1) := by decide +kernel
theorem dX12_odds_0 : decode cX12_odds 0 = .ok (.iload_n 2, 1) := by decide +kernel
theorem dX12_odds_1 : decode cX12_odds 1 = .ok (.iload_n 3, 1) := by decide +kernel
theorem dX12_odds_2 : decode cX12_odds 2 = .ok (.invokestatic 542, 3) := by decide +kernel
theorem dX12_odds_5 : decode cX12_odds 5 = .ok (.ifCond .eq 15, 3) := by decide +kernel
theorem dX12_odds_8 : decode cX12_odds 8 = .ok (.iload 4, 2) := by decide +kernel
theorem dX12_odds_10 : decode cX12_odds 10 = .ok (.iconst 1, 1) := by decide +kernel
theorem dX12_odds_11 : decode cX12_odds 11 = .ok (.sipush 200, 3) := by decide +kernel
theorem dX12_odds_14 : decode cX12_odds 14 = .ok (.invokestatic 407, 3) := by decide +kernel
theorem dX12_odds_17 : decode cX12_odds 17 = .ok (.ifCond .ne 5, 3) := by decide +kernel
theorem dX12_odds_20 : decode cX12_odds 20 = .ok (.iconst (-1), 1) := by decide +kernel
theorem dX12_odds_21 : decode cX12_odds 21 = .ok (.ireturn, 1) := by decide +kernel
theorem dX12_odds_22 : decode cX12_odds 22 = .ok (.iconst 0, 1) := by decide +kernel
theorem dX12_odds_23 : decode cX12_odds 23 = .ok (.istore 6, 2) := by decide +kernel
theorem dX12_odds_25 : decode cX12_odds 25 = .ok (.iconst 0, 1) := by decide +kernel
theorem dX12_odds_26 : decode cX12_odds 26 = .ok (.istore 7, 2) := by decide +kernel
theorem dX12_odds_28 : decode cX12_odds 28 = .ok (.iload 7, 2) := by decide +kernel
theorem dX12_odds_30 : decode cX12_odds 30 = .ok (.iload 4, 2) := by decide +kernel
theorem dX12_odds_32 : decode cX12_odds 32 = .ok (.if_icmp .ge 34, 3) := by decide +kernel
theorem dX12_odds_35 : decode cX12_odds 35 = .ok (.iload 6, 2) := by decide +kernel
theorem dX12_odds_37 : decode cX12_odds 37 = .ok (.aload_n 0, 1) := by decide +kernel
theorem dX12_odds_38 : decode cX12_odds 38 = .ok (.iload_n 1, 1) := by decide +kernel
theorem dX12_odds_39 : decode cX12_odds 39 = .ok (.iload 7, 2) := by decide +kernel
theorem dX12_odds_41 : decode cX12_odds 41 = .ok (.iadd, 1) := by decide +kernel
theorem dX12_odds_42 : decode cX12_odds 42 = .ok (.iload_n 2, 1) := by decide +kernel
theorem dX12_odds_43 : decode cX12_odds 43 = .ok (.iload_n 3, 1) := by decide +kernel
theorem dX12_odds_44 : decode cX12_odds 44 = .ok (.invokevirtual 545, 3) := by decide +kernel
theorem dX12_odds_47 : decode cX12_odds 47 = .ok (.iload 5, 2) := by decide +kernel
theorem dX12_odds_49 : decode cX12_odds 49 = .ok (.if_icmp .lt 7, 3) := by decide +kernel
theorem dX12_odds_52 : decode cX12_odds 52 = .ok (.iconst 1, 1) := by decide +kernel
theorem dX12_odds_53 : decode cX12_odds 53 = .ok (.goto 4, 3) := by decide +kernel
theorem dX12_odds_56 : decode cX12_odds 56 = .ok (.iconst 0, 1) := by decide +kernel
theorem dX12_odds_57 : decode cX12_odds 57 = .ok (.iadd, 1) := by decide +kernel
theorem dX12_odds_58 : decode cX12_odds 58 = .ok (.istore 6, 2) := by decide +kernel
theorem dX12_odds_60 : decode cX12_odds 60 = .ok (.iinc 7 1, 3) := by decide +kernel
theorem dX12_odds_63 : decode cX12_odds 63 = .ok (.goto (-35), 3) := by decide +kernel
theorem dX12_odds_66 : decode cX12_odds 66 = .ok (.iload 6, 2) := by decide +kernel
theorem dX12_odds_68 : decode cX12_odds 68 = .ok (.ireturn, 1) := by decide +kernel
theorem dX12_isCounting_0 : decode cX12_isCounting 0 = .ok (.iload_n 0, 1) := by decide +kernel
theorem dX12_isCounting_1 : decode cX12_isCounting 1 = .ok (.iload_n 2, 1) := by decide +kernel
theorem dX12_isCounting_2 : decode cX12_isCounting 2 = .ok (.imul, 1) := by decide +kernel
theorem dX12_isCounting_3 : decode cX12_isCounting 3 = .ok (.iload_n 3, 1) := by decide +kernel
theorem dX12_isCounting_4 : decode cX12_isCounting 4 = .ok (.iload_n 1, 1) := by decide +kernel
theorem dX12_isCounting_5 : decode cX12_isCounting 5 = .ok (.imul, 1) := by decide +kernel
theorem dX12_isCounting_6 : decode cX12_isCounting 6 = .ok (.isub, 1) := by decide +kernel
theorem dX12_isCounting_7 : decode cX12_isCounting 7 = .ok (.invokestatic 425, 3) := by decide +kernel
theorem dX12_isCounting_10 : decode cX12_isCounting 10 = .ok (.iload 4, 2) := by decide +kernel
theorem dX12_isCounting_12 : decode cX12_isCounting 12 = .ok (.iload_n 1, 1) := by decide +kernel
theorem dX12_isCounting_13 : decode cX12_isCounting 13 = .ok (.imul, 1) := by decide +kernel
theorem dX12_isCounting_14 : decode cX12_isCounting 14 = .ok (.if_icmp .gt 7, 3) := by decide +kernel
theorem dX12_isCounting_17 : decode cX12_isCounting 17 = .ok (.iconst 1, 1) := by decide +kernel
theorem dX12_isCounting_18 : decode cX12_isCounting 18 = .ok (.goto 4, 3) := by decide +kernel
theorem dX12_isCounting_21 : decode cX12_isCounting 21 = .ok (.iconst 0, 1) := by decide +kernel
theorem dX12_isCounting_22 : decode cX12_isCounting 22 = .ok (.ireturn, 1) := by decide +kernel
theorem dX12_counts_0 : decode cX12_counts 0 = .ok (.iload_n 1, 1) := by decide +kernel
theorem dX12_counts_1 : decode cX12_counts 1 = .ok (.iconst 1, 1) := by decide +kernel
theorem dX12_counts_2 : decode cX12_counts 2 = .ok (.bipush 100, 2) := by decide +kernel
theorem dX12_counts_4 : decode cX12_counts 4 = .ok (.invokestatic 407, 3) := by decide +kernel
theorem dX12_counts_7 : decode cX12_counts 7 = .ok (.ifCond .eq 46, 3) := by decide +kernel
theorem dX12_counts_10 : decode cX12_counts 10 = .ok (.iload_n 2, 1) := by decide +kernel
theorem dX12_counts_11 : decode cX12_counts 11 = .ok (.iconst 1, 1) := by decide +kernel
theorem dX12_counts_12 : decode cX12_counts 12 = .ok (.bipush 100, 2) := by decide +kernel
theorem dX12_counts_14 : decode cX12_counts 14 = .ok (.invokestatic 407, 3) := by decide +kernel
theorem dX12_counts_17 : decode cX12_counts 17 = .ok (.ifCond .eq 36, 3) := by decide +kernel
theorem dX12_counts_20 : decode cX12_counts 20 = .ok (.iload_n 3, 1) := by decide +kernel
theorem dX12_counts_21 : decode cX12_counts 21 = .ok (.iconst 1, 1) := by decide +kernel
theorem dX12_counts_22 : decode cX12_counts 22 = .ok (.bipush 100, 2) := by decide +kernel
theorem dX12_counts_24 : decode cX12_counts 24 = .ok (.invokestatic 407, 3) := by decide +kernel
theorem dX12_counts_27 : decode cX12_counts 27 = .ok (.ifCond .eq 26, 3) := by decide +kernel
theorem dX12_counts_30 : decode cX12_counts 30 = .ok (.iload 4, 2) := by decide +kernel
theorem dX12_counts_32 : decode cX12_counts 32 = .ok (.iconst 1, 1) := by decide +kernel
theorem dX12_counts_33 : decode cX12_counts 33 = .ok (.sipush 9999, 3) := by decide +kernel
theorem dX12_counts_36 : decode cX12_counts 36 = .ok (.invokestatic 407, 3) := by decide +kernel
theorem dX12_counts_39 : decode cX12_counts 39 = .ok (.ifCond .eq 14, 3) := by decide +kernel
theorem dX12_counts_42 : decode cX12_counts 42 = .ok (.iload 5, 2) := by decide +kernel
theorem dX12_counts_44 : decode cX12_counts 44 = .ok (.iconst 0, 1) := by decide +kernel
theorem dX12_counts_45 : decode cX12_counts 45 = .ok (.bipush 99, 2) := by decide +kernel
theorem dX12_counts_47 : decode cX12_counts 47 = .ok (.invokestatic 407, 3) := by decide +kernel
theorem dX12_counts_50 : decode cX12_counts 50 = .ok (.ifCond .ne 5, 3) := by decide +kernel
theorem dX12_counts_53 : decode cX12_counts 53 = .ok (.iconst (-1), 1) := by decide +kernel
theorem dX12_counts_54 : decode cX12_counts 54 = .ok (.ireturn, 1) := by decide +kernel
theorem dX12_counts_55 : decode cX12_counts 55 = .ok (.iload_n 1, 1) := by decide +kernel
theorem dX12_counts_56 : decode cX12_counts 56 = .ok (.iload_n 2, 1) := by decide +kernel
theorem dX12_counts_57 : decode cX12_counts 57 = .ok (.iload_n 3, 1) := by decide +kernel
theorem dX12_counts_58 : decode cX12_counts 58 = .ok (.iload 4, 2) := by decide +kernel
theorem dX12_counts_60 : decode cX12_counts 60 = .ok (.iload 5, 2) := by decide +kernel
theorem dX12_counts_62 : decode cX12_counts 62 = .ok (.invokestatic 548, 3) := by decide +kernel
theorem dX12_counts_65 : decode cX12_counts 65 = .ok (.ifCond .eq 7, 3) := by decide +kernel
theorem dX12_counts_68 : decode cX12_counts 68 = .ok (.iconst 1, 1) := by decide +kernel
theorem dX12_counts_69 : decode cX12_counts 69 = .ok (.goto 4, 3) := by decide +kernel
theorem dX12_counts_72 : decode cX12_counts 72 = .ok (.iconst 0, 1) := by decide +kernel
theorem dX12_counts_73 : decode cX12_counts 73 = .ok (.ireturn, 1) := by decide +kernel
theorem dX12_anything_0 : decode cX12_anything 0 = .ok (.iload_n 1, 1) := by decide +kernel
theorem dX12_anything_1 : decode cX12_anything 1 = .ok (.iconst 1, 1) := by decide +kernel
theorem dX12_anything_2 : decode cX12_anything 2 = .ok (.bipush 100, 2) := by decide +kernel
theorem dX12_anything_4 : decode cX12_anything 4 = .ok (.invokestatic 407, 3) := by decide +kernel
theorem dX12_anything_7 : decode cX12_anything 7 = .ok (.ifCond .eq 46, 3) := by decide +kernel
theorem dX12_anything_10 : decode cX12_anything 10 = .ok (.iload_n 2, 1) := by decide +kernel
theorem dX12_anything_11 : decode cX12_anything 11 = .ok (.iconst 1, 1) := by decide +kernel
theorem dX12_anything_12 : decode cX12_anything 12 = .ok (.bipush 20, 2) := by decide +kernel
theorem dX12_anything_14 : decode cX12_anything 14 = .ok (.invokestatic 407, 3) := by decide +kernel
theorem dX12_anything_17 : decode cX12_anything 17 = .ok (.ifCond .eq 36, 3) := by decide +kernel
theorem dX12_anything_20 : decode cX12_anything 20 = .ok (.iload_n 3, 1) := by decide +kernel
theorem dX12_anything_21 : decode cX12_anything 21 = .ok (.iconst 1, 1) := by decide +kernel
theorem dX12_anything_22 : decode cX12_anything 22 = .ok (.bipush 20, 2) := by decide +kernel
theorem dX12_anything_24 : decode cX12_anything 24 = .ok (.invokestatic 407, 3) := by decide +kernel
theorem dX12_anything_27 : decode cX12_anything 27 = .ok (.ifCond .eq 26, 3) := by decide +kernel
theorem dX12_anything_30 : decode cX12_anything 30 = .ok (.iload 4, 2) := by decide +kernel
theorem dX12_anything_32 : decode cX12_anything 32 = .ok (.iconst 0, 1) := by decide +kernel
theorem dX12_anything_33 : decode cX12_anything 33 = .ok (.bipush 9, 2) := by decide +kernel
theorem dX12_anything_35 : decode cX12_anything 35 = .ok (.invokestatic 407, 3) := by decide +kernel
theorem dX12_anything_38 : decode cX12_anything 38 = .ok (.ifCond .eq 15, 3) := by decide +kernel
theorem dX12_anything_41 : decode cX12_anything 41 = .ok (.iload 5, 2) := by decide +kernel
theorem dX12_anything_43 : decode cX12_anything 43 = .ok (.iconst 1, 1) := by decide +kernel
theorem dX12_anything_44 : decode cX12_anything 44 = .ok (.sipush 2000, 3) := by decide +kernel
theorem dX12_anything_47 : decode cX12_anything 47 = .ok (.invokestatic 407, 3) := by decide +kernel
theorem dX12_anything_50 : decode cX12_anything 50 = .ok (.ifCond .ne 5, 3) := by decide +kernel
theorem dX12_anything_53 : decode cX12_anything 53 = .ok (.iconst (-1), 1) := by decide +kernel
theorem dX12_anything_54 : decode cX12_anything 54 = .ok (.ireturn, 1) := by decide +kernel
theorem dX12_anything_55 : decode cX12_anything 55 = .ok (.iconst 0, 1) := by decide +kernel
theorem dX12_anything_56 : decode cX12_anything 56 = .ok (.istore 6, 2) := by decide +kernel
theorem dX12_anything_58 : decode cX12_anything 58 = .ok (.iconst 1, 1) := by decide +kernel
theorem dX12_anything_59 : decode cX12_anything 59 = .ok (.istore 7, 2) := by decide +kernel
theorem dX12_anything_61 : decode cX12_anything 61 = .ok (.iload 7, 2) := by decide +kernel
theorem dX12_anything_63 : decode cX12_anything 63 = .ok (.iload 5, 2) := by decide +kernel
theorem dX12_anything_65 : decode cX12_anything 65 = .ok (.if_icmp .gt 81, 3) := by decide +kernel
theorem dX12_anything_68 : decode cX12_anything 68 = .ok (.iconst 0, 1) := by decide +kernel
theorem dX12_anything_69 : decode cX12_anything 69 = .ok (.istore 8, 2) := by decide +kernel
theorem dX12_anything_71 : decode cX12_anything 71 = .ok (.iconst 1, 1) := by decide +kernel
theorem dX12_anything_72 : decode cX12_anything 72 = .ok (.istore 9, 2) := by decide +kernel
theorem dX12_anything_74 : decode cX12_anything 74 = .ok (.iload 9, 2) := by decide +kernel
theorem dX12_anything_76 : decode cX12_anything 76 = .ok (.iload_n 2, 1) := by decide +kernel
theorem dX12_anything_77 : decode cX12_anything 77 = .ok (.if_icmp .gt 48, 3) := by decide +kernel
theorem dX12_anything_80 : decode cX12_anything 80 = .ok (.iload 8, 2) := by decide +kernel
theorem dX12_anything_82 : decode cX12_anything 82 = .ok (.ifCond .ne 43, 3) := by decide +kernel
theorem dX12_anything_85 : decode cX12_anything 85 = .ok (.iconst 1, 1) := by decide +kernel
theorem dX12_anything_86 : decode cX12_anything 86 = .ok (.istore 10, 2) := by decide +kernel
theorem dX12_anything_88 : decode cX12_anything 88 = .ok (.iload 10, 2) := by decide +kernel
theorem dX12_anything_90 : decode cX12_anything 90 = .ok (.iload_n 3, 1) := by decide +kernel
theorem dX12_anything_91 : decode cX12_anything 91 = .ok (.if_icmp .gt 28, 3) := by decide +kernel
theorem dX12_anything_94 : decode cX12_anything 94 = .ok (.iload 8, 2) := by decide +kernel
theorem dX12_anything_96 : decode cX12_anything 96 = .ok (.ifCond .ne 23, 3) := by decide +kernel
theorem dX12_anything_99 : decode cX12_anything 99 = .ok (.iload_n 1, 1) := by decide +kernel
theorem dX12_anything_100 : decode cX12_anything 100 = .ok (.iload 9, 2) := by decide +kernel
theorem dX12_anything_102 : decode cX12_anything 102 = .ok (.iload 10, 2) := by decide +kernel
theorem dX12_anything_104 : decode cX12_anything 104 = .ok (.iload 7, 2) := by decide +kernel
theorem dX12_anything_106 : decode cX12_anything 106 = .ok (.iload 4, 2) := by decide +kernel
theorem dX12_anything_108 : decode cX12_anything 108 = .ok (.invokestatic 548, 3) := by decide +kernel
theorem dX12_anything_111 : decode cX12_anything 111 = .ok (.istore 8, 2) := by decide +kernel
theorem dX12_anything_113 : decode cX12_anything 113 = .ok (.iinc 10 1, 3) := by decide +kernel
theorem dX12_anything_116 : decode cX12_anything 116 = .ok (.goto (-28), 3) := by decide +kernel
theorem dX12_anything_119 : decode cX12_anything 119 = .ok (.iinc 9 1, 3) := by decide +kernel
theorem dX12_anything_122 : decode cX12_anything 122 = .ok (.goto (-48), 3) := by decide +kernel
theorem dX12_anything_125 : decode cX12_anything 125 = .ok (.iload 6, 2) := by decide +kernel
theorem dX12_anything_127 : decode cX12_anything 127 = .ok (.iload 8, 2) := by decide +kernel
theorem dX12_anything_129 : decode cX12_anything 129 = .ok (.ifCond .eq 7, 3) := by decide +kernel
theorem dX12_anything_132 : decode cX12_anything 132 = .ok (.iconst 1, 1) := by decide +kernel
theorem dX12_anything_133 : decode cX12_anything 133 = .ok (.goto 4, 3) := by decide +kernel
theorem dX12_anything_136 : decode cX12_anything 136 = .ok (.iconst 0, 1) := by decide +kernel
theorem dX12_anything_137 : decode cX12_anything 137 = .ok (.iadd, 1) := by decide +kernel
theorem dX12_anything_138 : decode cX12_anything 138 = .ok (.istore 6, 2) := by decide +kernel
theorem dX12_anything_140 : decode cX12_anything 140 = .ok (.iinc 7 1, 3) := by decide +kernel
theorem dX12_anything_143 : decode cX12_anything 143 = .ok (.goto (-82), 3) := by decide +kernel
theorem dX12_anything_146 : decode cX12_anything 146 = .ok (.iload 6, 2) := by decide +kernel
theorem dX12_anything_148 : decode cX12_anything 148 = .ok (.ireturn, 1) := by decide +kernel
theorem dX12_life_0 : decode cX12_life 0 = .ok (.iload_n 1, 1) := by decide +kernel
theorem dX12_life_1 : decode cX12_life 1 = .ok (.invokestatic 472, 3) := by decide +kernel
theorem dX12_life_4 : decode cX12_life 4 = .ok (.ifCond .eq 34, 3) := by decide +kernel
theorem dX12_life_7 : decode cX12_life 7 = .ok (.iload_n 2, 1) := by decide +kernel
theorem dX12_life_8 : decode cX12_life 8 = .ok (.iconst 1, 1) := by decide +kernel
theorem dX12_life_9 : decode cX12_life 9 = .ok (.bipush 90, 2) := by decide +kernel
theorem dX12_life_11 : decode cX12_life 11 = .ok (.invokestatic 407, 3) := by decide +kernel
theorem dX12_life_14 : decode cX12_life 14 = .ok (.ifCond .eq 24, 3) := by decide +kernel
theorem dX12_life_17 : decode cX12_life 17 = .ok (.iload_n 3, 1) := by decide +kernel
theorem dX12_life_18 : decode cX12_life 18 = .ok (.iconst 2, 1) := by decide +kernel
theorem dX12_life_19 : decode cX12_life 19 = .ok (.bipush 60, 2) := by decide +kernel
theorem dX12_life_21 : decode cX12_life 21 = .ok (.invokestatic 407, 3) := by decide +kernel
theorem dX12_life_24 : decode cX12_life 24 = .ok (.ifCond .eq 14, 3) := by decide +kernel
theorem dX12_life_27 : decode cX12_life 27 = .ok (.iload 4, 2) := by decide +kernel
theorem dX12_life_29 : decode cX12_life 29 = .ok (.ifCond .lt 9, 3) := by decide +kernel
theorem dX12_life_32 : decode cX12_life 32 = .ok (.iload 4, 2) := by decide +kernel
theorem dX12_life_34 : decode cX12_life 34 = .ok (.iload_n 3, 1) := by decide +kernel
theorem dX12_life_35 : decode cX12_life 35 = .ok (.if_icmp .lt 5, 3) := by decide +kernel
theorem dX12_life_38 : decode cX12_life 38 = .ok (.iconst (-1), 1) := by decide +kernel
theorem dX12_life_39 : decode cX12_life 39 = .ok (.ireturn, 1) := by decide +kernel
theorem dX12_life_40 : decode cX12_life 40 = .ok (.iconst 0, 1) := by decide +kernel
theorem dX12_life_41 : decode cX12_life 41 = .ok (.istore 5, 2) := by decide +kernel
theorem dX12_life_43 : decode cX12_life 43 = .ok (.iload_n 1, 1) := by decide +kernel
theorem dX12_life_44 : decode cX12_life 44 = .ok (.istore 6, 2) := by decide +kernel
theorem dX12_life_46 : decode cX12_life 46 = .ok (.iload 6, 2) := by decide +kernel
theorem dX12_life_48 : decode cX12_life 48 = .ok (.iload_n 1, 1) := by decide +kernel
theorem dX12_life_49 : decode cX12_life 49 = .ok (.iload_n 2, 1) := by decide +kernel
theorem dX12_life_50 : decode cX12_life 50 = .ok (.iadd, 1) := by decide +kernel
theorem dX12_life_51 : decode cX12_life 51 = .ok (.if_icmp .ge 28, 3) := by decide +kernel
theorem dX12_life_54 : decode cX12_life 54 = .ok (.iload 5, 2) := by decide +kernel
theorem dX12_life_56 : decode cX12_life 56 = .ok (.iload 6, 2) := by decide +kernel
theorem dX12_life_58 : decode cX12_life 58 = .ok (.iload_n 3, 1) := by decide +kernel
theorem dX12_life_59 : decode cX12_life 59 = .ok (.irem, 1) := by decide +kernel
theorem dX12_life_60 : decode cX12_life 60 = .ok (.iload 4, 2) := by decide +kernel
theorem dX12_life_62 : decode cX12_life 62 = .ok (.if_icmp .ne 7, 3) := by decide +kernel
theorem dX12_life_65 : decode cX12_life 65 = .ok (.iconst 1, 1) := by decide +kernel
theorem dX12_life_66 : decode cX12_life 66 = .ok (.goto 4, 3) := by decide +kernel
theorem dX12_life_69 : decode cX12_life 69 = .ok (.iconst 0, 1) := by decide +kernel
theorem dX12_life_70 : decode cX12_life 70 = .ok (.iadd, 1) := by decide +kernel
theorem dX12_life_71 : decode cX12_life 71 = .ok (.istore 5, 2) := by decide +kernel
theorem dX12_life_73 : decode cX12_life 73 = .ok (.iinc 6 1, 3) := by decide +kernel
theorem dX12_life_76 : decode cX12_life 76 = .ok (.goto (-30), 3) := by decide +kernel
theorem dX12_life_79 : decode cX12_life 79 = .ok (.iload 5, 2) := by decide +kernel
theorem dX12_life_81 : decode cX12_life 81 = .ok (.ireturn, 1) := by decide +kernel
theorem dX12_seen_0 : decode cX12_seen 0 = .ok (.iload_n 1, 1) := by decide +kernel
theorem dX12_seen_1 : decode cX12_seen 1 = .ok (.iconst 0, 1) := by decide +kernel
theorem dX12_seen_2 : decode cX12_seen 2 = .ok (.bipush 12, 2) := by decide +kernel
theorem dX12_seen_4 : decode cX12_seen 4 = .ok (.invokestatic 407, 3) := by decide +kernel
theorem dX12_seen_7 : decode cX12_seen 7 = .ok (.ifCond .eq 45, 3) := by decide +kernel
theorem dX12_seen_10 : decode cX12_seen 10 = .ok (.iload_n 2, 1) := by decide +kernel
theorem dX12_seen_11 : decode cX12_seen 11 = .ok (.iconst 0, 1) := by decide +kernel
theorem dX12_seen_12 : decode cX12_seen 12 = .ok (.bipush 13, 2) := by decide +kernel
theorem dX12_seen_14 : decode cX12_seen 14 = .ok (.invokestatic 407, 3) := by decide +kernel
theorem dX12_seen_17 : decode cX12_seen 17 = .ok (.ifCond .eq 35, 3) := by decide +kernel
theorem dX12_seen_20 : decode cX12_seen 20 = .ok (.iload 4, 2) := by decide +kernel
theorem dX12_seen_22 : decode cX12_seen 22 = .ok (.iconst 1, 1) := by decide +kernel
theorem dX12_seen_23 : decode cX12_seen 23 = .ok (.bipush 9, 2) := by decide +kernel
theorem dX12_seen_25 : decode cX12_seen 25 = .ok (.invokestatic 407, 3) := by decide +kernel
theorem dX12_seen_28 : decode cX12_seen 28 = .ok (.ifCond .eq 24, 3) := by decide +kernel
theorem dX12_seen_31 : decode cX12_seen 31 = .ok (.iload_n 3, 1) := by decide +kernel
theorem dX12_seen_32 : decode cX12_seen 32 = .ok (.iconst 0, 1) := by decide +kernel
theorem dX12_seen_33 : decode cX12_seen 33 = .ok (.iload 4, 2) := by decide +kernel
theorem dX12_seen_35 : decode cX12_seen 35 = .ok (.invokestatic 407, 3) := by decide +kernel
theorem dX12_seen_38 : decode cX12_seen 38 = .ok (.ifCond .eq 14, 3) := by decide +kernel
theorem dX12_seen_41 : decode cX12_seen 41 = .ok (.iload_n 1, 1) := by decide +kernel
theorem dX12_seen_42 : decode cX12_seen 42 = .ok (.iload_n 2, 1) := by decide +kernel
theorem dX12_seen_43 : decode cX12_seen 43 = .ok (.iload_n 3, 1) := by decide +kernel
theorem dX12_seen_44 : decode cX12_seen 44 = .ok (.iload 4, 2) := by decide +kernel
theorem dX12_seen_46 : decode cX12_seen 46 = .ok (.invokestatic 526, 3) := by decide +kernel
theorem dX12_seen_49 : decode cX12_seen 49 = .ok (.goto 6, 3) := by decide +kernel
theorem dX12_seen_52 : decode cX12_seen 52 = .ok (.ldc2_w 530, 3) := by decide +kernel
theorem dX12_seen_55 : decode cX12_seen 55 = .ok (.lreturn, 1) := by decide +kernel
theorem dX12_say_0 : decode cX12_say 0 = .ok (.iload_n 1, 1) := by decide +kernel
theorem dX12_say_1 : decode cX12_say 1 = .ok (.iconst 0, 1) := by decide +kernel
theorem dX12_say_2 : decode cX12_say 2 = .ok (.sipush 195, 3) := by decide +kernel
theorem dX12_say_5 : decode cX12_say 5 = .ok (.invokestatic 407, 3) := by decide +kernel
theorem dX12_say_8 : decode cX12_say 8 = .ok (.ifCond .eq 18, 3) := by decide +kernel
theorem dX12_say_11 : decode cX12_say 11 = .ok (.iload_n 2, 1) := by decide +kernel
theorem dX12_say_12 : decode cX12_say 12 = .ok (.invokestatic 472, 3) := by decide +kernel
theorem dX12_say_15 : decode cX12_say 15 = .ok (.ifCond .eq 11, 3) := by decide +kernel
theorem dX12_say_18 : decode cX12_say 18 = .ok (.aload_n 0, 1) := by decide +kernel
theorem dX12_say_19 : decode cX12_say 19 = .ok (.iload_n 3, 1) := by decide +kernel
theorem dX12_say_20 : decode cX12_say 20 = .ok (.invokevirtual 457, 3) := by decide +kernel
theorem dX12_say_23 : decode cX12_say 23 = .ok (.ifCond .ne 5, 3) := by decide +kernel
theorem dX12_say_26 : decode cX12_say 26 = .ok (.iconst (-1), 1) := by decide +kernel
theorem dX12_say_27 : decode cX12_say 27 = .ok (.ireturn, 1) := by decide +kernel
theorem dX12_say_28 : decode cX12_say 28 = .ok (.aload_n 0, 1) := by decide +kernel
theorem dX12_say_29 : decode cX12_say 29 = .ok (.iload_n 2, 1) := by decide +kernel
theorem dX12_say_30 : decode cX12_say 30 = .ok (.iload_n 3, 1) := by decide +kernel
theorem dX12_say_31 : decode cX12_say 31 = .ok (.invokevirtual 494, 3) := by decide +kernel
theorem dX12_say_34 : decode cX12_say 34 = .ok (.aload_n 0, 1) := by decide +kernel
theorem dX12_say_35 : decode cX12_say 35 = .ok (.getfield 169, 3) := by decide +kernel
theorem dX12_say_38 : decode cX12_say 38 = .ok (.iload_n 1, 1) := by decide +kernel
theorem dX12_say_39 : decode cX12_say 39 = .ok (.baload, 1) := by decide +kernel
theorem dX12_say_40 : decode cX12_say 40 = .ok (.ifCond .ne 5, 3) := by decide +kernel
theorem dX12_say_43 : decode cX12_say 43 = .ok (.iconst 0, 1) := by decide +kernel
theorem dX12_say_44 : decode cX12_say 44 = .ok (.ireturn, 1) := by decide +kernel
theorem dX12_say_45 : decode cX12_say 45 = .ok (.aload_n 0, 1) := by decide +kernel
theorem dX12_say_46 : decode cX12_say 46 = .ok (.getfield 178, 3) := by decide +kernel
theorem dX12_say_49 : decode cX12_say 49 = .ok (.iload_n 1, 1) := by decide +kernel
theorem dX12_say_50 : decode cX12_say 50 = .ok (.baload, 1) := by decide +kernel
theorem dX12_say_51 : decode cX12_say 51 = .ok (.ifCond .ne 5, 3) := by decide +kernel
theorem dX12_say_54 : decode cX12_say 54 = .ok (.iconst 1, 1) := by decide +kernel
theorem dX12_say_55 : decode cX12_say 55 = .ok (.ireturn, 1) := by decide +kernel
theorem dX12_say_56 : decode cX12_say 56 = .ok (.aload_n 0, 1) := by decide +kernel
theorem dX12_say_57 : decode cX12_say 57 = .ok (.aload_n 0, 1) := by decide +kernel
theorem dX12_say_58 : decode cX12_say 58 = .ok (.getfield 172, 3) := by decide +kernel
theorem dX12_say_61 : decode cX12_say 61 = .ok (.iload_n 1, 1) := by decide +kernel
theorem dX12_say_62 : decode cX12_say 62 = .ok (.iaload, 1) := by decide +kernel
theorem dX12_say_63 : decode cX12_say 63 = .ok (.aload_n 0, 1) := by decide +kernel
theorem dX12_say_64 : decode cX12_say 64 = .ok (.getfield 34, 3) := by decide +kernel
theorem dX12_say_67 : decode cX12_say 67 = .ok (.iconst 0, 1) := by decide +kernel
theorem dX12_say_68 : decode cX12_say 68 = .ok (.iaload, 1) := by decide +kernel
theorem dX12_say_69 : decode cX12_say 69 = .ok (.iconst 0, 1) := by decide +kernel
theorem dX12_say_70 : decode cX12_say 70 = .ok (.invokevirtual 484, 3) := by decide +kernel
theorem dX12_say_73 : decode cX12_say 73 = .ok (.ifCond .ne 5, 3) := by decide +kernel
theorem dX12_say_76 : decode cX12_say 76 = .ok (.iconst 2, 1) := by decide +kernel
theorem dX12_say_77 : decode cX12_say 77 = .ok (.ireturn, 1) := by decide +kernel
theorem dX12_say_78 : decode cX12_say 78 = .ok (.aload_n 0, 1) := by decide +kernel
theorem dX12_say_79 : decode cX12_say 79 = .ok (.iconst 1, 1) := by decide +kernel
theorem dX12_say_80 : decode cX12_say 80 = .ok (.aload_n 0, 1) := by decide +kernel
theorem dX12_say_81 : decode cX12_say 81 = .ok (.getfield 76, 3) := by decide +kernel
theorem dX12_say_84 : decode cX12_say 84 = .ok (.iconst 0, 1) := by decide +kernel
theorem dX12_say_85 : decode cX12_say 85 = .ok (.iaload, 1) := by decide +kernel
theorem dX12_say_86 : decode cX12_say 86 = .ok (.ishl, 1) := by decide +kernel
theorem dX12_say_87 : decode cX12_say 87 = .ok (.iconst 1, 1) := by decide +kernel
theorem dX12_say_88 : decode cX12_say 88 = .ok (.isub, 1) := by decide +kernel
theorem dX12_say_89 : decode cX12_say 89 = .ok (.invokevirtual 500, 3) := by decide +kernel
theorem dX12_say_92 : decode cX12_say 92 = .ok (.bipush 18, 2) := by decide +kernel
theorem dX12_say_94 : decode cX12_say 94 = .ok (.if_icmp .le 5, 3) := by decide +kernel
theorem dX12_say_97 : decode cX12_say 97 = .ok (.iconst 3, 1) := by decide +kernel
theorem dX12_say_98 : decode cX12_say 98 = .ok (.ireturn, 1) := by decide +kernel
theorem dX12_say_99 : decode cX12_say 99 = .ok (.aload_n 0, 1) := by decide +kernel
theorem dX12_say_100 : decode cX12_say 100 = .ok (.iload_n 1, 1) := by decide +kernel
theorem dX12_say_101 : decode cX12_say 101 = .ok (.bipush 14, 2) := by decide +kernel
theorem dX12_say_103 : decode cX12_say 103 = .ok (.idiv, 1) := by decide +kernel
theorem dX12_say_104 : decode cX12_say 104 = .ok (.iload_n 1, 1) := by decide +kernel
theorem dX12_say_105 : decode cX12_say 105 = .ok (.bipush 14, 2) := by decide +kernel
theorem dX12_say_107 : decode cX12_say 107 = .ok (.irem, 1) := by decide +kernel
theorem dX12_say_108 : decode cX12_say 108 = .ok (.invokevirtual 444, 3) := by decide +kernel
theorem dX12_say_111 : decode cX12_say 111 = .ok (.ifCond .ne 20, 3) := by decide +kernel
theorem dX12_say_114 : decode cX12_say 114 = .ok (.aload_n 0, 1) := by decide +kernel
theorem dX12_say_115 : decode cX12_say 115 = .ok (.iload_n 1, 1) := by decide +kernel
theorem dX12_say_116 : decode cX12_say 116 = .ok (.bipush 14, 2) := by decide +kernel
theorem dX12_say_118 : decode cX12_say 118 = .ok (.irem, 1) := by decide +kernel
theorem dX12_say_119 : decode cX12_say 119 = .ok (.iload_n 1, 1) := by decide +kernel
theorem dX12_say_120 : decode cX12_say 120 = .ok (.bipush 14, 2) := by decide +kernel
theorem dX12_say_122 : decode cX12_say 122 = .ok (.idiv, 1) := by decide +kernel
theorem dX12_say_123 : decode cX12_say 123 = .ok (.invokevirtual 444, 3) := by decide +kernel
theorem dX12_say_126 : decode cX12_say 126 = .ok (.ifCond .ne 5, 3) := by decide +kernel
theorem dX12_say_129 : decode cX12_say 129 = .ok (.iconst 4, 1) := by decide +kernel
theorem dX12_say_130 : decode cX12_say 130 = .ok (.ireturn, 1) := by decide +kernel
theorem dX12_say_131 : decode cX12_say 131 = .ok (.aload_n 0, 1) := by decide +kernel
theorem dX12_say_132 : decode cX12_say 132 = .ok (.aload_n 0, 1) := by decide +kernel
theorem dX12_say_133 : decode cX12_say 133 = .ok (.getfield 172, 3) := by decide +kernel
theorem dX12_say_136 : decode cX12_say 136 = .ok (.iload_n 1, 1) := by decide +kernel
theorem dX12_say_137 : decode cX12_say 137 = .ok (.iaload, 1) := by decide +kernel
theorem dX12_say_138 : decode cX12_say 138 = .ok (.aload_n 0, 1) := by decide +kernel
theorem dX12_say_139 : decode cX12_say 139 = .ok (.getfield 34, 3) := by decide +kernel
theorem dX12_say_142 : decode cX12_say 142 = .ok (.iconst 0, 1) := by decide +kernel
theorem dX12_say_143 : decode cX12_say 143 = .ok (.iaload, 1) := by decide +kernel
theorem dX12_say_144 : decode cX12_say 144 = .ok (.iconst 1, 1) := by decide +kernel
theorem dX12_say_145 : decode cX12_say 145 = .ok (.invokevirtual 484, 3) := by decide +kernel
theorem dX12_say_148 : decode cX12_say 148 = .ok (.ifCond .ne 7, 3) := by decide +kernel
theorem dX12_say_151 : decode cX12_say 151 = .ok (.iconst 5, 1) := by decide +kernel
theorem dX12_say_152 : decode cX12_say 152 = .ok (.goto 5, 3) := by decide +kernel
theorem dX12_say_155 : decode cX12_say 155 = .ok (.bipush 6, 2) := by decide +kernel
theorem dX12_say_157 : decode cX12_say 157 = .ok (.ireturn, 1) := by decide +kernel
theorem dX12_count_0 : decode cX12_count 0 = .ok (.iload_n 1, 1) := by decide +kernel
theorem dX12_count_1 : decode cX12_count 1 = .ok (.tableswitch 159 0 9 #[55, 62, 69, 76, 83, 90, 97, 104, 109, 114], 55) := by decide +kernel
theorem dX12_count_56 : decode cX12_count 56 = .ok (.aload_n 0, 1) := by decide +kernel
theorem dX12_count_57 : decode cX12_count 57 = .ok (.getfield 37, 3) := by decide +kernel
theorem dX12_count_60 : decode cX12_count 60 = .ok (.iconst 0, 1) := by decide +kernel
theorem dX12_count_61 : decode cX12_count 61 = .ok (.iaload, 1) := by decide +kernel
theorem dX12_count_62 : decode cX12_count 62 = .ok (.ireturn, 1) := by decide +kernel
theorem dX12_count_63 : decode cX12_count 63 = .ok (.aload_n 0, 1) := by decide +kernel
theorem dX12_count_64 : decode cX12_count 64 = .ok (.getfield 55, 3) := by decide +kernel
theorem dX12_count_67 : decode cX12_count 67 = .ok (.iconst 0, 1) := by decide +kernel
theorem dX12_count_68 : decode cX12_count 68 = .ok (.iaload, 1) := by decide +kernel
theorem dX12_count_69 : decode cX12_count 69 = .ok (.ireturn, 1) := by decide +kernel
theorem dX12_count_70 : decode cX12_count 70 = .ok (.aload_n 0, 1) := by decide +kernel
theorem dX12_count_71 : decode cX12_count 71 = .ok (.getfield 64, 3) := by decide +kernel
theorem dX12_count_74 : decode cX12_count 74 = .ok (.iconst 0, 1) := by decide +kernel
theorem dX12_count_75 : decode cX12_count 75 = .ok (.iaload, 1) := by decide +kernel
theorem dX12_count_76 : decode cX12_count 76 = .ok (.ireturn, 1) := by decide +kernel
theorem dX12_count_77 : decode cX12_count 77 = .ok (.aload_n 0, 1) := by decide +kernel
theorem dX12_count_78 : decode cX12_count 78 = .ok (.getfield 76, 3) := by decide +kernel
theorem dX12_count_81 : decode cX12_count 81 = .ok (.iconst 0, 1) := by decide +kernel
theorem dX12_count_82 : decode cX12_count 82 = .ok (.iaload, 1) := by decide +kernel
theorem dX12_count_83 : decode cX12_count 83 = .ok (.ireturn, 1) := by decide +kernel
theorem dX12_count_84 : decode cX12_count 84 = .ok (.aload_n 0, 1) := by decide +kernel
theorem dX12_count_85 : decode cX12_count 85 = .ok (.getfield 88, 3) := by decide +kernel
theorem dX12_count_88 : decode cX12_count 88 = .ok (.iconst 0, 1) := by decide +kernel
theorem dX12_count_89 : decode cX12_count 89 = .ok (.iaload, 1) := by decide +kernel
theorem dX12_count_90 : decode cX12_count 90 = .ok (.ireturn, 1) := by decide +kernel
theorem dX12_count_91 : decode cX12_count 91 = .ok (.aload_n 0, 1) := by decide +kernel
theorem dX12_count_92 : decode cX12_count 92 = .ok (.getfield 34, 3) := by decide +kernel
theorem dX12_count_95 : decode cX12_count 95 = .ok (.iconst 0, 1) := by decide +kernel
theorem dX12_count_96 : decode cX12_count 96 = .ok (.iaload, 1) := by decide +kernel
theorem dX12_count_97 : decode cX12_count 97 = .ok (.ireturn, 1) := by decide +kernel
theorem dX12_count_98 : decode cX12_count 98 = .ok (.aload_n 0, 1) := by decide +kernel
theorem dX12_count_99 : decode cX12_count 99 = .ok (.getfield 127, 3) := by decide +kernel
theorem dX12_count_102 : decode cX12_count 102 = .ok (.iconst 0, 1) := by decide +kernel
theorem dX12_count_103 : decode cX12_count 103 = .ok (.iaload, 1) := by decide +kernel
theorem dX12_count_104 : decode cX12_count 104 = .ok (.ireturn, 1) := by decide +kernel
theorem dX12_count_105 : decode cX12_count 105 = .ok (.aload_n 0, 1) := by decide +kernel
theorem dX12_count_106 : decode cX12_count 106 = .ok (.getfield 513, 3) := by decide +kernel
theorem dX12_count_109 : decode cX12_count 109 = .ok (.ireturn, 1) := by decide +kernel
theorem dX12_count_110 : decode cX12_count 110 = .ok (.aload_n 0, 1) := by decide +kernel
theorem dX12_count_111 : decode cX12_count 111 = .ok (.getfield 222, 3) := by decide +kernel
theorem dX12_count_114 : decode cX12_count 114 = .ok (.ireturn, 1) := by decide +kernel
theorem dX12_count_115 : decode cX12_count 115 = .ok (.aload_n 0, 1) := by decide +kernel
theorem dX12_count_116 : decode cX12_count 116 = .ok (.getfield 30, 3) := by decide +kernel
theorem dX12_count_119 : decode cX12_count 119 = .ok (.iconst 2, 1) := by decide +kernel
theorem dX12_count_120 : decode cX12_count 120 = .ok (.baload, 1) := by decide +kernel
theorem dX12_count_121 : decode cX12_count 121 = .ok (.ifCond .eq 7, 3) := by decide +kernel
theorem dX12_count_124 : decode cX12_count 124 = .ok (.iconst 1, 1) := by decide +kernel
theorem dX12_count_125 : decode cX12_count 125 = .ok (.goto 4, 3) := by decide +kernel
theorem dX12_count_128 : decode cX12_count 128 = .ok (.iconst 0, 1) := by decide +kernel
theorem dX12_count_129 : decode cX12_count 129 = .ok (.aload_n 0, 1) := by decide +kernel
theorem dX12_count_130 : decode cX12_count 130 = .ok (.getfield 30, 3) := by decide +kernel
theorem dX12_count_133 : decode cX12_count 133 = .ok (.iconst 3, 1) := by decide +kernel
theorem dX12_count_134 : decode cX12_count 134 = .ok (.baload, 1) := by decide +kernel
theorem dX12_count_135 : decode cX12_count 135 = .ok (.ifCond .eq 7, 3) := by decide +kernel
theorem dX12_count_138 : decode cX12_count 138 = .ok (.iconst 1, 1) := by decide +kernel
theorem dX12_count_139 : decode cX12_count 139 = .ok (.goto 4, 3) := by decide +kernel
theorem dX12_count_142 : decode cX12_count 142 = .ok (.iconst 0, 1) := by decide +kernel
theorem dX12_count_143 : decode cX12_count 143 = .ok (.iadd, 1) := by decide +kernel
theorem dX12_count_144 : decode cX12_count 144 = .ok (.aload_n 0, 1) := by decide +kernel
theorem dX12_count_145 : decode cX12_count 145 = .ok (.getfield 30, 3) := by decide +kernel
theorem dX12_count_148 : decode cX12_count 148 = .ok (.iconst 4, 1) := by decide +kernel
theorem dX12_count_149 : decode cX12_count 149 = .ok (.baload, 1) := by decide +kernel
theorem dX12_count_150 : decode cX12_count 150 = .ok (.ifCond .eq 7, 3) := by decide +kernel
theorem dX12_count_153 : decode cX12_count 153 = .ok (.iconst 1, 1) := by decide +kernel
theorem dX12_count_154 : decode cX12_count 154 = .ok (.goto 4, 3) := by decide +kernel
theorem dX12_count_157 : decode cX12_count 157 = .ok (.iconst 0, 1) := by decide +kernel
theorem dX12_count_158 : decode cX12_count 158 = .ok (.iadd, 1) := by decide +kernel
theorem dX12_count_159 : decode cX12_count 159 = .ok (.ireturn, 1) := by decide +kernel
theorem dX12_count_160 : decode cX12_count 160 = .ok (.iconst (-1), 1) := by decide +kernel
theorem dX12_count_161 : decode cX12_count 161 = .ok (.ireturn, 1) := by decide +kernel
