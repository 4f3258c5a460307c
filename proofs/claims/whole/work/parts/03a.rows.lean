theorem dX0_init_0 : decode cX0_init 0 = .ok (.aload_n 0, 1) := by decide +kernel
theorem dX0_init_1 : decode cX0_init 1 = .ok (.invokespecial 3, 3) := by decide +kernel
theorem dX0_init_4 : decode cX0_init 4 = .ok (.aload_n 0, 1) := by decide +kernel
theorem dX0_init_5 : decode cX0_init 5 = .ok (.iconst 0, 1) := by decide +kernel
theorem dX0_init_6 : decode cX0_init 6 = .ok (.putfield 9, 3) := by decide +kernel
theorem dX0_init_9 : decode cX0_init 9 = .ok (.aload_n 0, 1) := by decide +kernel
theorem dX0_init_10 : decode cX0_init 10 = .ok (.sipush 400, 3) := by decide +kernel
theorem dX0_init_13 : decode cX0_init 13 = .ok (.newarray .int, 2) := by decide +kernel
theorem dX0_init_15 : decode cX0_init 15 = .ok (.putfield 15, 3) := by decide +kernel
theorem dX0_init_18 : decode cX0_init 18 = .ok (.aload_n 0, 1) := by decide +kernel
theorem dX0_init_19 : decode cX0_init 19 = .ok (.sipush 400, 3) := by decide +kernel
theorem dX0_init_22 : decode cX0_init 22 = .ok (.newarray .int, 2) := by decide +kernel
theorem dX0_init_24 : decode cX0_init 24 = .ok (.putfield 19, 3) := by decide +kernel
theorem dX0_init_27 : decode cX0_init 27 = .ok (.aload_n 0, 1) := by decide +kernel
theorem dX0_init_28 : decode cX0_init 28 = .ok (.bipush 11, 2) := by decide +kernel
theorem dX0_init_30 : decode cX0_init 30 = .ok (.newarray .int, 2) := by decide +kernel
theorem dX0_init_32 : decode cX0_init 32 = .ok (.putfield 22, 3) := by decide +kernel
theorem dX0_init_35 : decode cX0_init 35 = .ok (.aload_n 0, 1) := by decide +kernel
theorem dX0_init_36 : decode cX0_init 36 = .ok (.bipush 11, 2) := by decide +kernel
theorem dX0_init_38 : decode cX0_init 38 = .ok (.newarray .int, 2) := by decide +kernel
theorem dX0_init_40 : decode cX0_init 40 = .ok (.putfield 25, 3) := by decide +kernel
theorem dX0_init_43 : decode cX0_init 43 = .ok (.aload_n 0, 1) := by decide +kernel
theorem dX0_init_44 : decode cX0_init 44 = .ok (.bipush 24, 2) := by decide +kernel
theorem dX0_init_46 : decode cX0_init 46 = .ok (.newarray .int, 2) := by decide +kernel
theorem dX0_init_48 : decode cX0_init 48 = .ok (.putfield 28, 3) := by decide +kernel
theorem dX0_init_51 : decode cX0_init 51 = .ok (.aload_n 0, 1) := by decide +kernel
theorem dX0_init_52 : decode cX0_init 52 = .ok (.iconst 0, 1) := by decide +kernel
theorem dX0_init_53 : decode cX0_init 53 = .ok (.putfield 31, 3) := by decide +kernel
theorem dX0_init_56 : decode cX0_init 56 = .ok (.return_, 1) := by decide +kernel
theorem dX0_forget_0 : decode cX0_forget 0 = .ok (.aload_n 0, 1) := by decide +kernel
theorem dX0_forget_1 : decode cX0_forget 1 = .ok (.iconst 0, 1) := by decide +kernel
theorem dX0_forget_2 : decode cX0_forget 2 = .ok (.putfield 9, 3) := by decide +kernel
theorem dX0_forget_5 : decode cX0_forget 5 = .ok (.return_, 1) := by decide +kernel
theorem dX0_copy_0 : decode cX0_copy 0 = .ok (.aload_n 0, 1) := by decide +kernel
theorem dX0_copy_1 : decode cX0_copy 1 = .ok (.aload_n 1, 1) := by decide +kernel
theorem dX0_copy_2 : decode cX0_copy 2 = .ok (.getfield 9, 3) := by decide +kernel
theorem dX0_copy_5 : decode cX0_copy 5 = .ok (.putfield 9, 3) := by decide +kernel
theorem dX0_copy_8 : decode cX0_copy 8 = .ok (.aload_n 1, 1) := by decide +kernel
theorem dX0_copy_9 : decode cX0_copy 9 = .ok (.getfield 15, 3) := by decide +kernel
theorem dX0_copy_12 : decode cX0_copy 12 = .ok (.iconst 0, 1) := by decide +kernel
theorem dX0_copy_13 : decode cX0_copy 13 = .ok (.aload_n 0, 1) := by decide +kernel
theorem dX0_copy_14 : decode cX0_copy 14 = .ok (.getfield 15, 3) := by decide +kernel
theorem dX0_copy_17 : decode cX0_copy 17 = .ok (.iconst 0, 1) := by decide +kernel
theorem dX0_copy_18 : decode cX0_copy 18 = .ok (.sipush 400, 3) := by decide +kernel
theorem dX0_copy_21 : decode cX0_copy 21 = .ok (.invokestatic 35, 3) := by decide +kernel
theorem dX0_copy_24 : decode cX0_copy 24 = .ok (.aload_n 1, 1) := by decide +kernel
theorem dX0_copy_25 : decode cX0_copy 25 = .ok (.getfield 19, 3) := by decide +kernel
theorem dX0_copy_28 : decode cX0_copy 28 = .ok (.iconst 0, 1) := by decide +kernel
theorem dX0_copy_29 : decode cX0_copy 29 = .ok (.aload_n 0, 1) := by decide +kernel
theorem dX0_copy_30 : decode cX0_copy 30 = .ok (.getfield 19, 3) := by decide +kernel
theorem dX0_copy_33 : decode cX0_copy 33 = .ok (.iconst 0, 1) := by decide +kernel
theorem dX0_copy_34 : decode cX0_copy 34 = .ok (.sipush 400, 3) := by decide +kernel
theorem dX0_copy_37 : decode cX0_copy 37 = .ok (.invokestatic 35, 3) := by decide +kernel
theorem dX0_copy_40 : decode cX0_copy 40 = .ok (.aload_n 1, 1) := by decide +kernel
theorem dX0_copy_41 : decode cX0_copy 41 = .ok (.getfield 22, 3) := by decide +kernel
theorem dX0_copy_44 : decode cX0_copy 44 = .ok (.iconst 0, 1) := by decide +kernel
theorem dX0_copy_45 : decode cX0_copy 45 = .ok (.aload_n 0, 1) := by decide +kernel
theorem dX0_copy_46 : decode cX0_copy 46 = .ok (.getfield 22, 3) := by decide +kernel
theorem dX0_copy_49 : decode cX0_copy 49 = .ok (.iconst 0, 1) := by decide +kernel
theorem dX0_copy_50 : decode cX0_copy 50 = .ok (.bipush 11, 2) := by decide +kernel
theorem dX0_copy_52 : decode cX0_copy 52 = .ok (.invokestatic 35, 3) := by decide +kernel
theorem dX0_copy_55 : decode cX0_copy 55 = .ok (.aload_n 1, 1) := by decide +kernel
theorem dX0_copy_56 : decode cX0_copy 56 = .ok (.getfield 25, 3) := by decide +kernel
theorem dX0_copy_59 : decode cX0_copy 59 = .ok (.iconst 0, 1) := by decide +kernel
theorem dX0_copy_60 : decode cX0_copy 60 = .ok (.aload_n 0, 1) := by decide +kernel
theorem dX0_copy_61 : decode cX0_copy 61 = .ok (.getfield 25, 3) := by decide +kernel
theorem dX0_copy_64 : decode cX0_copy 64 = .ok (.iconst 0, 1) := by decide +kernel
theorem dX0_copy_65 : decode cX0_copy 65 = .ok (.bipush 11, 2) := by decide +kernel
theorem dX0_copy_67 : decode cX0_copy 67 = .ok (.invokestatic 35, 3) := by decide +kernel
theorem dX0_copy_70 : decode cX0_copy 70 = .ok (.return_, 1) := by decide +kernel
theorem dX0_open_0 : decode cX0_open 0 = .ok (.iload_n 1, 1) := by decide +kernel
theorem dX0_open_1 : decode cX0_open 1 = .ok (.ifCond .lt 29, 3) := by decide +kernel
theorem dX0_open_4 : decode cX0_open 4 = .ok (.iload_n 1, 1) := by decide +kernel
theorem dX0_open_5 : decode cX0_open 5 = .ok (.bipush 11, 2) := by decide +kernel
theorem dX0_open_7 : decode cX0_open 7 = .ok (.if_icmp .ge 23, 3) := by decide +kernel
theorem dX0_open_10 : decode cX0_open 10 = .ok (.aload_n 0, 1) := by decide +kernel
theorem dX0_open_11 : decode cX0_open 11 = .ok (.getfield 22, 3) := by decide +kernel
theorem dX0_open_14 : decode cX0_open 14 = .ok (.iload_n 1, 1) := by decide +kernel
theorem dX0_open_15 : decode cX0_open 15 = .ok (.aload_n 0, 1) := by decide +kernel
theorem dX0_open_16 : decode cX0_open 16 = .ok (.getfield 9, 3) := by decide +kernel
theorem dX0_open_19 : decode cX0_open 19 = .ok (.iastore, 1) := by decide +kernel
theorem dX0_open_20 : decode cX0_open 20 = .ok (.aload_n 0, 1) := by decide +kernel
theorem dX0_open_21 : decode cX0_open 21 = .ok (.getfield 25, 3) := by decide +kernel
theorem dX0_open_24 : decode cX0_open 24 = .ok (.iload_n 1, 1) := by decide +kernel
theorem dX0_open_25 : decode cX0_open 25 = .ok (.aload_n 0, 1) := by decide +kernel
theorem dX0_open_26 : decode cX0_open 26 = .ok (.getfield 9, 3) := by decide +kernel
theorem dX0_open_29 : decode cX0_open 29 = .ok (.iastore, 1) := by decide +kernel
theorem dX0_open_30 : decode cX0_open 30 = .ok (.return_, 1) := by decide +kernel
theorem dX0_close_0 : decode cX0_close 0 = .ok (.iload_n 1, 1) := by decide +kernel
theorem dX0_close_1 : decode cX0_close 1 = .ok (.ifCond .lt 19, 3) := by decide +kernel
theorem dX0_close_4 : decode cX0_close 4 = .ok (.iload_n 1, 1) := by decide +kernel
theorem dX0_close_5 : decode cX0_close 5 = .ok (.bipush 11, 2) := by decide +kernel
theorem dX0_close_7 : decode cX0_close 7 = .ok (.if_icmp .ge 13, 3) := by decide +kernel
theorem dX0_close_10 : decode cX0_close 10 = .ok (.aload_n 0, 1) := by decide +kernel
theorem dX0_close_11 : decode cX0_close 11 = .ok (.getfield 25, 3) := by decide +kernel
theorem dX0_close_14 : decode cX0_close 14 = .ok (.iload_n 1, 1) := by decide +kernel
theorem dX0_close_15 : decode cX0_close 15 = .ok (.aload_n 0, 1) := by decide +kernel
theorem dX0_close_16 : decode cX0_close 16 = .ok (.getfield 9, 3) := by decide +kernel
theorem dX0_close_19 : decode cX0_close 19 = .ok (.iastore, 1) := by decide +kernel
theorem dX0_close_20 : decode cX0_close 20 = .ok (.return_, 1) := by decide +kernel
theorem dX0_put_0 : decode cX0_put 0 = .ok (.aload_n 0, 1) := by decide +kernel
theorem dX0_put_1 : decode cX0_put 1 = .ok (.getfield 9, 3) := by decide +kernel
theorem dX0_put_4 : decode cX0_put 4 = .ok (.sipush 400, 3) := by decide +kernel
theorem dX0_put_7 : decode cX0_put 7 = .ok (.if_icmp .ge 33, 3) := by decide +kernel
theorem dX0_put_10 : decode cX0_put 10 = .ok (.aload_n 0, 1) := by decide +kernel
theorem dX0_put_11 : decode cX0_put 11 = .ok (.getfield 15, 3) := by decide +kernel
theorem dX0_put_14 : decode cX0_put 14 = .ok (.aload_n 0, 1) := by decide +kernel
theorem dX0_put_15 : decode cX0_put 15 = .ok (.getfield 9, 3) := by decide +kernel
theorem dX0_put_18 : decode cX0_put 18 = .ok (.iload_n 1, 1) := by decide +kernel
theorem dX0_put_19 : decode cX0_put 19 = .ok (.iastore, 1) := by decide +kernel
theorem dX0_put_20 : decode cX0_put 20 = .ok (.aload_n 0, 1) := by decide +kernel
theorem dX0_put_21 : decode cX0_put 21 = .ok (.getfield 19, 3) := by decide +kernel
theorem dX0_put_24 : decode cX0_put 24 = .ok (.aload_n 0, 1) := by decide +kernel
theorem dX0_put_25 : decode cX0_put 25 = .ok (.getfield 9, 3) := by decide +kernel
theorem dX0_put_28 : decode cX0_put 28 = .ok (.iload_n 2, 1) := by decide +kernel
theorem dX0_put_29 : decode cX0_put 29 = .ok (.iastore, 1) := by decide +kernel
theorem dX0_put_30 : decode cX0_put 30 = .ok (.aload_n 0, 1) := by decide +kernel
theorem dX0_put_31 : decode cX0_put 31 = .ok (.dup, 1) := by decide +kernel
theorem dX0_put_32 : decode cX0_put 32 = .ok (.getfield 9, 3) := by decide +kernel
theorem dX0_put_35 : decode cX0_put 35 = .ok (.iconst 1, 1) := by decide +kernel
theorem dX0_put_36 : decode cX0_put 36 = .ok (.iadd, 1) := by decide +kernel
theorem dX0_put_37 : decode cX0_put 37 = .ok (.putfield 9, 3) := by decide +kernel
theorem dX0_put_40 : decode cX0_put 40 = .ok (.return_, 1) := by decide +kernel
theorem dX0_work_0 : decode cX0_work 0 = .ok (.iconst 0, 1) := by decide +kernel
theorem dX0_work_1 : decode cX0_work 1 = .ok (.istore_n 3, 1) := by decide +kernel
theorem dX0_work_2 : decode cX0_work 2 = .ok (.aload_n 0, 1) := by decide +kernel
theorem dX0_work_3 : decode cX0_work 3 = .ok (.iconst 0, 1) := by decide +kernel
theorem dX0_work_4 : decode cX0_work 4 = .ok (.putfield 31, 3) := by decide +kernel
theorem dX0_work_7 : decode cX0_work 7 = .ok (.iload_n 1, 1) := by decide +kernel
theorem dX0_work_8 : decode cX0_work 8 = .ok (.ifCond .lt 9, 3) := by decide +kernel
theorem dX0_work_11 : decode cX0_work 11 = .ok (.iload_n 1, 1) := by decide +kernel
theorem dX0_work_12 : decode cX0_work 12 = .ok (.bipush 11, 2) := by decide +kernel
theorem dX0_work_14 : decode cX0_work 14 = .ok (.if_icmp .lt 5, 3) := by decide +kernel
theorem dX0_work_17 : decode cX0_work 17 = .ok (.iconst 0, 1) := by decide +kernel
theorem dX0_work_18 : decode cX0_work 18 = .ok (.ireturn, 1) := by decide +kernel
theorem dX0_work_19 : decode cX0_work 19 = .ok (.aload_n 0, 1) := by decide +kernel
theorem dX0_work_20 : decode cX0_work 20 = .ok (.getfield 22, 3) := by decide +kernel
theorem dX0_work_23 : decode cX0_work 23 = .ok (.iload_n 1, 1) := by decide +kernel
theorem dX0_work_24 : decode cX0_work 24 = .ok (.iaload, 1) := by decide +kernel
theorem dX0_work_25 : decode cX0_work 25 = .ok (.istore 4, 2) := by decide +kernel
theorem dX0_work_27 : decode cX0_work 27 = .ok (.iload 4, 2) := by decide +kernel
theorem dX0_work_29 : decode cX0_work 29 = .ok (.aload_n 0, 1) := by decide +kernel
theorem dX0_work_30 : decode cX0_work 30 = .ok (.getfield 25, 3) := by decide +kernel
theorem dX0_work_33 : decode cX0_work 33 = .ok (.iload_n 1, 1) := by decide +kernel
theorem dX0_work_34 : decode cX0_work 34 = .ok (.iaload, 1) := by decide +kernel
theorem dX0_work_35 : decode cX0_work 35 = .ok (.if_icmp .ge 167, 3) := by decide +kernel
theorem dX0_work_38 : decode cX0_work 38 = .ok (.iload 4, 2) := by decide +kernel
theorem dX0_work_40 : decode cX0_work 40 = .ok (.sipush 400, 3) := by decide +kernel
theorem dX0_work_43 : decode cX0_work 43 = .ok (.if_icmp .ge 159, 3) := by decide +kernel
theorem dX0_work_46 : decode cX0_work 46 = .ok (.aload_n 0, 1) := by decide +kernel
theorem dX0_work_47 : decode cX0_work 47 = .ok (.getfield 15, 3) := by decide +kernel
theorem dX0_work_50 : decode cX0_work 50 = .ok (.iload 4, 2) := by decide +kernel
theorem dX0_work_52 : decode cX0_work 52 = .ok (.iaload, 1) := by decide +kernel
theorem dX0_work_53 : decode cX0_work 53 = .ok (.istore 5, 2) := by decide +kernel
theorem dX0_work_55 : decode cX0_work 55 = .ok (.iload 5, 2) := by decide +kernel
theorem dX0_work_57 : decode cX0_work 57 = .ok (.bipush 27, 2) := by decide +kernel
theorem dX0_work_59 : decode cX0_work 59 = .ok (.if_icmp .ne 28, 3) := by decide +kernel
theorem dX0_work_62 : decode cX0_work 62 = .ok (.iload_n 3, 1) := by decide +kernel
theorem dX0_work_63 : decode cX0_work 63 = .ok (.ifCond .le 24, 3) := by decide +kernel
theorem dX0_work_66 : decode cX0_work 66 = .ok (.aload_n 0, 1) := by decide +kernel
theorem dX0_work_67 : decode cX0_work 67 = .ok (.getfield 28, 3) := by decide +kernel
theorem dX0_work_70 : decode cX0_work 70 = .ok (.iload_n 3, 1) := by decide +kernel
theorem dX0_work_71 : decode cX0_work 71 = .ok (.iconst 1, 1) := by decide +kernel
theorem dX0_work_72 : decode cX0_work 72 = .ok (.isub, 1) := by decide +kernel
theorem dX0_work_73 : decode cX0_work 73 = .ok (.iconst 1, 1) := by decide +kernel
theorem dX0_work_74 : decode cX0_work 74 = .ok (.aload_n 0, 1) := by decide +kernel
theorem dX0_work_75 : decode cX0_work 75 = .ok (.getfield 28, 3) := by decide +kernel
theorem dX0_work_78 : decode cX0_work 78 = .ok (.iload_n 3, 1) := by decide +kernel
theorem dX0_work_79 : decode cX0_work 79 = .ok (.iconst 1, 1) := by decide +kernel
theorem dX0_work_80 : decode cX0_work 80 = .ok (.isub, 1) := by decide +kernel
theorem dX0_work_81 : decode cX0_work 81 = .ok (.iaload, 1) := by decide +kernel
theorem dX0_work_82 : decode cX0_work 82 = .ok (.isub, 1) := by decide +kernel
theorem dX0_work_83 : decode cX0_work 83 = .ok (.iastore, 1) := by decide +kernel
theorem dX0_work_84 : decode cX0_work 84 = .ok (.goto 112, 3) := by decide +kernel
theorem dX0_work_87 : decode cX0_work 87 = .ok (.iload 5, 2) := by decide +kernel
theorem dX0_work_89 : decode cX0_work 89 = .ok (.iconst 3, 1) := by decide +kernel
theorem dX0_work_90 : decode cX0_work 90 = .ok (.if_icmp .ne 28, 3) := by decide +kernel
theorem dX0_work_93 : decode cX0_work 93 = .ok (.iload_n 3, 1) := by decide +kernel
theorem dX0_work_94 : decode cX0_work 94 = .ok (.bipush 24, 2) := by decide +kernel
theorem dX0_work_96 : decode cX0_work 96 = .ok (.if_icmp .ge 22, 3) := by decide +kernel
theorem dX0_work_99 : decode cX0_work 99 = .ok (.aload_n 0, 1) := by decide +kernel
theorem dX0_work_100 : decode cX0_work 100 = .ok (.getfield 28, 3) := by decide +kernel
theorem dX0_work_103 : decode cX0_work 103 = .ok (.iload_n 3, 1) := by decide +kernel
theorem dX0_work_104 : decode cX0_work 104 = .ok (.aload_n 0, 1) := by decide +kernel
theorem dX0_work_105 : decode cX0_work 105 = .ok (.getfield 19, 3) := by decide +kernel
theorem dX0_work_108 : decode cX0_work 108 = .ok (.iload 4, 2) := by decide +kernel
theorem dX0_work_110 : decode cX0_work 110 = .ok (.iaload, 1) := by decide +kernel
theorem dX0_work_111 : decode cX0_work 111 = .ok (.iastore, 1) := by decide +kernel
theorem dX0_work_112 : decode cX0_work 112 = .ok (.iinc 3 1, 3) := by decide +kernel
theorem dX0_work_115 : decode cX0_work 115 = .ok (.goto 81, 3) := by decide +kernel
theorem dX0_work_118 : decode cX0_work 118 = .ok (.iload 5, 2) := by decide +kernel
theorem dX0_work_120 : decode cX0_work 120 = .ok (.bipush 28, 2) := by decide +kernel
theorem dX0_work_122 : decode cX0_work 122 = .ok (.if_icmp .lt 38, 3) := by decide +kernel
theorem dX0_work_125 : decode cX0_work 125 = .ok (.iload 5, 2) := by decide +kernel
theorem dX0_work_127 : decode cX0_work 127 = .ok (.bipush 28, 2) := by decide +kernel
theorem dX0_work_129 : decode cX0_work 129 = .ok (.isub, 1) := by decide +kernel
theorem dX0_work_130 : decode cX0_work 130 = .ok (.aload_n 2, 1) := by decide +kernel
theorem dX0_work_131 : decode cX0_work 131 = .ok (.arraylength, 1) := by decide +kernel
theorem dX0_work_132 : decode cX0_work 132 = .ok (.if_icmp .ge 28, 3) := by decide +kernel
theorem dX0_work_135 : decode cX0_work 135 = .ok (.iload_n 3, 1) := by decide +kernel
theorem dX0_work_136 : decode cX0_work 136 = .ok (.bipush 24, 2) := by decide +kernel
theorem dX0_work_138 : decode cX0_work 138 = .ok (.if_icmp .ge 22, 3) := by decide +kernel
theorem dX0_work_141 : decode cX0_work 141 = .ok (.aload_n 0, 1) := by decide +kernel
theorem dX0_work_142 : decode cX0_work 142 = .ok (.getfield 28, 3) := by decide +kernel
theorem dX0_work_145 : decode cX0_work 145 = .ok (.iload_n 3, 1) := by decide +kernel
theorem dX0_work_146 : decode cX0_work 146 = .ok (.aload_n 2, 1) := by decide +kernel
theorem dX0_work_147 : decode cX0_work 147 = .ok (.iload 5, 2) := by decide +kernel
theorem dX0_work_149 : decode cX0_work 149 = .ok (.bipush 28, 2) := by decide +kernel
theorem dX0_work_151 : decode cX0_work 151 = .ok (.isub, 1) := by decide +kernel
theorem dX0_work_152 : decode cX0_work 152 = .ok (.iaload, 1) := by decide +kernel
theorem dX0_work_153 : decode cX0_work 153 = .ok (.iastore, 1) := by decide +kernel
theorem dX0_work_154 : decode cX0_work 154 = .ok (.iinc 3 1, 3) := by decide +kernel
theorem dX0_work_157 : decode cX0_work 157 = .ok (.goto 39, 3) := by decide +kernel
theorem dX0_work_160 : decode cX0_work 160 = .ok (.iload_n 3, 1) := by decide +kernel
theorem dX0_work_161 : decode cX0_work 161 = .ok (.iconst 1, 1) := by decide +kernel
theorem dX0_work_162 : decode cX0_work 162 = .ok (.if_icmp .le 34, 3) := by decide +kernel
theorem dX0_work_165 : decode cX0_work 165 = .ok (.iinc 3 (-1), 3) := by decide +kernel
theorem dX0_work_168 : decode cX0_work 168 = .ok (.aload_n 0, 1) := by decide +kernel
theorem dX0_work_169 : decode cX0_work 169 = .ok (.getfield 28, 3) := by decide +kernel
theorem dX0_work_172 : decode cX0_work 172 = .ok (.iload_n 3, 1) := by decide +kernel
theorem dX0_work_173 : decode cX0_work 173 = .ok (.iconst 1, 1) := by decide +kernel
theorem dX0_work_174 : decode cX0_work 174 = .ok (.isub, 1) := by decide +kernel
theorem dX0_work_175 : decode cX0_work 175 = .ok (.aload_n 0, 1) := by decide +kernel
theorem dX0_work_176 : decode cX0_work 176 = .ok (.iload 5, 2) := by decide +kernel
theorem dX0_work_178 : decode cX0_work 178 = .ok (.aload_n 0, 1) := by decide +kernel
theorem dX0_work_179 : decode cX0_work 179 = .ok (.getfield 28, 3) := by decide +kernel
theorem dX0_work_182 : decode cX0_work 182 = .ok (.iload_n 3, 1) := by decide +kernel
theorem dX0_work_183 : decode cX0_work 183 = .ok (.iconst 1, 1) := by decide +kernel
theorem dX0_work_184 : decode cX0_work 184 = .ok (.isub, 1) := by decide +kernel
theorem dX0_work_185 : decode cX0_work 185 = .ok (.iaload, 1) := by decide +kernel
theorem dX0_work_186 : decode cX0_work 186 = .ok (.aload_n 0, 1) := by decide +kernel
theorem dX0_work_187 : decode cX0_work 187 = .ok (.getfield 28, 3) := by decide +kernel
theorem dX0_work_190 : decode cX0_work 190 = .ok (.iload_n 3, 1) := by decide +kernel
theorem dX0_work_191 : decode cX0_work 191 = .ok (.iaload, 1) := by decide +kernel
theorem dX0_work_192 : decode cX0_work 192 = .ok (.invokevirtual 41, 3) := by decide +kernel
theorem dX0_work_195 : decode cX0_work 195 = .ok (.iastore, 1) := by decide +kernel
theorem dX0_work_196 : decode cX0_work 196 = .ok (.iinc 4 1, 3) := by decide +kernel
theorem dX0_work_199 : decode cX0_work 199 = .ok (.goto (-172), 3) := by decide +kernel
theorem dX0_work_202 : decode cX0_work 202 = .ok (.aload_n 0, 1) := by decide +kernel
theorem dX0_work_203 : decode cX0_work 203 = .ok (.getfield 31, 3) := by decide +kernel
theorem dX0_work_206 : decode cX0_work 206 = .ok (.ifCond .ne 8, 3) := by decide +kernel
theorem dX0_work_209 : decode cX0_work 209 = .ok (.iload_n 3, 1) := by decide +kernel
theorem dX0_work_210 : decode cX0_work 210 = .ok (.iconst 1, 1) := by decide +kernel
theorem dX0_work_211 : decode cX0_work 211 = .ok (.if_icmp .ge 7, 3) := by decide +kernel
theorem dX0_work_214 : decode cX0_work 214 = .ok (.iconst 0, 1) := by decide +kernel
theorem dX0_work_215 : decode cX0_work 215 = .ok (.goto 11, 3) := by decide +kernel
theorem dX0_work_218 : decode cX0_work 218 = .ok (.aload_n 0, 1) := by decide +kernel
theorem dX0_work_219 : decode cX0_work 219 = .ok (.getfield 28, 3) := by decide +kernel
theorem dX0_work_222 : decode cX0_work 222 = .ok (.iload_n 3, 1) := by decide +kernel
theorem dX0_work_223 : decode cX0_work 223 = .ok (.iconst 1, 1) := by decide +kernel
theorem dX0_work_224 : decode cX0_work 224 = .ok (.isub, 1) := by decide +kernel
theorem dX0_work_225 : decode cX0_work 225 = .ok (.iaload, 1) := by decide +kernel
theorem dX0_work_226 : decode cX0_work 226 = .ok (.ireturn, 1) := by decide +kernel
theorem dX0_joined_0 : decode cX0_joined 0 = .ok (.iload_n 1, 1) := by decide +kernel
theorem dX0_joined_1 : decode cX0_joined 1 = .ok (.lookupswitch 94 #[(6, 59), (7, 63), (8, 67), (9, 79), (25, 75), (26, 71)], 59) := by decide +kernel
theorem dX0_joined_60 : decode cX0_joined 60 = .ok (.iload_n 2, 1) := by decide +kernel
theorem dX0_joined_61 : decode cX0_joined 61 = .ok (.iload_n 3, 1) := by decide +kernel
theorem dX0_joined_62 : decode cX0_joined 62 = .ok (.iadd, 1) := by decide +kernel
theorem dX0_joined_63 : decode cX0_joined 63 = .ok (.ireturn, 1) := by decide +kernel
theorem dX0_joined_64 : decode cX0_joined 64 = .ok (.iload_n 2, 1) := by decide +kernel
theorem dX0_joined_65 : decode cX0_joined 65 = .ok (.iload_n 3, 1) := by decide +kernel
theorem dX0_joined_66 : decode cX0_joined 66 = .ok (.isub, 1) := by decide +kernel
theorem dX0_joined_67 : decode cX0_joined 67 = .ok (.ireturn, 1) := by decide +kernel
theorem dX0_joined_68 : decode cX0_joined 68 = .ok (.iload_n 2, 1) := by decide +kernel
theorem dX0_joined_69 : decode cX0_joined 69 = .ok (.iload_n 3, 1) := by decide +kernel
theorem dX0_joined_70 : decode cX0_joined 70 = .ok (.imul, 1) := by decide +kernel
theorem dX0_joined_71 : decode cX0_joined 71 = .ok (.ireturn, 1) := by decide +kernel
theorem dX0_joined_72 : decode cX0_joined 72 = .ok (.iload_n 2, 1) := by decide +kernel
theorem dX0_joined_73 : decode cX0_joined 73 = .ok (.iload_n 3, 1) := by decide +kernel
theorem dX0_joined_74 : decode cX0_joined 74 = .ok (.iand, 1) := by decide +kernel
theorem dX0_joined_75 : decode cX0_joined 75 = .ok (.ireturn, 1) := by decide +kernel
theorem dX0_joined_76 : decode cX0_joined 76 = .ok (.iload_n 2, 1) := by decide +kernel
theorem dX0_joined_77 : decode cX0_joined 77 = .ok (.iload_n 3, 1) := by decide +kernel
theorem dX0_joined_78 : decode cX0_joined 78 = .ok (.ior, 1) := by decide +kernel
theorem dX0_joined_79 : decode cX0_joined 79 = .ok (.ireturn, 1) := by decide +kernel
theorem dX0_joined_80 : decode cX0_joined 80 = .ok (.iload_n 3, 1) := by decide +kernel
theorem dX0_joined_81 : decode cX0_joined 81 = .ok (.ifCond .ne 10, 3) := by decide +kernel
theorem dX0_joined_84 : decode cX0_joined 84 = .ok (.aload_n 0, 1) := by decide +kernel
theorem dX0_joined_85 : decode cX0_joined 85 = .ok (.iconst 1, 1) := by decide +kernel
theorem dX0_joined_86 : decode cX0_joined 86 = .ok (.putfield 31, 3) := by decide +kernel
theorem dX0_joined_89 : decode cX0_joined 89 = .ok (.iconst 0, 1) := by decide +kernel
theorem dX0_joined_90 : decode cX0_joined 90 = .ok (.ireturn, 1) := by decide +kernel
theorem dX0_joined_91 : decode cX0_joined 91 = .ok (.iload_n 2, 1) := by decide +kernel
theorem dX0_joined_92 : decode cX0_joined 92 = .ok (.iload_n 3, 1) := by decide +kernel
theorem dX0_joined_93 : decode cX0_joined 93 = .ok (.idiv, 1) := by decide +kernel
theorem dX0_joined_94 : decode cX0_joined 94 = .ok (.ireturn, 1) := by decide +kernel
theorem dX0_joined_95 : decode cX0_joined 95 = .ok (.aload_n 0, 1) := by decide +kernel
theorem dX0_joined_96 : decode cX0_joined 96 = .ok (.iload_n 1, 1) := by decide +kernel
theorem dX0_joined_97 : decode cX0_joined 97 = .ok (.iload_n 2, 1) := by decide +kernel
theorem dX0_joined_98 : decode cX0_joined 98 = .ok (.iload_n 3, 1) := by decide +kernel
theorem dX0_joined_99 : decode cX0_joined 99 = .ok (.invokevirtual 45, 3) := by decide +kernel
theorem dX0_joined_102 : decode cX0_joined 102 = .ok (.ireturn, 1) := by decide +kernel
theorem dX0_compared_0 : decode cX0_compared 0 = .ok (.iconst 0, 1) := by decide +kernel
theorem dX0_compared_1 : decode cX0_compared 1 = .ok (.istore 4, 2) := by decide +kernel
theorem dX0_compared_3 : decode cX0_compared 3 = .ok (.iload_n 1, 1) := by decide +kernel
theorem dX0_compared_4 : decode cX0_compared 4 = .ok (.tableswitch 92 10 13 #[32, 47, 62, 77], 32) := by decide +kernel
theorem dX0_compared_36 : decode cX0_compared 36 = .ok (.iload_n 2, 1) := by decide +kernel
theorem dX0_compared_37 : decode cX0_compared 37 = .ok (.iload_n 3, 1) := by decide +kernel
theorem dX0_compared_38 : decode cX0_compared 38 = .ok (.if_icmp .ne 7, 3) := by decide +kernel
theorem dX0_compared_41 : decode cX0_compared 41 = .ok (.iconst 1, 1) := by decide +kernel
theorem dX0_compared_42 : decode cX0_compared 42 = .ok (.goto 4, 3) := by decide +kernel
theorem dX0_compared_45 : decode cX0_compared 45 = .ok (.iconst 0, 1) := by decide +kernel
theorem dX0_compared_46 : decode cX0_compared 46 = .ok (.istore 4, 2) := by decide +kernel
theorem dX0_compared_48 : decode cX0_compared 48 = .ok (.goto 48, 3) := by decide +kernel
theorem dX0_compared_51 : decode cX0_compared 51 = .ok (.iload_n 2, 1) := by decide +kernel
theorem dX0_compared_52 : decode cX0_compared 52 = .ok (.iload_n 3, 1) := by decide +kernel
theorem dX0_compared_53 : decode cX0_compared 53 = .ok (.if_icmp .eq 7, 3) := by decide +kernel
theorem dX0_compared_56 : decode cX0_compared 56 = .ok (.iconst 1, 1) := by decide +kernel
theorem dX0_compared_57 : decode cX0_compared 57 = .ok (.goto 4, 3) := by decide +kernel
theorem dX0_compared_60 : decode cX0_compared 60 = .ok (.iconst 0, 1) := by decide +kernel
theorem dX0_compared_61 : decode cX0_compared 61 = .ok (.istore 4, 2) := by decide +kernel
theorem dX0_compared_63 : decode cX0_compared 63 = .ok (.goto 33, 3) := by decide +kernel
theorem dX0_compared_66 : decode cX0_compared 66 = .ok (.iload_n 2, 1) := by decide +kernel
theorem dX0_compared_67 : decode cX0_compared 67 = .ok (.iload_n 3, 1) := by decide +kernel
theorem dX0_compared_68 : decode cX0_compared 68 = .ok (.if_icmp .ge 7, 3) := by decide +kernel
theorem dX0_compared_71 : decode cX0_compared 71 = .ok (.iconst 1, 1) := by decide +kernel
theorem dX0_compared_72 : decode cX0_compared 72 = .ok (.goto 4, 3) := by decide +kernel
theorem dX0_compared_75 : decode cX0_compared 75 = .ok (.iconst 0, 1) := by decide +kernel
theorem dX0_compared_76 : decode cX0_compared 76 = .ok (.istore 4, 2) := by decide +kernel
theorem dX0_compared_78 : decode cX0_compared 78 = .ok (.goto 18, 3) := by decide +kernel
theorem dX0_compared_81 : decode cX0_compared 81 = .ok (.iload_n 2, 1) := by decide +kernel
theorem dX0_compared_82 : decode cX0_compared 82 = .ok (.iload_n 3, 1) := by decide +kernel
theorem dX0_compared_83 : decode cX0_compared 83 = .ok (.if_icmp .gt 7, 3) := by decide +kernel
theorem dX0_compared_86 : decode cX0_compared 86 = .ok (.iconst 1, 1) := by decide +kernel
theorem dX0_compared_87 : decode cX0_compared 87 = .ok (.goto 4, 3) := by decide +kernel
theorem dX0_compared_90 : decode cX0_compared 90 = .ok (.iconst 0, 1) := by decide +kernel
theorem dX0_compared_91 : decode cX0_compared 91 = .ok (.istore 4, 2) := by decide +kernel
theorem dX0_compared_93 : decode cX0_compared 93 = .ok (.goto 3, 3) := by decide +kernel
theorem dX0_compared_96 : decode cX0_compared 96 = .ok (.iload 4, 2) := by decide +kernel
theorem dX0_compared_98 : decode cX0_compared 98 = .ok (.ifCond .eq 14, 3) := by decide +kernel
theorem dX0_compared_101 : decode cX0_compared 101 = .ok (.aload_n 0, 1) := by decide +kernel
theorem dX0_compared_102 : decode cX0_compared 102 = .ok (.getfield 31, 3) := by decide +kernel
theorem dX0_compared_105 : decode cX0_compared 105 = .ok (.ifCond .ne 7, 3) := by decide +kernel
theorem dX0_compared_108 : decode cX0_compared 108 = .ok (.iconst 1, 1) := by decide +kernel
theorem dX0_compared_109 : decode cX0_compared 109 = .ok (.goto 4, 3) := by decide +kernel
theorem dX0_compared_112 : decode cX0_compared 112 = .ok (.iconst 0, 1) := by decide +kernel
theorem dX0_compared_113 : decode cX0_compared 113 = .ok (.istore 4, 2) := by decide +kernel
theorem dX0_compared_115 : decode cX0_compared 115 = .ok (.aload_n 0, 1) := by decide +kernel
theorem dX0_compared_116 : decode cX0_compared 116 = .ok (.iconst 0, 1) := by decide +kernel
theorem dX0_compared_117 : decode cX0_compared 117 = .ok (.putfield 31, 3) := by decide +kernel
theorem dX0_compared_120 : decode cX0_compared 120 = .ok (.iload 4, 2) := by decide +kernel
theorem dX0_compared_122 : decode cX0_compared 122 = .ok (.ifCond .eq 7, 3) := by decide +kernel
theorem dX0_compared_125 : decode cX0_compared 125 = .ok (.iconst 1, 1) := by decide +kernel
theorem dX0_compared_126 : decode cX0_compared 126 = .ok (.goto 4, 3) := by decide +kernel
theorem dX0_compared_129 : decode cX0_compared 129 = .ok (.iconst 0, 1) := by decide +kernel
theorem dX0_compared_130 : decode cX0_compared 130 = .ok (.ireturn, 1) := by decide +kernel
theorem dX1_bearing_0 : decode cX1_bearing 0 = .ok (.iload_n 0, 1) := by decide +kernel
theorem dX1_bearing_1 : decode cX1_bearing 1 = .ok (.invokestatic 9, 3) := by decide +kernel
theorem dX1_bearing_4 : decode cX1_bearing 4 = .ok (.istore_n 2, 1) := by decide +kernel
theorem dX1_bearing_5 : decode cX1_bearing 5 = .ok (.iload_n 1, 1) := by decide +kernel
theorem dX1_bearing_6 : decode cX1_bearing 6 = .ok (.invokestatic 9, 3) := by decide +kernel
theorem dX1_bearing_9 : decode cX1_bearing 9 = .ok (.istore_n 3, 1) := by decide +kernel
theorem dX1_bearing_10 : decode cX1_bearing 10 = .ok (.iload_n 2, 1) := by decide +kernel
theorem dX1_bearing_11 : decode cX1_bearing 11 = .ok (.iload_n 3, 1) := by decide +kernel
theorem dX1_bearing_12 : decode cX1_bearing 12 = .ok (.invokestatic 15, 3) := by decide +kernel
theorem dX1_bearing_15 : decode cX1_bearing 15 = .ok (.istore 4, 2) := by decide +kernel
theorem dX1_bearing_17 : decode cX1_bearing 17 = .ok (.iload 4, 2) := by decide +kernel
theorem dX1_bearing_19 : decode cX1_bearing 19 = .ok (.ifCond .ne 5, 3) := by decide +kernel
theorem dX1_bearing_22 : decode cX1_bearing 22 = .ok (.iconst (-1), 1) := by decide +kernel
theorem dX1_bearing_23 : decode cX1_bearing 23 = .ok (.ireturn, 1) := by decide +kernel
theorem dX1_bearing_24 : decode cX1_bearing 24 = .ok (.bipush 45, 2) := by decide +kernel
theorem dX1_bearing_26 : decode cX1_bearing 26 = .ok (.iload_n 2, 1) := by decide +kernel
theorem dX1_bearing_27 : decode cX1_bearing 27 = .ok (.iload_n 3, 1) := by decide +kernel
theorem dX1_bearing_28 : decode cX1_bearing 28 = .ok (.invokestatic 19, 3) := by decide +kernel
theorem dX1_bearing_31 : decode cX1_bearing 31 = .ok (.imul, 1) := by decide +kernel
theorem dX1_bearing_32 : decode cX1_bearing 32 = .ok (.iload 4, 2) := by decide +kernel
theorem dX1_bearing_34 : decode cX1_bearing 34 = .ok (.idiv, 1) := by decide +kernel
theorem dX1_bearing_35 : decode cX1_bearing 35 = .ok (.istore 5, 2) := by decide +kernel
theorem dX1_bearing_37 : decode cX1_bearing 37 = .ok (.iload_n 0, 1) := by decide +kernel
theorem dX1_bearing_38 : decode cX1_bearing 38 = .ok (.ifCond .lt 23, 3) := by decide +kernel
theorem dX1_bearing_41 : decode cX1_bearing 41 = .ok (.iload_n 1, 1) := by decide +kernel
theorem dX1_bearing_42 : decode cX1_bearing 42 = .ok (.ifCond .le 19, 3) := by decide +kernel
theorem dX1_bearing_45 : decode cX1_bearing 45 = .ok (.iload_n 2, 1) := by decide +kernel
theorem dX1_bearing_46 : decode cX1_bearing 46 = .ok (.iload_n 3, 1) := by decide +kernel
theorem dX1_bearing_47 : decode cX1_bearing 47 = .ok (.if_icmp .gt 8, 3) := by decide +kernel
theorem dX1_bearing_50 : decode cX1_bearing 50 = .ok (.iload 5, 2) := by decide +kernel
theorem dX1_bearing_52 : decode cX1_bearing 52 = .ok (.goto 8, 3) := by decide +kernel
theorem dX1_bearing_55 : decode cX1_bearing 55 = .ok (.bipush 90, 2) := by decide +kernel
theorem dX1_bearing_57 : decode cX1_bearing 57 = .ok (.iload 5, 2) := by decide +kernel
theorem dX1_bearing_59 : decode cX1_bearing 59 = .ok (.isub, 1) := by decide +kernel
theorem dX1_bearing_60 : decode cX1_bearing 60 = .ok (.ireturn, 1) := by decide +kernel
theorem dX1_bearing_61 : decode cX1_bearing 61 = .ok (.iload_n 0, 1) := by decide +kernel
theorem dX1_bearing_62 : decode cX1_bearing 62 = .ok (.ifCond .le 23, 3) := by decide +kernel
theorem dX1_bearing_65 : decode cX1_bearing 65 = .ok (.iload_n 3, 1) := by decide +kernel
theorem dX1_bearing_66 : decode cX1_bearing 66 = .ok (.iload_n 2, 1) := by decide +kernel
theorem dX1_bearing_67 : decode cX1_bearing 67 = .ok (.if_icmp .gt 11, 3) := by decide +kernel
theorem dX1_bearing_70 : decode cX1_bearing 70 = .ok (.bipush 90, 2) := by decide +kernel
theorem dX1_bearing_72 : decode cX1_bearing 72 = .ok (.iload 5, 2) := by decide +kernel
theorem dX1_bearing_74 : decode cX1_bearing 74 = .ok (.iadd, 1) := by decide +kernel
theorem dX1_bearing_75 : decode cX1_bearing 75 = .ok (.goto 9, 3) := by decide +kernel
theorem dX1_bearing_78 : decode cX1_bearing 78 = .ok (.sipush 180, 3) := by decide +kernel
theorem dX1_bearing_81 : decode cX1_bearing 81 = .ok (.iload 5, 2) := by decide +kernel
theorem dX1_bearing_83 : decode cX1_bearing 83 = .ok (.isub, 1) := by decide +kernel
theorem dX1_bearing_84 : decode cX1_bearing 84 = .ok (.ireturn, 1) := by decide +kernel
theorem dX1_bearing_85 : decode cX1_bearing 85 = .ok (.iload_n 1, 1) := by decide +kernel
theorem dX1_bearing_86 : decode cX1_bearing 86 = .ok (.ifCond .ge 24, 3) := by decide +kernel
theorem dX1_bearing_89 : decode cX1_bearing 89 = .ok (.iload_n 2, 1) := by decide +kernel
theorem dX1_bearing_90 : decode cX1_bearing 90 = .ok (.iload_n 3, 1) := by decide +kernel
theorem dX1_bearing_91 : decode cX1_bearing 91 = .ok (.if_icmp .gt 12, 3) := by decide +kernel
theorem dX1_bearing_94 : decode cX1_bearing 94 = .ok (.sipush 180, 3) := by decide +kernel
theorem dX1_bearing_97 : decode cX1_bearing 97 = .ok (.iload 5, 2) := by decide +kernel
theorem dX1_bearing_99 : decode cX1_bearing 99 = .ok (.iadd, 1) := by decide +kernel
theorem dX1_bearing_100 : decode cX1_bearing 100 = .ok (.goto 9, 3) := by decide +kernel
theorem dX1_bearing_103 : decode cX1_bearing 103 = .ok (.sipush 270, 3) := by decide +kernel
theorem dX1_bearing_106 : decode cX1_bearing 106 = .ok (.iload 5, 2) := by decide +kernel
theorem dX1_bearing_108 : decode cX1_bearing 108 = .ok (.isub, 1) := by decide +kernel
theorem dX1_bearing_109 : decode cX1_bearing 109 = .ok (.ireturn, 1) := by decide +kernel
theorem dX1_bearing_110 : decode cX1_bearing 110 = .ok (.iload_n 3, 1) := by decide +kernel
theorem dX1_bearing_111 : decode cX1_bearing 111 = .ok (.iload_n 2, 1) := by decide +kernel
theorem dX1_bearing_112 : decode cX1_bearing 112 = .ok (.if_icmp .gt 12, 3) := by decide +kernel
theorem dX1_bearing_115 : decode cX1_bearing 115 = .ok (.sipush 270, 3) := by decide +kernel
theorem dX1_bearing_118 : decode cX1_bearing 118 = .ok (.iload 5, 2) := by decide +kernel
theorem dX1_bearing_120 : decode cX1_bearing 120 = .ok (.iadd, 1) := by decide +kernel
theorem dX1_bearing_121 : decode cX1_bearing 121 = .ok (.goto 13, 3) := by decide +kernel
theorem dX1_bearing_124 : decode cX1_bearing 124 = .ok (.sipush 360, 3) := by decide +kernel
theorem dX1_bearing_127 : decode cX1_bearing 127 = .ok (.iload 5, 2) := by decide +kernel
theorem dX1_bearing_129 : decode cX1_bearing 129 = .ok (.isub, 1) := by decide +kernel
theorem dX1_bearing_130 : decode cX1_bearing 130 = .ok (.sipush 360, 3) := by decide +kernel
theorem dX1_bearing_133 : decode cX1_bearing 133 = .ok (.irem, 1) := by decide +kernel
theorem dX1_bearing_134 : decode cX1_bearing 134 = .ok (.ireturn, 1) := by decide +kernel
theorem dX1_eastward_0 : decode cX1_eastward 0 = .ok (.iload_n 0, 1) := by decide +kernel
theorem dX1_eastward_1 : decode cX1_eastward 1 = .ok (.bipush 45, 2) := by decide +kernel
theorem dX1_eastward_3 : decode cX1_eastward 3 = .ok (.if_icmp .gt 5, 3) := by decide +kernel
theorem dX1_eastward_6 : decode cX1_eastward 6 = .ok (.iload_n 0, 1) := by decide +kernel
theorem dX1_eastward_7 : decode cX1_eastward 7 = .ok (.ireturn, 1) := by decide +kernel
theorem dX1_eastward_8 : decode cX1_eastward 8 = .ok (.iload_n 0, 1) := by decide +kernel
theorem dX1_eastward_9 : decode cX1_eastward 9 = .ok (.sipush 135, 3) := by decide +kernel
theorem dX1_eastward_12 : decode cX1_eastward 12 = .ok (.if_icmp .gt 6, 3) := by decide +kernel
theorem dX1_eastward_15 : decode cX1_eastward 15 = .ok (.bipush 45, 2) := by decide +kernel
theorem dX1_eastward_17 : decode cX1_eastward 17 = .ok (.ireturn, 1) := by decide +kernel
theorem dX1_eastward_18 : decode cX1_eastward 18 = .ok (.iload_n 0, 1) := by decide +kernel
theorem dX1_eastward_19 : decode cX1_eastward 19 = .ok (.sipush 225, 3) := by decide +kernel
theorem dX1_eastward_22 : decode cX1_eastward 22 = .ok (.if_icmp .gt 9, 3) := by decide +kernel
theorem dX1_eastward_25 : decode cX1_eastward 25 = .ok (.sipush 180, 3) := by decide +kernel
theorem dX1_eastward_28 : decode cX1_eastward 28 = .ok (.iload_n 0, 1) := by decide +kernel
theorem dX1_eastward_29 : decode cX1_eastward 29 = .ok (.isub, 1) := by decide +kernel
theorem dX1_eastward_30 : decode cX1_eastward 30 = .ok (.ireturn, 1) := by decide +kernel
theorem dX1_eastward_31 : decode cX1_eastward 31 = .ok (.iload_n 0, 1) := by decide +kernel
theorem dX1_eastward_32 : decode cX1_eastward 32 = .ok (.sipush 315, 3) := by decide +kernel
theorem dX1_eastward_35 : decode cX1_eastward 35 = .ok (.if_icmp .gt 8, 3) := by decide +kernel
theorem dX1_eastward_38 : decode cX1_eastward 38 = .ok (.bipush (-45), 2) := by decide +kernel
theorem dX1_eastward_40 : decode cX1_eastward 40 = .ok (.goto 8, 3) := by decide +kernel
theorem dX1_eastward_43 : decode cX1_eastward 43 = .ok (.iload_n 0, 1) := by decide +kernel
theorem dX1_eastward_44 : decode cX1_eastward 44 = .ok (.sipush 360, 3) := by decide +kernel
theorem dX1_eastward_47 : decode cX1_eastward 47 = .ok (.isub, 1) := by decide +kernel
theorem dX1_eastward_48 : decode cX1_eastward 48 = .ok (.ireturn, 1) := by decide +kernel
theorem dX1_northward_0 : decode cX1_northward 0 = .ok (.iload_n 0, 1) := by decide +kernel
theorem dX1_northward_1 : decode cX1_northward 1 = .ok (.bipush 45, 2) := by decide +kernel
theorem dX1_northward_3 : decode cX1_northward 3 = .ok (.if_icmp .gt 6, 3) := by decide +kernel
theorem dX1_northward_6 : decode cX1_northward 6 = .ok (.bipush 45, 2) := by decide +kernel
theorem dX1_northward_8 : decode cX1_northward 8 = .ok (.ireturn, 1) := by decide +kernel
theorem dX1_northward_9 : decode cX1_northward 9 = .ok (.iload_n 0, 1) := by decide +kernel
theorem dX1_northward_10 : decode cX1_northward 10 = .ok (.sipush 135, 3) := by decide +kernel
theorem dX1_northward_13 : decode cX1_northward 13 = .ok (.if_icmp .gt 8, 3) := by decide +kernel
theorem dX1_northward_16 : decode cX1_northward 16 = .ok (.bipush 90, 2) := by decide +kernel
theorem dX1_northward_18 : decode cX1_northward 18 = .ok (.iload_n 0, 1) := by decide +kernel
theorem dX1_northward_19 : decode cX1_northward 19 = .ok (.isub, 1) := by decide +kernel
theorem dX1_northward_20 : decode cX1_northward 20 = .ok (.ireturn, 1) := by decide +kernel
theorem dX1_northward_21 : decode cX1_northward 21 = .ok (.iload_n 0, 1) := by decide +kernel
theorem dX1_northward_22 : decode cX1_northward 22 = .ok (.sipush 225, 3) := by decide +kernel
theorem dX1_northward_25 : decode cX1_northward 25 = .ok (.if_icmp .gt 6, 3) := by decide +kernel
theorem dX1_northward_28 : decode cX1_northward 28 = .ok (.bipush (-45), 2) := by decide +kernel
theorem dX1_northward_30 : decode cX1_northward 30 = .ok (.ireturn, 1) := by decide +kernel
theorem dX1_northward_31 : decode cX1_northward 31 = .ok (.iload_n 0, 1) := by decide +kernel
theorem dX1_northward_32 : decode cX1_northward 32 = .ok (.sipush 315, 3) := by decide +kernel
theorem dX1_northward_35 : decode cX1_northward 35 = .ok (.if_icmp .gt 11, 3) := by decide +kernel
theorem dX1_northward_38 : decode cX1_northward 38 = .ok (.iload_n 0, 1) := by decide +kernel
theorem dX1_northward_39 : decode cX1_northward 39 = .ok (.sipush 270, 3) := by decide +kernel
theorem dX1_northward_42 : decode cX1_northward 42 = .ok (.isub, 1) := by decide +kernel
theorem dX1_northward_43 : decode cX1_northward 43 = .ok (.goto 5, 3) := by decide +kernel
theorem dX1_northward_46 : decode cX1_northward 46 = .ok (.bipush 45, 2) := by decide +kernel
theorem dX1_northward_48 : decode cX1_northward 48 = .ok (.ireturn, 1) := by decide +kernel
theorem dX1_apart_0 : decode cX1_apart 0 = .ok (.iload_n 0, 1) := by decide +kernel
theorem dX1_apart_1 : decode cX1_apart 1 = .ok (.iload_n 1, 1) := by decide +kernel
theorem dX1_apart_2 : decode cX1_apart 2 = .ok (.isub, 1) := by decide +kernel
theorem dX1_apart_3 : decode cX1_apart 3 = .ok (.invokestatic 9, 3) := by decide +kernel
theorem dX1_apart_6 : decode cX1_apart 6 = .ok (.istore_n 2, 1) := by decide +kernel
theorem dX1_apart_7 : decode cX1_apart 7 = .ok (.iload_n 2, 1) := by decide +kernel
theorem dX1_apart_8 : decode cX1_apart 8 = .ok (.sipush 360, 3) := by decide +kernel
theorem dX1_apart_11 : decode cX1_apart 11 = .ok (.iload_n 2, 1) := by decide +kernel
theorem dX1_apart_12 : decode cX1_apart 12 = .ok (.isub, 1) := by decide +kernel
theorem dX1_apart_13 : decode cX1_apart 13 = .ok (.invokestatic 19, 3) := by decide +kernel
theorem dX1_apart_16 : decode cX1_apart 16 = .ok (.ireturn, 1) := by decide +kernel
theorem dX1_turned_0 : decode cX1_turned 0 = .ok (.iload_n 0, 1) := by decide +kernel
theorem dX1_turned_1 : decode cX1_turned 1 = .ok (.iload_n 1, 1) := by decide +kernel
theorem dX1_turned_2 : decode cX1_turned 2 = .ok (.iadd, 1) := by decide +kernel
theorem dX1_turned_3 : decode cX1_turned 3 = .ok (.istore_n 2, 1) := by decide +kernel
theorem dX1_turned_4 : decode cX1_turned 4 = .ok (.iload_n 2, 1) := by decide +kernel
theorem dX1_turned_5 : decode cX1_turned 5 = .ok (.sipush 360, 3) := by decide +kernel
theorem dX1_turned_8 : decode cX1_turned 8 = .ok (.if_icmp .ge 7, 3) := by decide +kernel
theorem dX1_turned_11 : decode cX1_turned 11 = .ok (.iload_n 2, 1) := by decide +kernel
theorem dX1_turned_12 : decode cX1_turned 12 = .ok (.goto 8, 3) := by decide +kernel
theorem dX1_turned_15 : decode cX1_turned 15 = .ok (.iload_n 2, 1) := by decide +kernel
theorem dX1_turned_16 : decode cX1_turned 16 = .ok (.sipush 360, 3) := by decide +kernel
theorem dX1_turned_19 : decode cX1_turned 19 = .ok (.isub, 1) := by decide +kernel
theorem dX1_turned_20 : decode cX1_turned 20 = .ok (.ireturn, 1) := by decide +kernel
theorem dX2_init_0 : decode cX2_init 0 = .ok (.aload_n 0, 1) := by decide +kernel
theorem dX2_init_1 : decode cX2_init 1 = .ok (.invokespecial 3, 3) := by decide +kernel
theorem dX2_init_4 : decode cX2_init 4 = .ok (.aload_n 0, 1) := by decide +kernel
theorem dX2_init_5 : decode cX2_init 5 = .ok (.iconst 0, 1) := by decide +kernel
theorem dX2_init_6 : decode cX2_init 6 = .ok (.putfield 9, 3) := by decide +kernel
theorem dX2_init_9 : decode cX2_init 9 = .ok (.aload_n 0, 1) := by decide +kernel
theorem dX2_init_10 : decode cX2_init 10 = .ok (.bipush 14, 2) := by decide +kernel
theorem dX2_init_12 : decode cX2_init 12 = .ok (.newarray .int, 2) := by decide +kernel
theorem dX2_init_14 : decode cX2_init 14 = .ok (.putfield 15, 3) := by decide +kernel
theorem dX2_init_17 : decode cX2_init 17 = .ok (.aload_n 0, 1) := by decide +kernel
theorem dX2_init_18 : decode cX2_init 18 = .ok (.bipush 14, 2) := by decide +kernel
theorem dX2_init_20 : decode cX2_init 20 = .ok (.newarray .int, 2) := by decide +kernel
theorem dX2_init_22 : decode cX2_init 22 = .ok (.putfield 19, 3) := by decide +kernel
theorem dX2_init_25 : decode cX2_init 25 = .ok (.aload_n 0, 1) := by decide +kernel
theorem dX2_init_26 : decode cX2_init 26 = .ok (.bipush 14, 2) := by decide +kernel
theorem dX2_init_28 : decode cX2_init 28 = .ok (.newarray .int, 2) := by decide +kernel
theorem dX2_init_30 : decode cX2_init 30 = .ok (.putfield 22, 3) := by decide +kernel
theorem dX2_init_33 : decode cX2_init 33 = .ok (.aload_n 0, 1) := by decide +kernel
theorem dX2_init_34 : decode cX2_init 34 = .ok (.bipush 14, 2) := by decide +kernel
theorem dX2_init_36 : decode cX2_init 36 = .ok (.newarray .int, 2) := by decide +kernel
theorem dX2_init_38 : decode cX2_init 38 = .ok (.putfield 25, 3) := by decide +kernel
theorem dX2_init_41 : decode cX2_init 41 = .ok (.aload_n 0, 1) := by decide +kernel
theorem dX2_init_42 : decode cX2_init 42 = .ok (.bipush 14, 2) := by decide +kernel
theorem dX2_init_44 : decode cX2_init 44 = .ok (.newarray .boolean, 2) := by decide +kernel
theorem dX2_init_46 : decode cX2_init 46 = .ok (.putfield 28, 3) := by decide +kernel
theorem dX2_init_49 : decode cX2_init 49 = .ok (.aload_n 0, 1) := by decide +kernel
theorem dX2_init_50 : decode cX2_init 50 = .ok (.bipush 60, 2) := by decide +kernel
theorem dX2_init_52 : decode cX2_init 52 = .ok (.newarray .boolean, 2) := by decide +kernel
theorem dX2_init_54 : decode cX2_init 54 = .ok (.putfield 32, 3) := by decide +kernel
theorem dX2_init_57 : decode cX2_init 57 = .ok (.aload_n 0, 1) := by decide +kernel
theorem dX2_init_58 : decode cX2_init 58 = .ok (.bipush 9, 2) := by decide +kernel
theorem dX2_init_60 : decode cX2_init 60 = .ok (.newarray .int, 2) := by decide +kernel
theorem dX2_init_62 : decode cX2_init 62 = .ok (.putfield 35, 3) := by decide +kernel
theorem dX2_init_65 : decode cX2_init 65 = .ok (.aload_n 0, 1) := by decide +kernel
theorem dX2_init_66 : decode cX2_init 66 = .ok (.iconst 0, 1) := by decide +kernel
theorem dX2_init_67 : decode cX2_init 67 = .ok (.putfield 38, 3) := by decide +kernel
theorem dX2_init_70 : decode cX2_init 70 = .ok (.aload_n 0, 1) := by decide +kernel
theorem dX2_init_71 : decode cX2_init 71 = .ok (.sipush 182, 3) := by decide +kernel
theorem dX2_init_74 : decode cX2_init 74 = .ok (.newarray .int, 2) := by decide +kernel
theorem dX2_init_76 : decode cX2_init 76 = .ok (.putfield 41, 3) := by decide +kernel
theorem dX2_init_79 : decode cX2_init 79 = .ok (.aload_n 0, 1) := by decide +kernel
theorem dX2_init_80 : decode cX2_init 80 = .ok (.sipush 182, 3) := by decide +kernel
theorem dX2_init_83 : decode cX2_init 83 = .ok (.newarray .int, 2) := by decide +kernel
theorem dX2_init_85 : decode cX2_init 85 = .ok (.putfield 44, 3) := by decide +kernel
theorem dX2_init_88 : decode cX2_init 88 = .ok (.return_, 1) := by decide +kernel
theorem dX2_know_0 : decode cX2_know 0 = .ok (.aload_n 0, 1) := by decide +kernel
theorem dX2_know_1 : decode cX2_know 1 = .ok (.aload_n 1, 1) := by decide +kernel
theorem dX2_know_2 : decode cX2_know 2 = .ok (.getfield 47, 3) := by decide +kernel
theorem dX2_know_5 : decode cX2_know 5 = .ok (.putfield 9, 3) := by decide +kernel
theorem dX2_know_8 : decode cX2_know 8 = .ok (.aload_n 1, 1) := by decide +kernel
theorem dX2_know_9 : decode cX2_know 9 = .ok (.getfield 50, 3) := by decide +kernel
theorem dX2_know_12 : decode cX2_know 12 = .ok (.iconst 0, 1) := by decide +kernel
theorem dX2_know_13 : decode cX2_know 13 = .ok (.aload_n 0, 1) := by decide +kernel
theorem dX2_know_14 : decode cX2_know 14 = .ok (.getfield 15, 3) := by decide +kernel
theorem dX2_know_17 : decode cX2_know 17 = .ok (.iconst 0, 1) := by decide +kernel
theorem dX2_know_18 : decode cX2_know 18 = .ok (.bipush 14, 2) := by decide +kernel
theorem dX2_know_20 : decode cX2_know 20 = .ok (.invokestatic 51, 3) := by decide +kernel
theorem dX2_know_23 : decode cX2_know 23 = .ok (.aload_n 1, 1) := by decide +kernel
theorem dX2_know_24 : decode cX2_know 24 = .ok (.getfield 57, 3) := by decide +kernel
theorem dX2_know_27 : decode cX2_know 27 = .ok (.iconst 0, 1) := by decide +kernel
theorem dX2_know_28 : decode cX2_know 28 = .ok (.aload_n 0, 1) := by decide +kernel
theorem dX2_know_29 : decode cX2_know 29 = .ok (.getfield 19, 3) := by decide +kernel
theorem dX2_know_32 : decode cX2_know 32 = .ok (.iconst 0, 1) := by decide +kernel
theorem dX2_know_33 : decode cX2_know 33 = .ok (.bipush 14, 2) := by decide +kernel
theorem dX2_know_35 : decode cX2_know 35 = .ok (.invokestatic 51, 3) := by decide +kernel
theorem dX2_know_38 : decode cX2_know 38 = .ok (.aload_n 1, 1) := by decide +kernel
theorem dX2_know_39 : decode cX2_know 39 = .ok (.getfield 58, 3) := by decide +kernel
theorem dX2_know_42 : decode cX2_know 42 = .ok (.iconst 0, 1) := by decide +kernel
theorem dX2_know_43 : decode cX2_know 43 = .ok (.aload_n 0, 1) := by decide +kernel
theorem dX2_know_44 : decode cX2_know 44 = .ok (.getfield 22, 3) := by decide +kernel
theorem dX2_know_47 : decode cX2_know 47 = .ok (.iconst 0, 1) := by decide +kernel
theorem dX2_know_48 : decode cX2_know 48 = .ok (.bipush 14, 2) := by decide +kernel
theorem dX2_know_50 : decode cX2_know 50 = .ok (.invokestatic 51, 3) := by decide +kernel
theorem dX2_know_53 : decode cX2_know 53 = .ok (.aload_n 1, 1) := by decide +kernel
theorem dX2_know_54 : decode cX2_know 54 = .ok (.getfield 59, 3) := by decide +kernel
theorem dX2_know_57 : decode cX2_know 57 = .ok (.iconst 0, 1) := by decide +kernel
theorem dX2_know_58 : decode cX2_know 58 = .ok (.aload_n 0, 1) := by decide +kernel
theorem dX2_know_59 : decode cX2_know 59 = .ok (.getfield 25, 3) := by decide +kernel
theorem dX2_know_62 : decode cX2_know 62 = .ok (.iconst 0, 1) := by decide +kernel
theorem dX2_know_63 : decode cX2_know 63 = .ok (.bipush 14, 2) := by decide +kernel
theorem dX2_know_65 : decode cX2_know 65 = .ok (.invokestatic 51, 3) := by decide +kernel
theorem dX2_know_68 : decode cX2_know 68 = .ok (.iconst 0, 1) := by decide +kernel
theorem dX2_know_69 : decode cX2_know 69 = .ok (.istore 4, 2) := by decide +kernel
theorem dX2_know_71 : decode cX2_know 71 = .ok (.iload 4, 2) := by decide +kernel
theorem dX2_know_73 : decode cX2_know 73 = .ok (.bipush 14, 2) := by decide +kernel
theorem dX2_know_75 : decode cX2_know 75 = .ok (.if_icmp .ge 17, 3) := by decide +kernel
theorem dX2_know_78 : decode cX2_know 78 = .ok (.aload_n 0, 1) := by decide +kernel
theorem dX2_know_79 : decode cX2_know 79 = .ok (.getfield 28, 3) := by decide +kernel
theorem dX2_know_82 : decode cX2_know 82 = .ok (.iload 4, 2) := by decide +kernel
theorem dX2_know_84 : decode cX2_know 84 = .ok (.iconst 0, 1) := by decide +kernel
theorem dX2_know_85 : decode cX2_know 85 = .ok (.bastore, 1) := by decide +kernel
theorem dX2_know_86 : decode cX2_know 86 = .ok (.iinc 4 1, 3) := by decide +kernel
theorem dX2_know_89 : decode cX2_know 89 = .ok (.goto (-18), 3) := by decide +kernel
theorem dX2_know_92 : decode cX2_know 92 = .ok (.iconst 0, 1) := by decide +kernel
theorem dX2_know_93 : decode cX2_know 93 = .ok (.istore 4, 2) := by decide +kernel
theorem dX2_know_95 : decode cX2_know 95 = .ok (.iload 4, 2) := by decide +kernel
theorem dX2_know_97 : decode cX2_know 97 = .ok (.aload_n 2, 1) := by decide +kernel
theorem dX2_know_98 : decode cX2_know 98 = .ok (.getfield 60, 3) := by decide +kernel
theorem dX2_know_101 : decode cX2_know 101 = .ok (.if_icmp .ge 59, 3) := by decide +kernel
theorem dX2_know_104 : decode cX2_know 104 = .ok (.aload_n 0, 1) := by decide +kernel
theorem dX2_know_105 : decode cX2_know 105 = .ok (.getfield 32, 3) := by decide +kernel
theorem dX2_know_108 : decode cX2_know 108 = .ok (.iload 4, 2) := by decide +kernel
theorem dX2_know_110 : decode cX2_know 110 = .ok (.iconst 0, 1) := by decide +kernel
theorem dX2_know_111 : decode cX2_know 111 = .ok (.bastore, 1) := by decide +kernel
theorem dX2_know_112 : decode cX2_know 112 = .ok (.iload 4, 2) := by decide +kernel
theorem dX2_know_114 : decode cX2_know 114 = .ok (.iload_n 3, 1) := by decide +kernel
theorem dX2_know_115 : decode cX2_know 115 = .ok (.if_icmp .ge 39, 3) := by decide +kernel
theorem dX2_know_118 : decode cX2_know 118 = .ok (.aload_n 2, 1) := by decide +kernel
theorem dX2_know_119 : decode cX2_know 119 = .ok (.getfield 65, 3) := by decide +kernel
theorem dX2_know_122 : decode cX2_know 122 = .ok (.iload 4, 2) := by decide +kernel
theorem dX2_know_124 : decode cX2_know 124 = .ok (.iaload, 1) := by decide +kernel
theorem dX2_know_125 : decode cX2_know 125 = .ok (.iconst 4, 1) := by decide +kernel
theorem dX2_know_126 : decode cX2_know 126 = .ok (.if_icmp .ne 28, 3) := by decide +kernel
theorem dX2_know_129 : decode cX2_know 129 = .ok (.aload_n 2, 1) := by decide +kernel
theorem dX2_know_130 : decode cX2_know 130 = .ok (.getfield 68, 3) := by decide +kernel
theorem dX2_know_133 : decode cX2_know 133 = .ok (.iload 4, 2) := by decide +kernel
theorem dX2_know_135 : decode cX2_know 135 = .ok (.iaload, 1) := by decide +kernel
theorem dX2_know_136 : decode cX2_know 136 = .ok (.iload 4, 2) := by decide +kernel
theorem dX2_know_138 : decode cX2_know 138 = .ok (.if_icmp .ge 16, 3) := by decide +kernel
theorem dX2_know_141 : decode cX2_know 141 = .ok (.aload_n 0, 1) := by decide +kernel
theorem dX2_know_142 : decode cX2_know 142 = .ok (.getfield 32, 3) := by decide +kernel
theorem dX2_know_145 : decode cX2_know 145 = .ok (.aload_n 2, 1) := by decide +kernel
theorem dX2_know_146 : decode cX2_know 146 = .ok (.getfield 68, 3) := by decide +kernel
theorem dX2_know_149 : decode cX2_know 149 = .ok (.iload 4, 2) := by decide +kernel
theorem dX2_know_151 : decode cX2_know 151 = .ok (.iaload, 1) := by decide +kernel
theorem dX2_know_152 : decode cX2_know 152 = .ok (.iconst 1, 1) := by decide +kernel
theorem dX2_know_153 : decode cX2_know 153 = .ok (.bastore, 1) := by decide +kernel
theorem dX2_know_154 : decode cX2_know 154 = .ok (.iinc 4 1, 3) := by decide +kernel
theorem dX2_know_157 : decode cX2_know 157 = .ok (.goto (-62), 3) := by decide +kernel
theorem dX2_know_160 : decode cX2_know 160 = .ok (.iconst 0, 1) := by decide +kernel
theorem dX2_know_161 : decode cX2_know 161 = .ok (.istore 4, 2) := by decide +kernel
theorem dX2_know_163 : decode cX2_know 163 = .ok (.iload 4, 2) := by decide +kernel
theorem dX2_know_165 : decode cX2_know 165 = .ok (.aload_n 2, 1) := by decide +kernel
theorem dX2_know_166 : decode cX2_know 166 = .ok (.getfield 60, 3) := by decide +kernel
theorem dX2_know_169 : decode cX2_know 169 = .ok (.if_icmp .ge 37, 3) := by decide +kernel
theorem dX2_know_172 : decode cX2_know 172 = .ok (.aload_n 0, 1) := by decide +kernel
theorem dX2_know_173 : decode cX2_know 173 = .ok (.aload_n 2, 1) := by decide +kernel
theorem dX2_know_174 : decode cX2_know 174 = .ok (.iload 4, 2) := by decide +kernel
theorem dX2_know_176 : decode cX2_know 176 = .ok (.iload 4, 2) := by decide +kernel
theorem dX2_know_178 : decode cX2_know 178 = .ok (.iload_n 3, 1) := by decide +kernel
theorem dX2_know_179 : decode cX2_know 179 = .ok (.if_icmp .ge 17, 3) := by decide +kernel
theorem dX2_know_182 : decode cX2_know 182 = .ok (.aload_n 0, 1) := by decide +kernel
theorem dX2_know_183 : decode cX2_know 183 = .ok (.getfield 32, 3) := by decide +kernel
theorem dX2_know_186 : decode cX2_know 186 = .ok (.iload 4, 2) := by decide +kernel
theorem dX2_know_188 : decode cX2_know 188 = .ok (.baload, 1) := by decide +kernel
theorem dX2_know_189 : decode cX2_know 189 = .ok (.ifCond .ne 7, 3) := by decide +kernel
theorem dX2_know_192 : decode cX2_know 192 = .ok (.iconst 1, 1) := by decide +kernel
theorem dX2_know_193 : decode cX2_know 193 = .ok (.goto 4, 3) := by decide +kernel
theorem dX2_know_196 : decode cX2_know 196 = .ok (.iconst 0, 1) := by decide +kernel
theorem dX2_know_197 : decode cX2_know 197 = .ok (.invokevirtual 71, 3) := by decide +kernel
theorem dX2_know_200 : decode cX2_know 200 = .ok (.iinc 4 1, 3) := by decide +kernel
theorem dX2_know_203 : decode cX2_know 203 = .ok (.goto (-40), 3) := by decide +kernel
theorem dX2_know_206 : decode cX2_know 206 = .ok (.return_, 1) := by decide +kernel
theorem dX2_apply_0 : decode cX2_apply 0 = .ok (.aload_n 1, 1) := by decide +kernel
theorem dX2_apply_1 : decode cX2_apply 1 = .ok (.getfield 68, 3) := by decide +kernel
theorem dX2_apply_4 : decode cX2_apply 4 = .ok (.iload_n 2, 1) := by decide +kernel
theorem dX2_apply_5 : decode cX2_apply 5 = .ok (.iaload, 1) := by decide +kernel
theorem dX2_apply_6 : decode cX2_apply 6 = .ok (.istore 4, 2) := by decide +kernel
theorem dX2_apply_8 : decode cX2_apply 8 = .ok (.aload_n 1, 1) := by decide +kernel
theorem dX2_apply_9 : decode cX2_apply 9 = .ok (.getfield 65, 3) := by decide +kernel
theorem dX2_apply_12 : decode cX2_apply 12 = .ok (.iload_n 2, 1) := by decide +kernel
theorem dX2_apply_13 : decode cX2_apply 13 = .ok (.iaload, 1) := by decide +kernel
theorem dX2_apply_14 : decode cX2_apply 14 = .ok (.istore 5, 2) := by decide +kernel
theorem dX2_apply_16 : decode cX2_apply 16 = .ok (.iload 5, 2) := by decide +kernel
theorem dX2_apply_18 : decode cX2_apply 18 = .ok (.iconst 4, 1) := by decide +kernel
theorem dX2_apply_19 : decode cX2_apply 19 = .ok (.if_icmp .eq 15, 3) := by decide +kernel
theorem dX2_apply_22 : decode cX2_apply 22 = .ok (.iload 4, 2) := by decide +kernel
theorem dX2_apply_24 : decode cX2_apply 24 = .ok (.ifCond .lt 10, 3) := by decide +kernel
theorem dX2_apply_27 : decode cX2_apply 27 = .ok (.iload 4, 2) := by decide +kernel
theorem dX2_apply_29 : decode cX2_apply 29 = .ok (.bipush 14, 2) := by decide +kernel
theorem dX2_apply_31 : decode cX2_apply 31 = .ok (.if_icmp .lt 4, 3) := by decide +kernel
theorem dX2_apply_34 : decode cX2_apply 34 = .ok (.return_, 1) := by decide +kernel
theorem dX2_apply_35 : decode cX2_apply 35 = .ok (.iload 5, 2) := by decide +kernel
theorem dX2_apply_37 : decode cX2_apply 37 = .ok (.ifCond .ne 38, 3) := by decide +kernel
theorem dX2_apply_40 : decode cX2_apply 40 = .ok (.aload_n 0, 1) := by decide +kernel
theorem dX2_apply_41 : decode cX2_apply 41 = .ok (.iload 4, 2) := by decide +kernel
theorem dX2_apply_43 : decode cX2_apply 43 = .ok (.iconst 1, 1) := by decide +kernel
theorem dX2_apply_44 : decode cX2_apply 44 = .ok (.iadd, 1) := by decide +kernel
theorem dX2_apply_45 : decode cX2_apply 45 = .ok (.putfield 9, 3) := by decide +kernel
theorem dX2_apply_48 : decode cX2_apply 48 = .ok (.aload_n 0, 1) := by decide +kernel
theorem dX2_apply_49 : decode cX2_apply 49 = .ok (.getfield 25, 3) := by decide +kernel
theorem dX2_apply_52 : decode cX2_apply 52 = .ok (.iload 4, 2) := by decide +kernel
theorem dX2_apply_54 : decode cX2_apply 54 = .ok (.iconst 0, 1) := by decide +kernel
theorem dX2_apply_55 : decode cX2_apply 55 = .ok (.iastore, 1) := by decide +kernel
theorem dX2_apply_56 : decode cX2_apply 56 = .ok (.aload_n 0, 1) := by decide +kernel
theorem dX2_apply_57 : decode cX2_apply 57 = .ok (.getfield 28, 3) := by decide +kernel
theorem dX2_apply_60 : decode cX2_apply 60 = .ok (.iload 4, 2) := by decide +kernel
theorem dX2_apply_62 : decode cX2_apply 62 = .ok (.iload_n 3, 1) := by decide +kernel
theorem dX2_apply_63 : decode cX2_apply 63 = .ok (.ifCond .ne 7, 3) := by decide +kernel
theorem dX2_apply_66 : decode cX2_apply 66 = .ok (.iconst 1, 1) := by decide +kernel
theorem dX2_apply_67 : decode cX2_apply 67 = .ok (.goto 4, 3) := by decide +kernel
theorem dX2_apply_70 : decode cX2_apply 70 = .ok (.iconst 0, 1) := by decide +kernel
theorem dX2_apply_71 : decode cX2_apply 71 = .ok (.bastore, 1) := by decide +kernel
theorem dX2_apply_72 : decode cX2_apply 72 = .ok (.goto 8, 3) := by decide +kernel
theorem dX2_apply_75 : decode cX2_apply 75 = .ok (.iload_n 3, 1) := by decide +kernel
theorem dX2_apply_76 : decode cX2_apply 76 = .ok (.ifCond .ne 4, 3) := by decide +kernel
theorem dX2_apply_79 : decode cX2_apply 79 = .ok (.return_, 1) := by decide +kernel
theorem dX2_apply_80 : decode cX2_apply 80 = .ok (.iload 5, 2) := by decide +kernel
theorem dX2_apply_82 : decode cX2_apply 82 = .ok (.ifCond .eq 9, 3) := by decide +kernel
theorem dX2_apply_85 : decode cX2_apply 85 = .ok (.iload 5, 2) := by decide +kernel
theorem dX2_apply_87 : decode cX2_apply 87 = .ok (.iconst 1, 1) := by decide +kernel
theorem dX2_apply_88 : decode cX2_apply 88 = .ok (.if_icmp .ne 29, 3) := by decide +kernel
theorem dX2_apply_91 : decode cX2_apply 91 = .ok (.aload_n 0, 1) := by decide +kernel
theorem dX2_apply_92 : decode cX2_apply 92 = .ok (.getfield 15, 3) := by decide +kernel
theorem dX2_apply_95 : decode cX2_apply 95 = .ok (.iload 4, 2) := by decide +kernel
theorem dX2_apply_97 : decode cX2_apply 97 = .ok (.aload_n 1, 1) := by decide +kernel
theorem dX2_apply_98 : decode cX2_apply 98 = .ok (.getfield 75, 3) := by decide +kernel
theorem dX2_apply_101 : decode cX2_apply 101 = .ok (.iload_n 2, 1) := by decide +kernel
theorem dX2_apply_102 : decode cX2_apply 102 = .ok (.iaload, 1) := by decide +kernel
theorem dX2_apply_103 : decode cX2_apply 103 = .ok (.iastore, 1) := by decide +kernel
theorem dX2_apply_104 : decode cX2_apply 104 = .ok (.aload_n 0, 1) := by decide +kernel
theorem dX2_apply_105 : decode cX2_apply 105 = .ok (.getfield 19, 3) := by decide +kernel
theorem dX2_apply_108 : decode cX2_apply 108 = .ok (.iload 4, 2) := by decide +kernel
theorem dX2_apply_110 : decode cX2_apply 110 = .ok (.aload_n 1, 1) := by decide +kernel
theorem dX2_apply_111 : decode cX2_apply 111 = .ok (.getfield 76, 3) := by decide +kernel
theorem dX2_apply_114 : decode cX2_apply 114 = .ok (.iload_n 2, 1) := by decide +kernel
theorem dX2_apply_115 : decode cX2_apply 115 = .ok (.iaload, 1) := by decide +kernel
theorem dX2_apply_116 : decode cX2_apply 116 = .ok (.iastore, 1) := by decide +kernel
theorem dX2_apply_117 : decode cX2_apply 117 = .ok (.iload 5, 2) := by decide +kernel
theorem dX2_apply_119 : decode cX2_apply 119 = .ok (.ifCond .eq 9, 3) := by decide +kernel
theorem dX2_apply_122 : decode cX2_apply 122 = .ok (.iload 5, 2) := by decide +kernel
theorem dX2_apply_124 : decode cX2_apply 124 = .ok (.iconst 3, 1) := by decide +kernel
theorem dX2_apply_125 : decode cX2_apply 125 = .ok (.if_icmp .ne 16, 3) := by decide +kernel
theorem dX2_apply_128 : decode cX2_apply 128 = .ok (.aload_n 0, 1) := by decide +kernel
theorem dX2_apply_129 : decode cX2_apply 129 = .ok (.getfield 22, 3) := by decide +kernel
theorem dX2_apply_132 : decode cX2_apply 132 = .ok (.iload 4, 2) := by decide +kernel
theorem dX2_apply_134 : decode cX2_apply 134 = .ok (.aload_n 1, 1) := by decide +kernel
theorem dX2_apply_135 : decode cX2_apply 135 = .ok (.getfield 77, 3) := by decide +kernel
theorem dX2_apply_138 : decode cX2_apply 138 = .ok (.iload_n 2, 1) := by decide +kernel
theorem dX2_apply_139 : decode cX2_apply 139 = .ok (.iaload, 1) := by decide +kernel
theorem dX2_apply_140 : decode cX2_apply 140 = .ok (.iastore, 1) := by decide +kernel
theorem dX2_apply_141 : decode cX2_apply 141 = .ok (.iload 5, 2) := by decide +kernel
theorem dX2_apply_143 : decode cX2_apply 143 = .ok (.iconst 2, 1) := by decide +kernel
theorem dX2_apply_144 : decode cX2_apply 144 = .ok (.if_icmp .ne 11, 3) := by decide +kernel
theorem dX2_apply_147 : decode cX2_apply 147 = .ok (.aload_n 0, 1) := by decide +kernel
theorem dX2_apply_148 : decode cX2_apply 148 = .ok (.getfield 28, 3) := by decide +kernel
theorem dX2_apply_151 : decode cX2_apply 151 = .ok (.iload 4, 2) := by decide +kernel
theorem dX2_apply_153 : decode cX2_apply 153 = .ok (.iconst 1, 1) := by decide +kernel
theorem dX2_apply_154 : decode cX2_apply 154 = .ok (.bastore, 1) := by decide +kernel
theorem dX2_apply_155 : decode cX2_apply 155 = .ok (.return_, 1) := by decide +kernel
theorem dX2_joins_0 : decode cX2_joins 0 = .ok (.iload_n 1, 1) := by decide +kernel
theorem dX2_joins_1 : decode cX2_joins 1 = .ok (.ifCond .lt 10, 3) := by decide +kernel
theorem dX2_joins_4 : decode cX2_joins 4 = .ok (.iload_n 1, 1) := by decide +kernel
theorem dX2_joins_5 : decode cX2_joins 5 = .ok (.sipush 196, 3) := by decide +kernel
theorem dX2_joins_8 : decode cX2_joins 8 = .ok (.if_icmp .lt 5, 3) := by decide +kernel
theorem dX2_joins_11 : decode cX2_joins 11 = .ok (.iconst 0, 1) := by decide +kernel
theorem dX2_joins_12 : decode cX2_joins 12 = .ok (.ireturn, 1) := by decide +kernel
theorem dX2_joins_13 : decode cX2_joins 13 = .ok (.iload_n 1, 1) := by decide +kernel
theorem dX2_joins_14 : decode cX2_joins 14 = .ok (.bipush 14, 2) := by decide +kernel
theorem dX2_joins_16 : decode cX2_joins 16 = .ok (.idiv, 1) := by decide +kernel
theorem dX2_joins_17 : decode cX2_joins 17 = .ok (.istore_n 2, 1) := by decide +kernel
theorem dX2_joins_18 : decode cX2_joins 18 = .ok (.iload_n 1, 1) := by decide +kernel
theorem dX2_joins_19 : decode cX2_joins 19 = .ok (.bipush 14, 2) := by decide +kernel
theorem dX2_joins_21 : decode cX2_joins 21 = .ok (.irem, 1) := by decide +kernel
theorem dX2_joins_22 : decode cX2_joins 22 = .ok (.istore_n 3, 1) := by decide +kernel
theorem dX2_joins_23 : decode cX2_joins 23 = .ok (.iload_n 2, 1) := by decide +kernel
theorem dX2_joins_24 : decode cX2_joins 24 = .ok (.aload_n 0, 1) := by decide +kernel
theorem dX2_joins_25 : decode cX2_joins 25 = .ok (.getfield 9, 3) := by decide +kernel
theorem dX2_joins_28 : decode cX2_joins 28 = .ok (.if_icmp .ge 29, 3) := by decide +kernel
theorem dX2_joins_31 : decode cX2_joins 31 = .ok (.iload_n 3, 1) := by decide +kernel
theorem dX2_joins_32 : decode cX2_joins 32 = .ok (.aload_n 0, 1) := by decide +kernel
theorem dX2_joins_33 : decode cX2_joins 33 = .ok (.getfield 9, 3) := by decide +kernel
theorem dX2_joins_36 : decode cX2_joins 36 = .ok (.if_icmp .ge 21, 3) := by decide +kernel
theorem dX2_joins_39 : decode cX2_joins 39 = .ok (.aload_n 0, 1) := by decide +kernel
theorem dX2_joins_40 : decode cX2_joins 40 = .ok (.getfield 28, 3) := by decide +kernel
theorem dX2_joins_43 : decode cX2_joins 43 = .ok (.iload_n 2, 1) := by decide +kernel
theorem dX2_joins_44 : decode cX2_joins 44 = .ok (.baload, 1) := by decide +kernel
theorem dX2_joins_45 : decode cX2_joins 45 = .ok (.ifCond .ne 12, 3) := by decide +kernel
theorem dX2_joins_48 : decode cX2_joins 48 = .ok (.aload_n 0, 1) := by decide +kernel
theorem dX2_joins_49 : decode cX2_joins 49 = .ok (.getfield 28, 3) := by decide +kernel
theorem dX2_joins_52 : decode cX2_joins 52 = .ok (.iload_n 3, 1) := by decide +kernel
theorem dX2_joins_53 : decode cX2_joins 53 = .ok (.baload, 1) := by decide +kernel
theorem dX2_joins_54 : decode cX2_joins 54 = .ok (.ifCond .eq 5, 3) := by decide +kernel
theorem dX2_joins_57 : decode cX2_joins 57 = .ok (.iconst 0, 1) := by decide +kernel
theorem dX2_joins_58 : decode cX2_joins 58 = .ok (.ireturn, 1) := by decide +kernel
theorem dX2_joins_59 : decode cX2_joins 59 = .ok (.aload_n 0, 1) := by decide +kernel
theorem dX2_joins_60 : decode cX2_joins 60 = .ok (.getfield 15, 3) := by decide +kernel
theorem dX2_joins_63 : decode cX2_joins 63 = .ok (.iload_n 2, 1) := by decide +kernel
theorem dX2_joins_64 : decode cX2_joins 64 = .ok (.iaload, 1) := by decide +kernel
theorem dX2_joins_65 : decode cX2_joins 65 = .ok (.aload_n 0, 1) := by decide +kernel
theorem dX2_joins_66 : decode cX2_joins 66 = .ok (.getfield 15, 3) := by decide +kernel
theorem dX2_joins_69 : decode cX2_joins 69 = .ok (.iload_n 3, 1) := by decide +kernel
theorem dX2_joins_70 : decode cX2_joins 70 = .ok (.iaload, 1) := by decide +kernel
theorem dX2_joins_71 : decode cX2_joins 71 = .ok (.if_icmp .ne 18, 3) := by decide +kernel
theorem dX2_joins_74 : decode cX2_joins 74 = .ok (.aload_n 0, 1) := by decide +kernel
theorem dX2_joins_75 : decode cX2_joins 75 = .ok (.getfield 19, 3) := by decide +kernel
theorem dX2_joins_78 : decode cX2_joins 78 = .ok (.iload_n 2, 1) := by decide +kernel
theorem dX2_joins_79 : decode cX2_joins 79 = .ok (.iaload, 1) := by decide +kernel
theorem dX2_joins_80 : decode cX2_joins 80 = .ok (.aload_n 0, 1) := by decide +kernel
theorem dX2_joins_81 : decode cX2_joins 81 = .ok (.getfield 19, 3) := by decide +kernel
theorem dX2_joins_84 : decode cX2_joins 84 = .ok (.iload_n 3, 1) := by decide +kernel
theorem dX2_joins_85 : decode cX2_joins 85 = .ok (.iaload, 1) := by decide +kernel
theorem dX2_joins_86 : decode cX2_joins 86 = .ok (.if_icmp .eq 7, 3) := by decide +kernel
theorem dX2_joins_89 : decode cX2_joins 89 = .ok (.iconst 1, 1) := by decide +kernel
theorem dX2_joins_90 : decode cX2_joins 90 = .ok (.goto 4, 3) := by decide +kernel
theorem dX2_joins_93 : decode cX2_joins 93 = .ok (.iconst 0, 1) := by decide +kernel
theorem dX2_joins_94 : decode cX2_joins 94 = .ok (.ireturn, 1) := by decide +kernel
theorem dX2_bearingOf_0 : decode cX2_bearingOf 0 = .ok (.iload_n 1, 1) := by decide +kernel
theorem dX2_bearingOf_1 : decode cX2_bearingOf 1 = .ok (.bipush 14, 2) := by decide +kernel
theorem dX2_bearingOf_3 : decode cX2_bearingOf 3 = .ok (.idiv, 1) := by decide +kernel
theorem dX2_bearingOf_4 : decode cX2_bearingOf 4 = .ok (.istore_n 2, 1) := by decide +kernel
theorem dX2_bearingOf_5 : decode cX2_bearingOf 5 = .ok (.iload_n 1, 1) := by decide +kernel
theorem dX2_bearingOf_6 : decode cX2_bearingOf 6 = .ok (.bipush 14, 2) := by decide +kernel
theorem dX2_bearingOf_8 : decode cX2_bearingOf 8 = .ok (.irem, 1) := by decide +kernel
theorem dX2_bearingOf_9 : decode cX2_bearingOf 9 = .ok (.istore_n 3, 1) := by decide +kernel
theorem dX2_bearingOf_10 : decode cX2_bearingOf 10 = .ok (.aload_n 0, 1) := by decide +kernel
theorem dX2_bearingOf_11 : decode cX2_bearingOf 11 = .ok (.getfield 15, 3) := by decide +kernel
theorem dX2_bearingOf_14 : decode cX2_bearingOf 14 = .ok (.iload_n 3, 1) := by decide +kernel
theorem dX2_bearingOf_15 : decode cX2_bearingOf 15 = .ok (.iaload, 1) := by decide +kernel
theorem dX2_bearingOf_16 : decode cX2_bearingOf 16 = .ok (.aload_n 0, 1) := by decide +kernel
theorem dX2_bearingOf_17 : decode cX2_bearingOf 17 = .ok (.getfield 15, 3) := by decide +kernel
theorem dX2_bearingOf_20 : decode cX2_bearingOf 20 = .ok (.iload_n 2, 1) := by decide +kernel
theorem dX2_bearingOf_21 : decode cX2_bearingOf 21 = .ok (.iaload, 1) := by decide +kernel
theorem dX2_bearingOf_22 : decode cX2_bearingOf 22 = .ok (.isub, 1) := by decide +kernel
theorem dX2_bearingOf_23 : decode cX2_bearingOf 23 = .ok (.aload_n 0, 1) := by decide +kernel
theorem dX2_bearingOf_24 : decode cX2_bearingOf 24 = .ok (.getfield 19, 3) := by decide +kernel
theorem dX2_bearingOf_27 : decode cX2_bearingOf 27 = .ok (.iload_n 3, 1) := by decide +kernel
theorem dX2_bearingOf_28 : decode cX2_bearingOf 28 = .ok (.iaload, 1) := by decide +kernel
theorem dX2_bearingOf_29 : decode cX2_bearingOf 29 = .ok (.aload_n 0, 1) := by decide +kernel
theorem dX2_bearingOf_30 : decode cX2_bearingOf 30 = .ok (.getfield 19, 3) := by decide +kernel
theorem dX2_bearingOf_33 : decode cX2_bearingOf 33 = .ok (.iload_n 2, 1) := by decide +kernel
theorem dX2_bearingOf_34 : decode cX2_bearingOf 34 = .ok (.iaload, 1) := by decide +kernel
theorem dX2_bearingOf_35 : decode cX2_bearingOf 35 = .ok (.isub, 1) := by decide +kernel
theorem dX2_bearingOf_36 : decode cX2_bearingOf 36 = .ok (.invokestatic 78, 3) := by decide +kernel
theorem dX2_bearingOf_39 : decode cX2_bearingOf 39 = .ok (.ireturn, 1) := by decide +kernel
theorem dX2_joinedInAll_0 : decode cX2_joinedInAll 0 = .ok (.iconst 0, 1) := by decide +kernel
theorem dX2_joinedInAll_1 : decode cX2_joinedInAll 1 = .ok (.istore_n 1, 1) := by decide +kernel
theorem dX2_joinedInAll_2 : decode cX2_joinedInAll 2 = .ok (.iconst 0, 1) := by decide +kernel
theorem dX2_joinedInAll_3 : decode cX2_joinedInAll 3 = .ok (.istore_n 2, 1) := by decide +kernel
theorem dX2_joinedInAll_4 : decode cX2_joinedInAll 4 = .ok (.iload_n 2, 1) := by decide +kernel
theorem dX2_joinedInAll_5 : decode cX2_joinedInAll 5 = .ok (.sipush 196, 3) := by decide +kernel
theorem dX2_joinedInAll_8 : decode cX2_joinedInAll 8 = .ok (.if_icmp .ge 20, 3) := by decide +kernel
theorem dX2_joinedInAll_11 : decode cX2_joinedInAll 11 = .ok (.aload_n 0, 1) := by decide +kernel
theorem dX2_joinedInAll_12 : decode cX2_joinedInAll 12 = .ok (.iload_n 2, 1) := by decide +kernel
theorem dX2_joinedInAll_13 : decode cX2_joinedInAll 13 = .ok (.invokevirtual 84, 3) := by decide +kernel
theorem dX2_joinedInAll_16 : decode cX2_joinedInAll 16 = .ok (.ifCond .eq 6, 3) := by decide +kernel
theorem dX2_joinedInAll_19 : decode cX2_joinedInAll 19 = .ok (.iinc 1 1, 3) := by decide +kernel
theorem dX2_joinedInAll_22 : decode cX2_joinedInAll 22 = .ok (.iinc 2 1, 3) := by decide +kernel
theorem dX2_joinedInAll_25 : decode cX2_joinedInAll 25 = .ok (.goto (-21), 3) := by decide +kernel
theorem dX2_joinedInAll_28 : decode cX2_joinedInAll 28 = .ok (.iload_n 1, 1) := by decide +kernel
theorem dX2_joinedInAll_29 : decode cX2_joinedInAll 29 = .ok (.ireturn, 1) := by decide +kernel
theorem dX2_describe_0 : decode cX2_describe 0 = .ok (.iload_n 2, 1) := by decide +kernel
theorem dX2_describe_1 : decode cX2_describe 1 = .ok (.bipush 14, 2) := by decide +kernel
theorem dX2_describe_3 : decode cX2_describe 3 = .ok (.idiv, 1) := by decide +kernel
theorem dX2_describe_4 : decode cX2_describe 4 = .ok (.istore_n 3, 1) := by decide +kernel
theorem dX2_describe_5 : decode cX2_describe 5 = .ok (.iload_n 2, 1) := by decide +kernel
theorem dX2_describe_6 : decode cX2_describe 6 = .ok (.bipush 14, 2) := by decide +kernel
theorem dX2_describe_8 : decode cX2_describe 8 = .ok (.irem, 1) := by decide +kernel
theorem dX2_describe_9 : decode cX2_describe 9 = .ok (.istore 4, 2) := by decide +kernel
theorem dX2_describe_11 : decode cX2_describe 11 = .ok (.aload_n 0, 1) := by decide +kernel
theorem dX2_describe_12 : decode cX2_describe 12 = .ok (.getfield 15, 3) := by decide +kernel
theorem dX2_describe_15 : decode cX2_describe 15 = .ok (.iload 4, 2) := by decide +kernel
theorem dX2_describe_17 : decode cX2_describe 17 = .ok (.iaload, 1) := by decide +kernel
theorem dX2_describe_18 : decode cX2_describe 18 = .ok (.aload_n 0, 1) := by decide +kernel
theorem dX2_describe_19 : decode cX2_describe 19 = .ok (.getfield 15, 3) := by decide +kernel
theorem dX2_describe_22 : decode cX2_describe 22 = .ok (.iload_n 3, 1) := by decide +kernel
theorem dX2_describe_23 : decode cX2_describe 23 = .ok (.iaload, 1) := by decide +kernel
theorem dX2_describe_24 : decode cX2_describe 24 = .ok (.isub, 1) := by decide +kernel
theorem dX2_describe_25 : decode cX2_describe 25 = .ok (.istore 5, 2) := by decide +kernel
theorem dX2_describe_27 : decode cX2_describe 27 = .ok (.aload_n 0, 1) := by decide +kernel
theorem dX2_describe_28 : decode cX2_describe 28 = .ok (.getfield 19, 3) := by decide +kernel
theorem dX2_describe_31 : decode cX2_describe 31 = .ok (.iload 4, 2) := by decide +kernel
theorem dX2_describe_33 : decode cX2_describe 33 = .ok (.iaload, 1) := by decide +kernel
theorem dX2_describe_34 : decode cX2_describe 34 = .ok (.aload_n 0, 1) := by decide +kernel
theorem dX2_describe_35 : decode cX2_describe 35 = .ok (.getfield 19, 3) := by decide +kernel
theorem dX2_describe_38 : decode cX2_describe 38 = .ok (.iload_n 3, 1) := by decide +kernel
theorem dX2_describe_39 : decode cX2_describe 39 = .ok (.iaload, 1) := by decide +kernel
theorem dX2_describe_40 : decode cX2_describe 40 = .ok (.isub, 1) := by decide +kernel
theorem dX2_describe_41 : decode cX2_describe 41 = .ok (.istore 6, 2) := by decide +kernel
theorem dX2_describe_43 : decode cX2_describe 43 = .ok (.aload_n 0, 1) := by decide +kernel
theorem dX2_describe_44 : decode cX2_describe 44 = .ok (.getfield 35, 3) := by decide +kernel
theorem dX2_describe_47 : decode cX2_describe 47 = .ok (.iconst 0, 1) := by decide +kernel
theorem dX2_describe_48 : decode cX2_describe 48 = .ok (.iconst 0, 1) := by decide +kernel
theorem dX2_describe_49 : decode cX2_describe 49 = .ok (.iastore, 1) := by decide +kernel
theorem dX2_describe_50 : decode cX2_describe 50 = .ok (.aload_n 0, 1) := by decide +kernel
theorem dX2_describe_51 : decode cX2_describe 51 = .ok (.getfield 35, 3) := by decide +kernel
theorem dX2_describe_54 : decode cX2_describe 54 = .ok (.iconst 1, 1) := by decide +kernel
theorem dX2_describe_55 : decode cX2_describe 55 = .ok (.iconst 0, 1) := by decide +kernel
theorem dX2_describe_56 : decode cX2_describe 56 = .ok (.iastore, 1) := by decide +kernel
theorem dX2_describe_57 : decode cX2_describe 57 = .ok (.aload_n 0, 1) := by decide +kernel
theorem dX2_describe_58 : decode cX2_describe 58 = .ok (.getfield 35, 3) := by decide +kernel
theorem dX2_describe_61 : decode cX2_describe 61 = .ok (.iconst 2, 1) := by decide +kernel
theorem dX2_describe_62 : decode cX2_describe 62 = .ok (.aload_n 0, 1) := by decide +kernel
theorem dX2_describe_63 : decode cX2_describe 63 = .ok (.getfield 22, 3) := by decide +kernel
theorem dX2_describe_66 : decode cX2_describe 66 = .ok (.iload 4, 2) := by decide +kernel
theorem dX2_describe_68 : decode cX2_describe 68 = .ok (.iaload, 1) := by decide +kernel
theorem dX2_describe_69 : decode cX2_describe 69 = .ok (.aload_n 0, 1) := by decide +kernel
theorem dX2_describe_70 : decode cX2_describe 70 = .ok (.getfield 22, 3) := by decide +kernel
theorem dX2_describe_73 : decode cX2_describe 73 = .ok (.iload_n 3, 1) := by decide +kernel
theorem dX2_describe_74 : decode cX2_describe 74 = .ok (.iaload, 1) := by decide +kernel
theorem dX2_describe_75 : decode cX2_describe 75 = .ok (.isub, 1) := by decide +kernel
theorem dX2_describe_76 : decode cX2_describe 76 = .ok (.invokestatic 88, 3) := by decide +kernel
theorem dX2_describe_79 : decode cX2_describe 79 = .ok (.iastore, 1) := by decide +kernel
theorem dX2_describe_80 : decode cX2_describe 80 = .ok (.aload_n 0, 1) := by decide +kernel
theorem dX2_describe_81 : decode cX2_describe 81 = .ok (.getfield 35, 3) := by decide +kernel
theorem dX2_describe_84 : decode cX2_describe 84 = .ok (.iconst 3, 1) := by decide +kernel
theorem dX2_describe_85 : decode cX2_describe 85 = .ok (.iload 5, 2) := by decide +kernel
theorem dX2_describe_87 : decode cX2_describe 87 = .ok (.invokestatic 88, 3) := by decide +kernel
theorem dX2_describe_90 : decode cX2_describe 90 = .ok (.iload 6, 2) := by decide +kernel
theorem dX2_describe_92 : decode cX2_describe 92 = .ok (.invokestatic 88, 3) := by decide +kernel
theorem dX2_describe_95 : decode cX2_describe 95 = .ok (.invokestatic 94, 3) := by decide +kernel
theorem dX2_describe_98 : decode cX2_describe 98 = .ok (.iastore, 1) := by decide +kernel
theorem dX2_describe_99 : decode cX2_describe 99 = .ok (.aload_n 0, 1) := by decide +kernel
theorem dX2_describe_100 : decode cX2_describe 100 = .ok (.getfield 35, 3) := by decide +kernel
theorem dX2_describe_103 : decode cX2_describe 103 = .ok (.iconst 4, 1) := by decide +kernel
theorem dX2_describe_104 : decode cX2_describe 104 = .ok (.aload_n 0, 1) := by decide +kernel
theorem dX2_describe_105 : decode cX2_describe 105 = .ok (.getfield 25, 3) := by decide +kernel
theorem dX2_describe_108 : decode cX2_describe 108 = .ok (.iload_n 3, 1) := by decide +kernel
theorem dX2_describe_109 : decode cX2_describe 109 = .ok (.iaload, 1) := by decide +kernel
theorem dX2_describe_110 : decode cX2_describe 110 = .ok (.aload_n 0, 1) := by decide +kernel
theorem dX2_describe_111 : decode cX2_describe 111 = .ok (.getfield 25, 3) := by decide +kernel
theorem dX2_describe_114 : decode cX2_describe 114 = .ok (.iload 4, 2) := by decide +kernel
theorem dX2_describe_116 : decode cX2_describe 116 = .ok (.iaload, 1) := by decide +kernel
theorem dX2_describe_117 : decode cX2_describe 117 = .ok (.iadd, 1) := by decide +kernel
theorem dX2_describe_118 : decode cX2_describe 118 = .ok (.iastore, 1) := by decide +kernel
theorem dX2_describe_119 : decode cX2_describe 119 = .ok (.aload_n 0, 1) := by decide +kernel
theorem dX2_describe_120 : decode cX2_describe 120 = .ok (.getfield 35, 3) := by decide +kernel
theorem dX2_describe_123 : decode cX2_describe 123 = .ok (.iconst 5, 1) := by decide +kernel
theorem dX2_describe_124 : decode cX2_describe 124 = .ok (.aload_n 1, 1) := by decide +kernel
theorem dX2_describe_125 : decode cX2_describe 125 = .ok (.getfield 97, 3) := by decide +kernel
theorem dX2_describe_128 : decode cX2_describe 128 = .ok (.iload_n 3, 1) := by decide +kernel
theorem dX2_describe_129 : decode cX2_describe 129 = .ok (.iaload, 1) := by decide +kernel
theorem dX2_describe_130 : decode cX2_describe 130 = .ok (.iload 4, 2) := by decide +kernel
theorem dX2_describe_132 : decode cX2_describe 132 = .ok (.ishr, 1) := by decide +kernel
theorem dX2_describe_133 : decode cX2_describe 133 = .ok (.iconst 1, 1) := by decide +kernel
theorem dX2_describe_134 : decode cX2_describe 134 = .ok (.iand, 1) := by decide +kernel
theorem dX2_describe_135 : decode cX2_describe 135 = .ok (.iastore, 1) := by decide +kernel
theorem dX2_describe_136 : decode cX2_describe 136 = .ok (.aload_n 0, 1) := by decide +kernel
theorem dX2_describe_137 : decode cX2_describe 137 = .ok (.getfield 35, 3) := by decide +kernel
theorem dX2_describe_140 : decode cX2_describe 140 = .ok (.bipush 6, 2) := by decide +kernel
theorem dX2_describe_142 : decode cX2_describe 142 = .ok (.aload_n 1, 1) := by decide +kernel
theorem dX2_describe_143 : decode cX2_describe 143 = .ok (.getfield 97, 3) := by decide +kernel
theorem dX2_describe_146 : decode cX2_describe 146 = .ok (.iload 4, 2) := by decide +kernel
theorem dX2_describe_148 : decode cX2_describe 148 = .ok (.iaload, 1) := by decide +kernel
theorem dX2_describe_149 : decode cX2_describe 149 = .ok (.iload_n 3, 1) := by decide +kernel
theorem dX2_describe_150 : decode cX2_describe 150 = .ok (.ishr, 1) := by decide +kernel
theorem dX2_describe_151 : decode cX2_describe 151 = .ok (.iconst 1, 1) := by decide +kernel
theorem dX2_describe_152 : decode cX2_describe 152 = .ok (.iand, 1) := by decide +kernel
theorem dX2_describe_153 : decode cX2_describe 153 = .ok (.iastore, 1) := by decide +kernel
theorem dX2_describe_154 : decode cX2_describe 154 = .ok (.aload_n 0, 1) := by decide +kernel
theorem dX2_describe_155 : decode cX2_describe 155 = .ok (.getfield 35, 3) := by decide +kernel
theorem dX2_describe_158 : decode cX2_describe 158 = .ok (.bipush 7, 2) := by decide +kernel
theorem dX2_describe_160 : decode cX2_describe 160 = .ok (.aload_n 0, 1) := by decide +kernel
theorem dX2_describe_161 : decode cX2_describe 161 = .ok (.getfield 22, 3) := by decide +kernel
theorem dX2_describe_164 : decode cX2_describe 164 = .ok (.iload_n 3, 1) := by decide +kernel
theorem dX2_describe_165 : decode cX2_describe 165 = .ok (.iaload, 1) := by decide +kernel
theorem dX2_describe_166 : decode cX2_describe 166 = .ok (.aload_n 0, 1) := by decide +kernel
theorem dX2_describe_167 : decode cX2_describe 167 = .ok (.getfield 22, 3) := by decide +kernel
theorem dX2_describe_170 : decode cX2_describe 170 = .ok (.iload 4, 2) := by decide +kernel
theorem dX2_describe_172 : decode cX2_describe 172 = .ok (.iaload, 1) := by decide +kernel
theorem dX2_describe_173 : decode cX2_describe 173 = .ok (.invokestatic 100, 3) := by decide +kernel
theorem dX2_describe_176 : decode cX2_describe 176 = .ok (.iastore, 1) := by decide +kernel
theorem dX2_describe_177 : decode cX2_describe 177 = .ok (.aload_n 0, 1) := by decide +kernel
theorem dX2_describe_178 : decode cX2_describe 178 = .ok (.getfield 35, 3) := by decide +kernel
theorem dX2_describe_181 : decode cX2_describe 181 = .ok (.bipush 8, 2) := by decide +kernel
theorem dX2_describe_183 : decode cX2_describe 183 = .ok (.iload 5, 2) := by decide +kernel
theorem dX2_describe_185 : decode cX2_describe 185 = .ok (.iload 6, 2) := by decide +kernel
theorem dX2_describe_187 : decode cX2_describe 187 = .ok (.invokestatic 78, 3) := by decide +kernel
theorem dX2_describe_190 : decode cX2_describe 190 = .ok (.iastore, 1) := by decide +kernel
theorem dX2_describe_191 : decode cX2_describe 191 = .ok (.return_, 1) := by decide +kernel
theorem dX2_holds_0 : decode cX2_holds 0 = .ok (.iload_n 3, 1) := by decide +kernel
theorem dX2_holds_1 : decode cX2_holds 1 = .ok (.iconst (-1), 1) := by decide +kernel
theorem dX2_holds_2 : decode cX2_holds 2 = .ok (.if_icmp .ne 12, 3) := by decide +kernel
theorem dX2_holds_5 : decode cX2_holds 5 = .ok (.aload_n 1, 1) := by decide +kernel
theorem dX2_holds_6 : decode cX2_holds 6 = .ok (.getfield 103, 3) := by decide +kernel
theorem dX2_holds_9 : decode cX2_holds 9 = .ok (.ifCond .ne 5, 3) := by decide +kernel
theorem dX2_holds_12 : decode cX2_holds 12 = .ok (.iconst 1, 1) := by decide +kernel
theorem dX2_holds_13 : decode cX2_holds 13 = .ok (.ireturn, 1) := by decide +kernel
theorem dX2_holds_14 : decode cX2_holds 14 = .ok (.aload_n 0, 1) := by decide +kernel
theorem dX2_holds_15 : decode cX2_holds 15 = .ok (.aload_n 1, 1) := by decide +kernel
theorem dX2_holds_16 : decode cX2_holds 16 = .ok (.iload_n 2, 1) := by decide +kernel
theorem dX2_holds_17 : decode cX2_holds 17 = .ok (.invokevirtual 106, 3) := by decide +kernel
theorem dX2_holds_20 : decode cX2_holds 20 = .ok (.iconst 0, 1) := by decide +kernel
theorem dX2_holds_21 : decode cX2_holds 21 = .ok (.istore 4, 2) := by decide +kernel
theorem dX2_holds_23 : decode cX2_holds 23 = .ok (.iload 4, 2) := by decide +kernel
theorem dX2_holds_25 : decode cX2_holds 25 = .ok (.aload_n 1, 1) := by decide +kernel
theorem dX2_holds_26 : decode cX2_holds 26 = .ok (.getfield 103, 3) := by decide +kernel
theorem dX2_holds_29 : decode cX2_holds 29 = .ok (.if_icmp .ge 40, 3) := by decide +kernel
theorem dX2_holds_32 : decode cX2_holds 32 = .ok (.iload_n 3, 1) := by decide +kernel
theorem dX2_holds_33 : decode cX2_holds 33 = .ok (.iconst (-1), 1) := by decide +kernel
theorem dX2_holds_34 : decode cX2_holds 34 = .ok (.if_icmp .eq 9, 3) := by decide +kernel
theorem dX2_holds_37 : decode cX2_holds 37 = .ok (.iload_n 3, 1) := by decide +kernel
theorem dX2_holds_38 : decode cX2_holds 38 = .ok (.iload 4, 2) := by decide +kernel
theorem dX2_holds_40 : decode cX2_holds 40 = .ok (.if_icmp .ne 23, 3) := by decide +kernel
theorem dX2_holds_43 : decode cX2_holds 43 = .ok (.aload_n 1, 1) := by decide +kernel
theorem dX2_holds_44 : decode cX2_holds 44 = .ok (.getfield 110, 3) := by decide +kernel
theorem dX2_holds_47 : decode cX2_holds 47 = .ok (.iconst 5, 1) := by decide +kernel
theorem dX2_holds_48 : decode cX2_holds 48 = .ok (.iload 4, 2) := by decide +kernel
theorem dX2_holds_50 : decode cX2_holds 50 = .ok (.iadd, 1) := by decide +kernel
theorem dX2_holds_51 : decode cX2_holds 51 = .ok (.aload_n 0, 1) := by decide +kernel
theorem dX2_holds_52 : decode cX2_holds 52 = .ok (.getfield 35, 3) := by decide +kernel
theorem dX2_holds_55 : decode cX2_holds 55 = .ok (.invokevirtual 114, 3) := by decide +kernel
theorem dX2_holds_58 : decode cX2_holds 58 = .ok (.ifCond .eq 5, 3) := by decide +kernel
theorem dX2_holds_61 : decode cX2_holds 61 = .ok (.iconst 1, 1) := by decide +kernel
theorem dX2_holds_62 : decode cX2_holds 62 = .ok (.ireturn, 1) := by decide +kernel
theorem dX2_holds_63 : decode cX2_holds 63 = .ok (.iinc 4 1, 3) := by decide +kernel
theorem dX2_holds_66 : decode cX2_holds 66 = .ok (.goto (-43), 3) := by decide +kernel
theorem dX2_holds_69 : decode cX2_holds 69 = .ok (.iconst 0, 1) := by decide +kernel
theorem dX2_holds_70 : decode cX2_holds 70 = .ok (.ireturn, 1) := by decide +kernel
theorem dX2_choose_0 : decode cX2_choose 0 = .ok (.aload_n 0, 1) := by decide +kernel
theorem dX2_choose_1 : decode cX2_choose 1 = .ok (.iconst 0, 1) := by decide +kernel
theorem dX2_choose_2 : decode cX2_choose 2 = .ok (.putfield 38, 3) := by decide +kernel
theorem dX2_choose_5 : decode cX2_choose 5 = .ok (.iconst 0, 1) := by decide +kernel
theorem dX2_choose_6 : decode cX2_choose 6 = .ok (.istore_n 3, 1) := by decide +kernel
theorem dX2_choose_7 : decode cX2_choose 7 = .ok (.iload_n 3, 1) := by decide +kernel
theorem dX2_choose_8 : decode cX2_choose 8 = .ok (.sipush 196, 3) := by decide +kernel
theorem dX2_choose_11 : decode cX2_choose 11 = .ok (.if_icmp .ge 71, 3) := by decide +kernel
theorem dX2_choose_14 : decode cX2_choose 14 = .ok (.aload_n 0, 1) := by decide +kernel
theorem dX2_choose_15 : decode cX2_choose 15 = .ok (.getfield 38, 3) := by decide +kernel
theorem dX2_choose_18 : decode cX2_choose 18 = .ok (.sipush 182, 3) := by decide +kernel
theorem dX2_choose_21 : decode cX2_choose 21 = .ok (.if_icmp .ge 61, 3) := by decide +kernel
theorem dX2_choose_24 : decode cX2_choose 24 = .ok (.aload_n 0, 1) := by decide +kernel
theorem dX2_choose_25 : decode cX2_choose 25 = .ok (.iload_n 3, 1) := by decide +kernel
theorem dX2_choose_26 : decode cX2_choose 26 = .ok (.invokevirtual 84, 3) := by decide +kernel
theorem dX2_choose_29 : decode cX2_choose 29 = .ok (.ifCond .eq 47, 3) := by decide +kernel
theorem dX2_choose_32 : decode cX2_choose 32 = .ok (.aload_n 0, 1) := by decide +kernel
theorem dX2_choose_33 : decode cX2_choose 33 = .ok (.aload_n 1, 1) := by decide +kernel
theorem dX2_choose_34 : decode cX2_choose 34 = .ok (.iload_n 3, 1) := by decide +kernel
theorem dX2_choose_35 : decode cX2_choose 35 = .ok (.iload_n 2, 1) := by decide +kernel
theorem dX2_choose_36 : decode cX2_choose 36 = .ok (.invokevirtual 120, 3) := by decide +kernel
theorem dX2_choose_39 : decode cX2_choose 39 = .ok (.ifCond .eq 37, 3) := by decide +kernel
theorem dX2_choose_42 : decode cX2_choose 42 = .ok (.aload_n 0, 1) := by decide +kernel
theorem dX2_choose_43 : decode cX2_choose 43 = .ok (.getfield 41, 3) := by decide +kernel
theorem dX2_choose_46 : decode cX2_choose 46 = .ok (.aload_n 0, 1) := by decide +kernel
theorem dX2_choose_47 : decode cX2_choose 47 = .ok (.getfield 38, 3) := by decide +kernel
theorem dX2_choose_50 : decode cX2_choose 50 = .ok (.iload_n 3, 1) := by decide +kernel
theorem dX2_choose_51 : decode cX2_choose 51 = .ok (.iastore, 1) := by decide +kernel
theorem dX2_choose_52 : decode cX2_choose 52 = .ok (.aload_n 0, 1) := by decide +kernel
theorem dX2_choose_53 : decode cX2_choose 53 = .ok (.getfield 44, 3) := by decide +kernel
theorem dX2_choose_56 : decode cX2_choose 56 = .ok (.aload_n 0, 1) := by decide +kernel
theorem dX2_choose_57 : decode cX2_choose 57 = .ok (.getfield 38, 3) := by decide +kernel
theorem dX2_choose_60 : decode cX2_choose 60 = .ok (.aload_n 0, 1) := by decide +kernel
theorem dX2_choose_61 : decode cX2_choose 61 = .ok (.iload_n 3, 1) := by decide +kernel
theorem dX2_choose_62 : decode cX2_choose 62 = .ok (.invokevirtual 124, 3) := by decide +kernel
theorem dX2_choose_65 : decode cX2_choose 65 = .ok (.iastore, 1) := by decide +kernel
theorem dX2_choose_66 : decode cX2_choose 66 = .ok (.aload_n 0, 1) := by decide +kernel
theorem dX2_choose_67 : decode cX2_choose 67 = .ok (.dup, 1) := by decide +kernel
theorem dX2_choose_68 : decode cX2_choose 68 = .ok (.getfield 38, 3) := by decide +kernel
theorem dX2_choose_71 : decode cX2_choose 71 = .ok (.iconst 1, 1) := by decide +kernel
theorem dX2_choose_72 : decode cX2_choose 72 = .ok (.iadd, 1) := by decide +kernel
theorem dX2_choose_73 : decode cX2_choose 73 = .ok (.putfield 38, 3) := by decide +kernel
theorem dX2_choose_76 : decode cX2_choose 76 = .ok (.iinc 3 1, 3) := by decide +kernel
theorem dX2_choose_79 : decode cX2_choose 79 = .ok (.goto (-72), 3) := by decide +kernel
theorem dX2_choose_82 : decode cX2_choose 82 = .ok (.return_, 1) := by decide +kernel
theorem dX3_init_0 : decode cX3_init 0 = .ok (.aload_n 0, 1) := by decide +kernel
theorem dX3_init_1 : decode cX3_init 1 = .ok (.invokespecial 3, 3) := by decide +kernel
theorem dX3_init_4 : decode cX3_init 4 = .ok (.aload_n 0, 1) := by decide +kernel
theorem dX3_init_5 : decode cX3_init 5 = .ok (.bipush 14, 2) := by decide +kernel
theorem dX3_init_7 : decode cX3_init 7 = .ok (.newarray .int, 2) := by decide +kernel
theorem dX3_init_9 : decode cX3_init 9 = .ok (.putfield 9, 3) := by decide +kernel
theorem dX3_init_12 : decode cX3_init 12 = .ok (.aload_n 0, 1) := by decide +kernel
theorem dX3_init_13 : decode cX3_init 13 = .ok (.bipush 14, 2) := by decide +kernel
theorem dX3_init_15 : decode cX3_init 15 = .ok (.newarray .int, 2) := by decide +kernel
theorem dX3_init_17 : decode cX3_init 17 = .ok (.putfield 15, 3) := by decide +kernel
theorem dX3_init_20 : decode cX3_init 20 = .ok (.return_, 1) := by decide +kernel
theorem dX3_make_0 : decode cX3_make 0 = .ok (.iconst 0, 1) := by decide +kernel
theorem dX3_make_1 : decode cX3_make 1 = .ok (.istore 5, 2) := by decide +kernel
theorem dX3_make_3 : decode cX3_make 3 = .ok (.iload 5, 2) := by decide +kernel
theorem dX3_make_5 : decode cX3_make 5 = .ok (.iload_n 2, 1) := by decide +kernel
theorem dX3_make_6 : decode cX3_make 6 = .ok (.if_icmp .ge 200, 3) := by decide +kernel
theorem dX3_make_9 : decode cX3_make 9 = .ok (.iconst 2, 1) := by decide +kernel
theorem dX3_make_10 : decode cX3_make 10 = .ok (.iload 5, 2) := by decide +kernel
theorem dX3_make_12 : decode cX3_make 12 = .ok (.imul, 1) := by decide +kernel
theorem dX3_make_13 : decode cX3_make 13 = .ok (.iconst 1, 1) := by decide +kernel
theorem dX3_make_14 : decode cX3_make 14 = .ok (.iadd, 1) := by decide +kernel
theorem dX3_make_15 : decode cX3_make 15 = .ok (.bipush 14, 2) := by decide +kernel
theorem dX3_make_17 : decode cX3_make 17 = .ok (.if_icmp .ge 189, 3) := by decide +kernel
theorem dX3_make_20 : decode cX3_make 20 = .ok (.sipush 360, 3) := by decide +kernel
theorem dX3_make_23 : decode cX3_make 23 = .ok (.iload_n 1, 1) := by decide +kernel
theorem dX3_make_24 : decode cX3_make 24 = .ok (.bipush 8, 2) := by decide +kernel
theorem dX3_make_26 : decode cX3_make 26 = .ok (.iload 5, 2) := by decide +kernel
theorem dX3_make_28 : decode cX3_make 28 = .ok (.imul, 1) := by decide +kernel
theorem dX3_make_29 : decode cX3_make 29 = .ok (.iconst 3, 1) := by decide +kernel
theorem dX3_make_30 : decode cX3_make 30 = .ok (.iadd, 1) := by decide +kernel
theorem dX3_make_31 : decode cX3_make 31 = .ok (.invokestatic 18, 3) := by decide +kernel
theorem dX3_make_34 : decode cX3_make 34 = .ok (.istore 6, 2) := by decide +kernel
theorem dX3_make_36 : decode cX3_make 36 = .ok (.iload 5, 2) := by decide +kernel
theorem dX3_make_38 : decode cX3_make 38 = .ok (.iload_n 3, 1) := by decide +kernel
theorem dX3_make_39 : decode cX3_make 39 = .ok (.if_icmp .ge 35, 3) := by decide +kernel
theorem dX3_make_42 : decode cX3_make 42 = .ok (.aload 4, 2) := by decide +kernel
theorem dX3_make_44 : decode cX3_make 44 = .ok (.getfield 22, 3) := by decide +kernel
theorem dX3_make_47 : decode cX3_make 47 = .ok (.ifCond .le 27, 3) := by decide +kernel
theorem dX3_make_50 : decode cX3_make 50 = .ok (.aload 4, 2) := by decide +kernel
theorem dX3_make_52 : decode cX3_make 52 = .ok (.getfield 28, 3) := by decide +kernel
theorem dX3_make_55 : decode cX3_make 55 = .ok (.aload 4, 2) := by decide +kernel
theorem dX3_make_57 : decode cX3_make 57 = .ok (.getfield 22, 3) := by decide +kernel
theorem dX3_make_60 : decode cX3_make 60 = .ok (.iload_n 1, 1) := by decide +kernel
theorem dX3_make_61 : decode cX3_make 61 = .ok (.bipush 8, 2) := by decide +kernel
theorem dX3_make_63 : decode cX3_make 63 = .ok (.iload 5, 2) := by decide +kernel
theorem dX3_make_65 : decode cX3_make 65 = .ok (.imul, 1) := by decide +kernel
theorem dX3_make_66 : decode cX3_make 66 = .ok (.iconst 4, 1) := by decide +kernel
theorem dX3_make_67 : decode cX3_make 67 = .ok (.iadd, 1) := by decide +kernel
theorem dX3_make_68 : decode cX3_make 68 = .ok (.invokestatic 18, 3) := by decide +kernel
theorem dX3_make_71 : decode cX3_make 71 = .ok (.iaload, 1) := by decide +kernel
theorem dX3_make_72 : decode cX3_make 72 = .ok (.istore 6, 2) := by decide +kernel
theorem dX3_make_74 : decode cX3_make 74 = .ok (.iconst 1, 1) := by decide +kernel
theorem dX3_make_75 : decode cX3_make 75 = .ok (.iconst 3, 1) := by decide +kernel
theorem dX3_make_76 : decode cX3_make 76 = .ok (.iload_n 1, 1) := by decide +kernel
theorem dX3_make_77 : decode cX3_make 77 = .ok (.bipush 8, 2) := by decide +kernel
theorem dX3_make_79 : decode cX3_make 79 = .ok (.iload 5, 2) := by decide +kernel
theorem dX3_make_81 : decode cX3_make 81 = .ok (.imul, 1) := by decide +kernel
theorem dX3_make_82 : decode cX3_make 82 = .ok (.iconst 2, 1) := by decide +kernel
theorem dX3_make_83 : decode cX3_make 83 = .ok (.iadd, 1) := by decide +kernel
theorem dX3_make_84 : decode cX3_make 84 = .ok (.invokestatic 18, 3) := by decide +kernel
theorem dX3_make_87 : decode cX3_make 87 = .ok (.iadd, 1) := by decide +kernel
theorem dX3_make_88 : decode cX3_make 88 = .ok (.istore 7, 2) := by decide +kernel
theorem dX3_make_90 : decode cX3_make 90 = .ok (.aload_n 0, 1) := by decide +kernel
theorem dX3_make_91 : decode cX3_make 91 = .ok (.getfield 9, 3) := by decide +kernel
theorem dX3_make_94 : decode cX3_make 94 = .ok (.iconst 2, 1) := by decide +kernel
theorem dX3_make_95 : decode cX3_make 95 = .ok (.iload 5, 2) := by decide +kernel
theorem dX3_make_97 : decode cX3_make 97 = .ok (.imul, 1) := by decide +kernel
theorem dX3_make_98 : decode cX3_make 98 = .ok (.sipush 300, 3) := by decide +kernel
theorem dX3_make_101 : decode cX3_make 101 = .ok (.sipush 400, 3) := by decide +kernel
theorem dX3_make_104 : decode cX3_make 104 = .ok (.iload_n 1, 1) := by decide +kernel
theorem dX3_make_105 : decode cX3_make 105 = .ok (.bipush 8, 2) := by decide +kernel
theorem dX3_make_107 : decode cX3_make 107 = .ok (.iload 5, 2) := by decide +kernel
theorem dX3_make_109 : decode cX3_make 109 = .ok (.imul, 1) := by decide +kernel
theorem dX3_make_110 : decode cX3_make 110 = .ok (.invokestatic 18, 3) := by decide +kernel
theorem dX3_make_113 : decode cX3_make 113 = .ok (.iadd, 1) := by decide +kernel
theorem dX3_make_114 : decode cX3_make 114 = .ok (.iastore, 1) := by decide +kernel
theorem dX3_make_115 : decode cX3_make 115 = .ok (.aload_n 0, 1) := by decide +kernel
theorem dX3_make_116 : decode cX3_make 116 = .ok (.getfield 15, 3) := by decide +kernel
theorem dX3_make_119 : decode cX3_make 119 = .ok (.iconst 2, 1) := by decide +kernel
theorem dX3_make_120 : decode cX3_make 120 = .ok (.iload 5, 2) := by decide +kernel
theorem dX3_make_122 : decode cX3_make 122 = .ok (.imul, 1) := by decide +kernel
theorem dX3_make_123 : decode cX3_make 123 = .ok (.sipush 300, 3) := by decide +kernel
theorem dX3_make_126 : decode cX3_make 126 = .ok (.sipush 400, 3) := by decide +kernel
theorem dX3_make_129 : decode cX3_make 129 = .ok (.iload_n 1, 1) := by decide +kernel
theorem dX3_make_130 : decode cX3_make 130 = .ok (.bipush 8, 2) := by decide +kernel
theorem dX3_make_132 : decode cX3_make 132 = .ok (.iload 5, 2) := by decide +kernel
theorem dX3_make_134 : decode cX3_make 134 = .ok (.imul, 1) := by decide +kernel
theorem dX3_make_135 : decode cX3_make 135 = .ok (.iconst 1, 1) := by decide +kernel
theorem dX3_make_136 : decode cX3_make 136 = .ok (.iadd, 1) := by decide +kernel
theorem dX3_make_137 : decode cX3_make 137 = .ok (.invokestatic 18, 3) := by decide +kernel
theorem dX3_make_140 : decode cX3_make 140 = .ok (.iadd, 1) := by decide +kernel
theorem dX3_make_141 : decode cX3_make 141 = .ok (.iastore, 1) := by decide +kernel
theorem dX3_make_142 : decode cX3_make 142 = .ok (.aload_n 0, 1) := by decide +kernel
theorem dX3_make_143 : decode cX3_make 143 = .ok (.getfield 9, 3) := by decide +kernel
theorem dX3_make_146 : decode cX3_make 146 = .ok (.iconst 2, 1) := by decide +kernel
theorem dX3_make_147 : decode cX3_make 147 = .ok (.iload 5, 2) := by decide +kernel
theorem dX3_make_149 : decode cX3_make 149 = .ok (.imul, 1) := by decide +kernel
theorem dX3_make_150 : decode cX3_make 150 = .ok (.iconst 1, 1) := by decide +kernel
theorem dX3_make_151 : decode cX3_make 151 = .ok (.iadd, 1) := by decide +kernel
theorem dX3_make_152 : decode cX3_make 152 = .ok (.aload_n 0, 1) := by decide +kernel
theorem dX3_make_153 : decode cX3_make 153 = .ok (.getfield 9, 3) := by decide +kernel
theorem dX3_make_156 : decode cX3_make 156 = .ok (.iconst 2, 1) := by decide +kernel
theorem dX3_make_157 : decode cX3_make 157 = .ok (.iload 5, 2) := by decide +kernel
theorem dX3_make_159 : decode cX3_make 159 = .ok (.imul, 1) := by decide +kernel
theorem dX3_make_160 : decode cX3_make 160 = .ok (.iaload, 1) := by decide +kernel
theorem dX3_make_161 : decode cX3_make 161 = .ok (.iload 7, 2) := by decide +kernel
theorem dX3_make_163 : decode cX3_make 163 = .ok (.iload 6, 2) := by decide +kernel
theorem dX3_make_165 : decode cX3_make 165 = .ok (.invokestatic 31, 3) := by decide +kernel
theorem dX3_make_168 : decode cX3_make 168 = .ok (.imul, 1) := by decide +kernel
theorem dX3_make_169 : decode cX3_make 169 = .ok (.iadd, 1) := by decide +kernel
theorem dX3_make_170 : decode cX3_make 170 = .ok (.iastore, 1) := by decide +kernel
theorem dX3_make_171 : decode cX3_make 171 = .ok (.aload_n 0, 1) := by decide +kernel
theorem dX3_make_172 : decode cX3_make 172 = .ok (.getfield 15, 3) := by decide +kernel
theorem dX3_make_175 : decode cX3_make 175 = .ok (.iconst 2, 1) := by decide +kernel
theorem dX3_make_176 : decode cX3_make 176 = .ok (.iload 5, 2) := by decide +kernel
theorem dX3_make_178 : decode cX3_make 178 = .ok (.imul, 1) := by decide +kernel
theorem dX3_make_179 : decode cX3_make 179 = .ok (.iconst 1, 1) := by decide +kernel
theorem dX3_make_180 : decode cX3_make 180 = .ok (.iadd, 1) := by decide +kernel
theorem dX3_make_181 : decode cX3_make 181 = .ok (.aload_n 0, 1) := by decide +kernel
theorem dX3_make_182 : decode cX3_make 182 = .ok (.getfield 15, 3) := by decide +kernel
theorem dX3_make_185 : decode cX3_make 185 = .ok (.iconst 2, 1) := by decide +kernel
theorem dX3_make_186 : decode cX3_make 186 = .ok (.iload 5, 2) := by decide +kernel
theorem dX3_make_188 : decode cX3_make 188 = .ok (.imul, 1) := by decide +kernel
theorem dX3_make_189 : decode cX3_make 189 = .ok (.iaload, 1) := by decide +kernel
theorem dX3_make_190 : decode cX3_make 190 = .ok (.iload 7, 2) := by decide +kernel
theorem dX3_make_192 : decode cX3_make 192 = .ok (.iload 6, 2) := by decide +kernel
theorem dX3_make_194 : decode cX3_make 194 = .ok (.invokestatic 37, 3) := by decide +kernel
theorem dX3_make_197 : decode cX3_make 197 = .ok (.imul, 1) := by decide +kernel
theorem dX3_make_198 : decode cX3_make 198 = .ok (.iadd, 1) := by decide +kernel
theorem dX3_make_199 : decode cX3_make 199 = .ok (.iastore, 1) := by decide +kernel
theorem dX3_make_200 : decode cX3_make 200 = .ok (.iinc 5 1, 3) := by decide +kernel
theorem dX3_make_203 : decode cX3_make 203 = .ok (.goto (-200), 3) := by decide +kernel
theorem dX3_make_206 : decode cX3_make 206 = .ok (.return_, 1) := by decide +kernel
theorem dX3_lot_0 : decode cX3_lot 0 = .ok (.iload_n 0, 1) := by decide +kernel
theorem dX3_lot_1 : decode cX3_lot 1 = .ok (.iconst 1, 1) := by decide +kernel
theorem dX3_lot_2 : decode cX3_lot 2 = .ok (.if_icmp .ge 5, 3) := by decide +kernel
theorem dX3_lot_5 : decode cX3_lot 5 = .ok (.iconst 0, 1) := by decide +kernel
theorem dX3_lot_6 : decode cX3_lot 6 = .ok (.ireturn, 1) := by decide +kernel
theorem dX3_lot_7 : decode cX3_lot 7 = .ok (.iload_n 1, 1) := by decide +kernel
theorem dX3_lot_8 : decode cX3_lot 8 = .ok (.iconst 2, 1) := by decide +kernel
theorem dX3_lot_9 : decode cX3_lot 9 = .ok (.invokestatic 40, 3) := by decide +kernel
theorem dX3_lot_12 : decode cX3_lot 12 = .ok (.iload_n 2, 1) := by decide +kernel
theorem dX3_lot_13 : decode cX3_lot 13 = .ok (.invokestatic 40, 3) := by decide +kernel
theorem dX3_lot_16 : decode cX3_lot 16 = .ok (.iconst 1, 1) := by decide +kernel
theorem dX3_lot_17 : decode cX3_lot 17 = .ok (.iushr, 1) := by decide +kernel
theorem dX3_lot_18 : decode cX3_lot 18 = .ok (.iload_n 0, 1) := by decide +kernel
theorem dX3_lot_19 : decode cX3_lot 19 = .ok (.irem, 1) := by decide +kernel
theorem dX3_lot_20 : decode cX3_lot 20 = .ok (.ireturn, 1) := by decide +kernel
theorem dX3_stir_0 : decode cX3_stir 0 = .ok (.iload_n 0, 1) := by decide +kernel
theorem dX3_stir_1 : decode cX3_stir 1 = .ok (.iload_n 1, 1) := by decide +kernel
theorem dX3_stir_2 : decode cX3_stir 2 = .ok (.ixor, 1) := by decide +kernel
theorem dX3_stir_3 : decode cX3_stir 3 = .ok (.ldc 44, 2) := by decide +kernel
theorem dX3_stir_5 : decode cX3_stir 5 = .ok (.imul, 1) := by decide +kernel
theorem dX3_stir_6 : decode cX3_stir 6 = .ok (.sipush 12345, 3) := by decide +kernel
theorem dX3_stir_9 : decode cX3_stir 9 = .ok (.iadd, 1) := by decide +kernel
theorem dX3_stir_10 : decode cX3_stir 10 = .ok (.istore_n 2, 1) := by decide +kernel
theorem dX3_stir_11 : decode cX3_stir 11 = .ok (.iload_n 2, 1) := by decide +kernel
theorem dX3_stir_12 : decode cX3_stir 12 = .ok (.iload_n 2, 1) := by decide +kernel
theorem dX3_stir_13 : decode cX3_stir 13 = .ok (.bipush 15, 2) := by decide +kernel
theorem dX3_stir_15 : decode cX3_stir 15 = .ok (.iushr, 1) := by decide +kernel
theorem dX3_stir_16 : decode cX3_stir 16 = .ok (.ixor, 1) := by decide +kernel
theorem dX3_stir_17 : decode cX3_stir 17 = .ok (.ireturn, 1) := by decide +kernel
theorem dX3_strikes_0 : decode cX3_strikes 0 = .ok (.iconst 0, 1) := by decide +kernel
theorem dX3_strikes_1 : decode cX3_strikes 1 = .ok (.istore_n 3, 1) := by decide +kernel
theorem dX3_strikes_2 : decode cX3_strikes 2 = .ok (.iconst 0, 1) := by decide +kernel
theorem dX3_strikes_3 : decode cX3_strikes 3 = .ok (.istore 4, 2) := by decide +kernel
theorem dX3_strikes_5 : decode cX3_strikes 5 = .ok (.iload 4, 2) := by decide +kernel
theorem dX3_strikes_7 : decode cX3_strikes 7 = .ok (.iconst 2, 1) := by decide +kernel
theorem dX3_strikes_8 : decode cX3_strikes 8 = .ok (.iload_n 1, 1) := by decide +kernel
theorem dX3_strikes_9 : decode cX3_strikes 9 = .ok (.imul, 1) := by decide +kernel
theorem dX3_strikes_10 : decode cX3_strikes 10 = .ok (.if_icmp .ge 91, 3) := by decide +kernel
theorem dX3_strikes_13 : decode cX3_strikes 13 = .ok (.iload 4, 2) := by decide +kernel
theorem dX3_strikes_15 : decode cX3_strikes 15 = .ok (.bipush 14, 2) := by decide +kernel
theorem dX3_strikes_17 : decode cX3_strikes 17 = .ok (.if_icmp .ge 84, 3) := by decide +kernel
theorem dX3_strikes_20 : decode cX3_strikes 20 = .ok (.iconst 0, 1) := by decide +kernel
theorem dX3_strikes_21 : decode cX3_strikes 21 = .ok (.istore 5, 2) := by decide +kernel
theorem dX3_strikes_23 : decode cX3_strikes 23 = .ok (.iload 5, 2) := by decide +kernel
theorem dX3_strikes_25 : decode cX3_strikes 25 = .ok (.iconst 2, 1) := by decide +kernel
theorem dX3_strikes_26 : decode cX3_strikes 26 = .ok (.iload_n 1, 1) := by decide +kernel
theorem dX3_strikes_27 : decode cX3_strikes 27 = .ok (.imul, 1) := by decide +kernel
theorem dX3_strikes_28 : decode cX3_strikes 28 = .ok (.if_icmp .ge 67, 3) := by decide +kernel
theorem dX3_strikes_31 : decode cX3_strikes 31 = .ok (.iload 5, 2) := by decide +kernel
theorem dX3_strikes_33 : decode cX3_strikes 33 = .ok (.bipush 14, 2) := by decide +kernel
theorem dX3_strikes_35 : decode cX3_strikes 35 = .ok (.if_icmp .ge 60, 3) := by decide +kernel
theorem dX3_strikes_38 : decode cX3_strikes 38 = .ok (.aload_n 0, 1) := by decide +kernel
theorem dX3_strikes_39 : decode cX3_strikes 39 = .ok (.getfield 9, 3) := by decide +kernel
theorem dX3_strikes_42 : decode cX3_strikes 42 = .ok (.iload 5, 2) := by decide +kernel
theorem dX3_strikes_44 : decode cX3_strikes 44 = .ok (.iaload, 1) := by decide +kernel
theorem dX3_strikes_45 : decode cX3_strikes 45 = .ok (.aload_n 0, 1) := by decide +kernel
theorem dX3_strikes_46 : decode cX3_strikes 46 = .ok (.getfield 9, 3) := by decide +kernel
theorem dX3_strikes_49 : decode cX3_strikes 49 = .ok (.iload 4, 2) := by decide +kernel
theorem dX3_strikes_51 : decode cX3_strikes 51 = .ok (.iaload, 1) := by decide +kernel
theorem dX3_strikes_52 : decode cX3_strikes 52 = .ok (.isub, 1) := by decide +kernel
theorem dX3_strikes_53 : decode cX3_strikes 53 = .ok (.aload_n 0, 1) := by decide +kernel
theorem dX3_strikes_54 : decode cX3_strikes 54 = .ok (.getfield 15, 3) := by decide +kernel
theorem dX3_strikes_57 : decode cX3_strikes 57 = .ok (.iload 5, 2) := by decide +kernel
theorem dX3_strikes_59 : decode cX3_strikes 59 = .ok (.iaload, 1) := by decide +kernel
theorem dX3_strikes_60 : decode cX3_strikes 60 = .ok (.aload_n 0, 1) := by decide +kernel
theorem dX3_strikes_61 : decode cX3_strikes 61 = .ok (.getfield 15, 3) := by decide +kernel
theorem dX3_strikes_64 : decode cX3_strikes 64 = .ok (.iload 4, 2) := by decide +kernel
theorem dX3_strikes_66 : decode cX3_strikes 66 = .ok (.iaload, 1) := by decide +kernel
theorem dX3_strikes_67 : decode cX3_strikes 67 = .ok (.isub, 1) := by decide +kernel
theorem dX3_strikes_68 : decode cX3_strikes 68 = .ok (.invokestatic 45, 3) := by decide +kernel
theorem dX3_strikes_71 : decode cX3_strikes 71 = .ok (.istore 6, 2) := by decide +kernel
theorem dX3_strikes_73 : decode cX3_strikes 73 = .ok (.iload 6, 2) := by decide +kernel
theorem dX3_strikes_75 : decode cX3_strikes 75 = .ok (.iconst (-1), 1) := by decide +kernel
theorem dX3_strikes_76 : decode cX3_strikes 76 = .ok (.if_icmp .eq 13, 3) := by decide +kernel
theorem dX3_strikes_79 : decode cX3_strikes 79 = .ok (.aload_n 2, 1) := by decide +kernel
theorem dX3_strikes_80 : decode cX3_strikes 80 = .ok (.iload 6, 2) := by decide +kernel
theorem dX3_strikes_82 : decode cX3_strikes 82 = .ok (.iaload, 1) := by decide +kernel
theorem dX3_strikes_83 : decode cX3_strikes 83 = .ok (.ifCond .eq 6, 3) := by decide +kernel
theorem dX3_strikes_86 : decode cX3_strikes 86 = .ok (.iinc 3 1, 3) := by decide +kernel
theorem dX3_strikes_89 : decode cX3_strikes 89 = .ok (.iinc 5 1, 3) := by decide +kernel
theorem dX3_strikes_92 : decode cX3_strikes 92 = .ok (.goto (-69), 3) := by decide +kernel
theorem dX3_strikes_95 : decode cX3_strikes 95 = .ok (.iinc 4 1, 3) := by decide +kernel
theorem dX3_strikes_98 : decode cX3_strikes 98 = .ok (.goto (-93), 3) := by decide +kernel
theorem dX3_strikes_101 : decode cX3_strikes 101 = .ok (.iload_n 3, 1) := by decide +kernel
theorem dX3_strikes_102 : decode cX3_strikes 102 = .ok (.ireturn, 1) := by decide +kernel
theorem dX4_init_0 : decode cX4_init 0 = .ok (.aload_n 0, 1) := by decide +kernel
theorem dX4_init_1 : decode cX4_init 1 = .ok (.invokespecial 3, 3) := by decide +kernel
theorem dX4_init_4 : decode cX4_init 4 = .ok (.aload_n 0, 1) := by decide +kernel
theorem dX4_init_5 : decode cX4_init 5 = .ok (.bipush 14, 2) := by decide +kernel
theorem dX4_init_7 : decode cX4_init 7 = .ok (.newarray .int, 2) := by decide +kernel
theorem dX4_init_9 : decode cX4_init 9 = .ok (.putfield 9, 3) := by decide +kernel
theorem dX4_init_12 : decode cX4_init 12 = .ok (.aload_n 0, 1) := by decide +kernel
theorem dX4_init_13 : decode cX4_init 13 = .ok (.sipush 2048, 3) := by decide +kernel
theorem dX4_init_16 : decode cX4_init 16 = .ok (.newarray .int, 2) := by decide +kernel
theorem dX4_init_18 : decode cX4_init 18 = .ok (.putfield 15, 3) := by decide +kernel
theorem dX4_init_21 : decode cX4_init 21 = .ok (.return_, 1) := by decide +kernel
theorem dX4_forget_0 : decode cX4_forget 0 = .ok (.aload_n 0, 1) := by decide +kernel
theorem dX4_forget_1 : decode cX4_forget 1 = .ok (.getfield 9, 3) := by decide +kernel
theorem dX4_forget_4 : decode cX4_forget 4 = .ok (.iconst 0, 1) := by decide +kernel
theorem dX4_forget_5 : decode cX4_forget 5 = .ok (.invokestatic 18, 3) := by decide +kernel
theorem dX4_forget_8 : decode cX4_forget 8 = .ok (.return_, 1) := by decide +kernel
theorem dX4_join_0 : decode cX4_join 0 = .ok (.iload_n 1, 1) := by decide +kernel
theorem dX4_join_1 : decode cX4_join 1 = .ok (.ifCond .lt 43, 3) := by decide +kernel
theorem dX4_join_4 : decode cX4_join 4 = .ok (.iload_n 1, 1) := by decide +kernel
theorem dX4_join_5 : decode cX4_join 5 = .ok (.bipush 14, 2) := by decide +kernel
theorem dX4_join_7 : decode cX4_join 7 = .ok (.if_icmp .ge 37, 3) := by decide +kernel
theorem dX4_join_10 : decode cX4_join 10 = .ok (.iload_n 2, 1) := by decide +kernel
theorem dX4_join_11 : decode cX4_join 11 = .ok (.ifCond .lt 33, 3) := by decide +kernel
theorem dX4_join_14 : decode cX4_join 14 = .ok (.iload_n 2, 1) := by decide +kernel
theorem dX4_join_15 : decode cX4_join 15 = .ok (.bipush 14, 2) := by decide +kernel
theorem dX4_join_17 : decode cX4_join 17 = .ok (.if_icmp .ge 27, 3) := by decide +kernel
theorem dX4_join_20 : decode cX4_join 20 = .ok (.aload_n 0, 1) := by decide +kernel
theorem dX4_join_21 : decode cX4_join 21 = .ok (.getfield 9, 3) := by decide +kernel
theorem dX4_join_24 : decode cX4_join 24 = .ok (.iload_n 1, 1) := by decide +kernel
theorem dX4_join_25 : decode cX4_join 25 = .ok (.dup2, 1) := by decide +kernel
theorem dX4_join_26 : decode cX4_join 26 = .ok (.iaload, 1) := by decide +kernel
theorem dX4_join_27 : decode cX4_join 27 = .ok (.iconst 1, 1) := by decide +kernel
theorem dX4_join_28 : decode cX4_join 28 = .ok (.iload_n 2, 1) := by decide +kernel
theorem dX4_join_29 : decode cX4_join 29 = .ok (.ishl, 1) := by decide +kernel
theorem dX4_join_30 : decode cX4_join 30 = .ok (.ior, 1) := by decide +kernel
theorem dX4_join_31 : decode cX4_join 31 = .ok (.iastore, 1) := by decide +kernel
theorem dX4_join_32 : decode cX4_join 32 = .ok (.aload_n 0, 1) := by decide +kernel
theorem dX4_join_33 : decode cX4_join 33 = .ok (.getfield 9, 3) := by decide +kernel
theorem dX4_join_36 : decode cX4_join 36 = .ok (.iload_n 2, 1) := by decide +kernel
theorem dX4_join_37 : decode cX4_join 37 = .ok (.dup2, 1) := by decide +kernel
theorem dX4_join_38 : decode cX4_join 38 = .ok (.iaload, 1) := by decide +kernel
theorem dX4_join_39 : decode cX4_join 39 = .ok (.iconst 1, 1) := by decide +kernel
theorem dX4_join_40 : decode cX4_join 40 = .ok (.iload_n 1, 1) := by decide +kernel
theorem dX4_join_41 : decode cX4_join 41 = .ok (.ishl, 1) := by decide +kernel
