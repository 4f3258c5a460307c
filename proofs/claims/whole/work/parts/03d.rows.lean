theorem dX11_init_0 : decode cX11_init 0 = .ok (.aload_n 0, 1) := by decide +kernel
theorem dX11_init_1 : decode cX11_init 1 = .ok (.invokespecial 3, 3) := by decide +kernel
theorem dX11_init_4 : decode cX11_init 4 = .ok (.aload_n 0, 1) := by decide +kernel
theorem dX11_init_5 : decode cX11_init 5 = .ok (.new 9, 3) := by decide +kernel
theorem dX11_init_8 : decode cX11_init 8 = .ok (.dup, 1) := by decide +kernel
theorem dX11_init_9 : decode cX11_init 9 = .ok (.invokespecial 11, 3) := by decide +kernel
theorem dX11_init_12 : decode cX11_init 12 = .ok (.putfield 12, 3) := by decide +kernel
theorem dX11_init_15 : decode cX11_init 15 = .ok (.aload_n 0, 1) := by decide +kernel
theorem dX11_init_16 : decode cX11_init 16 = .ok (.new 16, 3) := by decide +kernel
theorem dX11_init_19 : decode cX11_init 19 = .ok (.dup, 1) := by decide +kernel
theorem dX11_init_20 : decode cX11_init 20 = .ok (.invokespecial 18, 3) := by decide +kernel
theorem dX11_init_23 : decode cX11_init 23 = .ok (.putfield 19, 3) := by decide +kernel
theorem dX11_init_26 : decode cX11_init 26 = .ok (.aload_n 0, 1) := by decide +kernel
theorem dX11_init_27 : decode cX11_init 27 = .ok (.new 16, 3) := by decide +kernel
theorem dX11_init_30 : decode cX11_init 30 = .ok (.dup, 1) := by decide +kernel
theorem dX11_init_31 : decode cX11_init 31 = .ok (.invokespecial 18, 3) := by decide +kernel
theorem dX11_init_34 : decode cX11_init 34 = .ok (.putfield 23, 3) := by decide +kernel
theorem dX11_init_37 : decode cX11_init 37 = .ok (.aload_n 0, 1) := by decide +kernel
theorem dX11_init_38 : decode cX11_init 38 = .ok (.new 26, 3) := by decide +kernel
theorem dX11_init_41 : decode cX11_init 41 = .ok (.dup, 1) := by decide +kernel
theorem dX11_init_42 : decode cX11_init 42 = .ok (.aload_n 0, 1) := by decide +kernel
theorem dX11_init_43 : decode cX11_init 43 = .ok (.getfield 12, 3) := by decide +kernel
theorem dX11_init_46 : decode cX11_init 46 = .ok (.aload_n 0, 1) := by decide +kernel
theorem dX11_init_47 : decode cX11_init 47 = .ok (.getfield 23, 3) := by decide +kernel
theorem dX11_init_50 : decode cX11_init 50 = .ok (.invokespecial 28, 3) := by decide +kernel
theorem dX11_init_53 : decode cX11_init 53 = .ok (.putfield 31, 3) := by decide +kernel
theorem dX11_init_56 : decode cX11_init 56 = .ok (.aload_n 0, 1) := by decide +kernel
theorem dX11_init_57 : decode cX11_init 57 = .ok (.new 35, 3) := by decide +kernel
theorem dX11_init_60 : decode cX11_init 60 = .ok (.dup, 1) := by decide +kernel
theorem dX11_init_61 : decode cX11_init 61 = .ok (.invokespecial 37, 3) := by decide +kernel
theorem dX11_init_64 : decode cX11_init 64 = .ok (.putfield 38, 3) := by decide +kernel
theorem dX11_init_67 : decode cX11_init 67 = .ok (.aload_n 0, 1) := by decide +kernel
theorem dX11_init_68 : decode cX11_init 68 = .ok (.iconst 3, 1) := by decide +kernel
theorem dX11_init_69 : decode cX11_init 69 = .ok (.anewarray 16, 3) := by decide +kernel
theorem dX11_init_72 : decode cX11_init 72 = .ok (.putfield 42, 3) := by decide +kernel
theorem dX11_init_75 : decode cX11_init 75 = .ok (.aload_n 0, 1) := by decide +kernel
theorem dX11_init_76 : decode cX11_init 76 = .ok (.iconst 3, 1) := by decide +kernel
theorem dX11_init_77 : decode cX11_init 77 = .ok (.anewarray 35, 3) := by decide +kernel
theorem dX11_init_80 : decode cX11_init 80 = .ok (.putfield 46, 3) := by decide +kernel
theorem dX11_init_83 : decode cX11_init 83 = .ok (.aload_n 0, 1) := by decide +kernel
theorem dX11_init_84 : decode cX11_init 84 = .ok (.new 50, 3) := by decide +kernel
theorem dX11_init_87 : decode cX11_init 87 = .ok (.dup, 1) := by decide +kernel
theorem dX11_init_88 : decode cX11_init 88 = .ok (.invokespecial 52, 3) := by decide +kernel
theorem dX11_init_91 : decode cX11_init 91 = .ok (.putfield 53, 3) := by decide +kernel
theorem dX11_init_94 : decode cX11_init 94 = .ok (.aload_n 0, 1) := by decide +kernel
theorem dX11_init_95 : decode cX11_init 95 = .ok (.new 57, 3) := by decide +kernel
theorem dX11_init_98 : decode cX11_init 98 = .ok (.dup, 1) := by decide +kernel
theorem dX11_init_99 : decode cX11_init 99 = .ok (.invokespecial 59, 3) := by decide +kernel
theorem dX11_init_102 : decode cX11_init 102 = .ok (.putfield 60, 3) := by decide +kernel
theorem dX11_init_105 : decode cX11_init 105 = .ok (.aload_n 0, 1) := by decide +kernel
theorem dX11_init_106 : decode cX11_init 106 = .ok (.new 64, 3) := by decide +kernel
theorem dX11_init_109 : decode cX11_init 109 = .ok (.dup, 1) := by decide +kernel
theorem dX11_init_110 : decode cX11_init 110 = .ok (.invokespecial 66, 3) := by decide +kernel
theorem dX11_init_113 : decode cX11_init 113 = .ok (.putfield 67, 3) := by decide +kernel
theorem dX11_init_116 : decode cX11_init 116 = .ok (.aload_n 0, 1) := by decide +kernel
theorem dX11_init_117 : decode cX11_init 117 = .ok (.new 71, 3) := by decide +kernel
theorem dX11_init_120 : decode cX11_init 120 = .ok (.dup, 1) := by decide +kernel
theorem dX11_init_121 : decode cX11_init 121 = .ok (.invokespecial 73, 3) := by decide +kernel
theorem dX11_init_124 : decode cX11_init 124 = .ok (.putfield 74, 3) := by decide +kernel
theorem dX11_init_127 : decode cX11_init 127 = .ok (.aload_n 0, 1) := by decide +kernel
theorem dX11_init_128 : decode cX11_init 128 = .ok (.new 78, 3) := by decide +kernel
theorem dX11_init_131 : decode cX11_init 131 = .ok (.dup, 1) := by decide +kernel
theorem dX11_init_132 : decode cX11_init 132 = .ok (.invokespecial 80, 3) := by decide +kernel
theorem dX11_init_135 : decode cX11_init 135 = .ok (.putfield 81, 3) := by decide +kernel
theorem dX11_init_138 : decode cX11_init 138 = .ok (.aload_n 0, 1) := by decide +kernel
theorem dX11_init_139 : decode cX11_init 139 = .ok (.iconst 0, 1) := by decide +kernel
theorem dX11_init_140 : decode cX11_init 140 = .ok (.putfield 85, 3) := by decide +kernel
theorem dX11_init_143 : decode cX11_init 143 = .ok (.aload_n 0, 1) := by decide +kernel
theorem dX11_init_144 : decode cX11_init 144 = .ok (.bipush 6, 2) := by decide +kernel
theorem dX11_init_146 : decode cX11_init 146 = .ok (.newarray .int, 2) := by decide +kernel
theorem dX11_init_148 : decode cX11_init 148 = .ok (.putfield 89, 3) := by decide +kernel
theorem dX11_init_151 : decode cX11_init 151 = .ok (.aload_n 0, 1) := by decide +kernel
theorem dX11_init_152 : decode cX11_init 152 = .ok (.bipush 6, 2) := by decide +kernel
theorem dX11_init_154 : decode cX11_init 154 = .ok (.newarray .int, 2) := by decide +kernel
theorem dX11_init_156 : decode cX11_init 156 = .ok (.putfield 93, 3) := by decide +kernel
theorem dX11_init_159 : decode cX11_init 159 = .ok (.aload_n 0, 1) := by decide +kernel
theorem dX11_init_160 : decode cX11_init 160 = .ok (.sipush 2001, 3) := by decide +kernel
theorem dX11_init_163 : decode cX11_init 163 = .ok (.newarray .boolean, 2) := by decide +kernel
theorem dX11_init_165 : decode cX11_init 165 = .ok (.putfield 96, 3) := by decide +kernel
theorem dX11_init_168 : decode cX11_init 168 = .ok (.return_, 1) := by decide +kernel
theorem dX11_feed_0 : decode cX11_feed 0 = .ok (.aload_n 0, 1) := by decide +kernel
theorem dX11_feed_1 : decode cX11_feed 1 = .ok (.getfield 12, 3) := by decide +kernel
theorem dX11_feed_4 : decode cX11_feed 4 = .ok (.getfield 100, 3) := by decide +kernel
theorem dX11_feed_7 : decode cX11_feed 7 = .ok (.bipush 20, 2) := by decide +kernel
theorem dX11_feed_9 : decode cX11_feed 9 = .ok (.iadd, 1) := by decide +kernel
theorem dX11_feed_10 : decode cX11_feed 10 = .ok (.sipush 2000, 3) := by decide +kernel
theorem dX11_feed_13 : decode cX11_feed 13 = .ok (.if_icmp .le 5, 3) := by decide +kernel
theorem dX11_feed_16 : decode cX11_feed 16 = .ok (.iconst (-1), 1) := by decide +kernel
theorem dX11_feed_17 : decode cX11_feed 17 = .ok (.ireturn, 1) := by decide +kernel
theorem dX11_feed_18 : decode cX11_feed 18 = .ok (.aload_n 0, 1) := by decide +kernel
theorem dX11_feed_19 : decode cX11_feed 19 = .ok (.getfield 12, 3) := by decide +kernel
theorem dX11_feed_22 : decode cX11_feed 22 = .ok (.iload_n 1, 1) := by decide +kernel
theorem dX11_feed_23 : decode cX11_feed 23 = .ok (.invokevirtual 103, 3) := by decide +kernel
theorem dX11_feed_26 : decode cX11_feed 26 = .ok (.aload_n 0, 1) := by decide +kernel
theorem dX11_feed_27 : decode cX11_feed 27 = .ok (.getfield 12, 3) := by decide +kernel
theorem dX11_feed_30 : decode cX11_feed 30 = .ok (.iload_n 2, 1) := by decide +kernel
theorem dX11_feed_31 : decode cX11_feed 31 = .ok (.invokevirtual 103, 3) := by decide +kernel
theorem dX11_feed_34 : decode cX11_feed 34 = .ok (.aload_n 0, 1) := by decide +kernel
theorem dX11_feed_35 : decode cX11_feed 35 = .ok (.getfield 12, 3) := by decide +kernel
theorem dX11_feed_38 : decode cX11_feed 38 = .ok (.iload_n 3, 1) := by decide +kernel
theorem dX11_feed_39 : decode cX11_feed 39 = .ok (.invokevirtual 103, 3) := by decide +kernel
theorem dX11_feed_42 : decode cX11_feed 42 = .ok (.aload_n 0, 1) := by decide +kernel
theorem dX11_feed_43 : decode cX11_feed 43 = .ok (.getfield 12, 3) := by decide +kernel
theorem dX11_feed_46 : decode cX11_feed 46 = .ok (.iload 4, 2) := by decide +kernel
theorem dX11_feed_48 : decode cX11_feed 48 = .ok (.invokevirtual 103, 3) := by decide +kernel
theorem dX11_feed_51 : decode cX11_feed 51 = .ok (.aload_n 0, 1) := by decide +kernel
theorem dX11_feed_52 : decode cX11_feed 52 = .ok (.getfield 12, 3) := by decide +kernel
theorem dX11_feed_55 : decode cX11_feed 55 = .ok (.iload 5, 2) := by decide +kernel
theorem dX11_feed_57 : decode cX11_feed 57 = .ok (.invokevirtual 103, 3) := by decide +kernel
theorem dX11_feed_60 : decode cX11_feed 60 = .ok (.aload_n 0, 1) := by decide +kernel
theorem dX11_feed_61 : decode cX11_feed 61 = .ok (.getfield 12, 3) := by decide +kernel
theorem dX11_feed_64 : decode cX11_feed 64 = .ok (.getfield 100, 3) := by decide +kernel
theorem dX11_feed_67 : decode cX11_feed 67 = .ok (.ireturn, 1) := by decide +kernel
theorem dX11_back_0 : decode cX11_back 0 = .ok (.iload_n 1, 1) := by decide +kernel
theorem dX11_back_1 : decode cX11_back 1 = .ok (.ifCond .lt 14, 3) := by decide +kernel
theorem dX11_back_4 : decode cX11_back 4 = .ok (.iload_n 1, 1) := by decide +kernel
theorem dX11_back_5 : decode cX11_back 5 = .ok (.aload_n 0, 1) := by decide +kernel
theorem dX11_back_6 : decode cX11_back 6 = .ok (.getfield 12, 3) := by decide +kernel
theorem dX11_back_9 : decode cX11_back 9 = .ok (.getfield 100, 3) := by decide +kernel
theorem dX11_back_12 : decode cX11_back 12 = .ok (.if_icmp .le 5, 3) := by decide +kernel
theorem dX11_back_15 : decode cX11_back 15 = .ok (.iconst (-1), 1) := by decide +kernel
theorem dX11_back_16 : decode cX11_back 16 = .ok (.ireturn, 1) := by decide +kernel
theorem dX11_back_17 : decode cX11_back 17 = .ok (.aload_n 0, 1) := by decide +kernel
theorem dX11_back_18 : decode cX11_back 18 = .ok (.getfield 12, 3) := by decide +kernel
theorem dX11_back_21 : decode cX11_back 21 = .ok (.dup, 1) := by decide +kernel
theorem dX11_back_22 : decode cX11_back 22 = .ok (.getfield 100, 3) := by decide +kernel
theorem dX11_back_25 : decode cX11_back 25 = .ok (.iload_n 1, 1) := by decide +kernel
theorem dX11_back_26 : decode cX11_back 26 = .ok (.isub, 1) := by decide +kernel
theorem dX11_back_27 : decode cX11_back 27 = .ok (.putfield 100, 3) := by decide +kernel
theorem dX11_back_30 : decode cX11_back 30 = .ok (.aload_n 0, 1) := by decide +kernel
theorem dX11_back_31 : decode cX11_back 31 = .ok (.getfield 12, 3) := by decide +kernel
theorem dX11_back_34 : decode cX11_back 34 = .ok (.getfield 100, 3) := by decide +kernel
theorem dX11_back_37 : decode cX11_back 37 = .ok (.ireturn, 1) := by decide +kernel
theorem dX11_read_0 : decode cX11_read 0 = .ok (.aload_n 0, 1) := by decide +kernel
theorem dX11_read_1 : decode cX11_read 1 = .ok (.getfield 12, 3) := by decide +kernel
theorem dX11_read_4 : decode cX11_read 4 = .ok (.invokevirtual 107, 3) := by decide +kernel
theorem dX11_read_7 : decode cX11_read 7 = .ok (.aload_n 0, 1) := by decide +kernel
theorem dX11_read_8 : decode cX11_read 8 = .ok (.getfield 12, 3) := by decide +kernel
theorem dX11_read_11 : decode cX11_read 11 = .ok (.iconst 0, 1) := by decide +kernel
theorem dX11_read_12 : decode cX11_read 12 = .ok (.putfield 100, 3) := by decide +kernel
theorem dX11_read_15 : decode cX11_read 15 = .ok (.aload_n 0, 1) := by decide +kernel
theorem dX11_read_16 : decode cX11_read 16 = .ok (.getfield 23, 3) := by decide +kernel
theorem dX11_read_19 : decode cX11_read 19 = .ok (.invokevirtual 110, 3) := by decide +kernel
theorem dX11_read_22 : decode cX11_read 22 = .ok (.aload_n 0, 1) := by decide +kernel
theorem dX11_read_23 : decode cX11_read 23 = .ok (.getfield 31, 3) := by decide +kernel
theorem dX11_read_26 : decode cX11_read 26 = .ok (.aload_n 0, 1) := by decide +kernel
theorem dX11_read_27 : decode cX11_read 27 = .ok (.getfield 23, 3) := by decide +kernel
theorem dX11_read_30 : decode cX11_read 30 = .ok (.invokevirtual 113, 3) := by decide +kernel
theorem dX11_read_33 : decode cX11_read 33 = .ok (.aload_n 0, 1) := by decide +kernel
theorem dX11_read_34 : decode cX11_read 34 = .ok (.getfield 31, 3) := by decide +kernel
theorem dX11_read_37 : decode cX11_read 37 = .ok (.getfield 117, 3) := by decide +kernel
theorem dX11_read_40 : decode cX11_read 40 = .ok (.ifCond .ne 28, 3) := by decide +kernel
theorem dX11_read_43 : decode cX11_read 43 = .ok (.aload_n 0, 1) := by decide +kernel
theorem dX11_read_44 : decode cX11_read 44 = .ok (.getfield 19, 3) := by decide +kernel
theorem dX11_read_47 : decode cX11_read 47 = .ok (.astore_n 1, 1) := by decide +kernel
theorem dX11_read_48 : decode cX11_read 48 = .ok (.aload_n 0, 1) := by decide +kernel
theorem dX11_read_49 : decode cX11_read 49 = .ok (.aload_n 0, 1) := by decide +kernel
theorem dX11_read_50 : decode cX11_read 50 = .ok (.getfield 23, 3) := by decide +kernel
theorem dX11_read_53 : decode cX11_read 53 = .ok (.putfield 19, 3) := by decide +kernel
theorem dX11_read_56 : decode cX11_read 56 = .ok (.aload_n 0, 1) := by decide +kernel
theorem dX11_read_57 : decode cX11_read 57 = .ok (.aload_n 1, 1) := by decide +kernel
theorem dX11_read_58 : decode cX11_read 58 = .ok (.putfield 23, 3) := by decide +kernel
theorem dX11_read_61 : decode cX11_read 61 = .ok (.aload_n 0, 1) := by decide +kernel
theorem dX11_read_62 : decode cX11_read 62 = .ok (.getfield 38, 3) := by decide +kernel
theorem dX11_read_65 : decode cX11_read 65 = .ok (.invokevirtual 120, 3) := by decide +kernel
theorem dX11_read_68 : decode cX11_read 68 = .ok (.aload_n 0, 1) := by decide +kernel
theorem dX11_read_69 : decode cX11_read 69 = .ok (.getfield 31, 3) := by decide +kernel
theorem dX11_read_72 : decode cX11_read 72 = .ok (.getfield 117, 3) := by decide +kernel
theorem dX11_read_75 : decode cX11_read 75 = .ok (.ireturn, 1) := by decide +kernel
theorem dX11_place_0 : decode cX11_place 0 = .ok (.aload_n 0, 1) := by decide +kernel
theorem dX11_place_1 : decode cX11_place 1 = .ok (.getfield 31, 3) := by decide +kernel
theorem dX11_place_4 : decode cX11_place 4 = .ok (.getfield 121, 3) := by decide +kernel
theorem dX11_place_7 : decode cX11_place 7 = .ok (.ireturn, 1) := by decide +kernel
theorem dX11_found_0 : decode cX11_found 0 = .ok (.aload_n 0, 1) := by decide +kernel
theorem dX11_found_1 : decode cX11_found 1 = .ok (.invokevirtual 124, 3) := by decide +kernel
theorem dX11_found_4 : decode cX11_found 4 = .ok (.istore 4, 2) := by decide +kernel
theorem dX11_found_6 : decode cX11_found 6 = .ok (.aload_n 0, 1) := by decide +kernel
theorem dX11_found_7 : decode cX11_found 7 = .ok (.getfield 38, 3) := by decide +kernel
theorem dX11_found_10 : decode cX11_found 10 = .ok (.getfield 128, 3) := by decide +kernel
theorem dX11_found_13 : decode cX11_found 13 = .ok (.bipush 60, 2) := by decide +kernel
theorem dX11_found_15 : decode cX11_found 15 = .ok (.if_icmp .ge 25, 3) := by decide +kernel
theorem dX11_found_18 : decode cX11_found 18 = .ok (.iload 4, 2) := by decide +kernel
theorem dX11_found_20 : decode cX11_found 20 = .ok (.bipush 14, 2) := by decide +kernel
theorem dX11_found_22 : decode cX11_found 22 = .ok (.if_icmp .ge 18, 3) := by decide +kernel
theorem dX11_found_25 : decode cX11_found 25 = .ok (.iload_n 1, 1) := by decide +kernel
theorem dX11_found_26 : decode cX11_found 26 = .ok (.iload_n 2, 1) := by decide +kernel
theorem dX11_found_27 : decode cX11_found 27 = .ok (.invokestatic 131, 3) := by decide +kernel
theorem dX11_found_30 : decode cX11_found 30 = .ok (.ifCond .eq 10, 3) := by decide +kernel
theorem dX11_found_33 : decode cX11_found 33 = .ok (.iload_n 3, 1) := by decide +kernel
theorem dX11_found_34 : decode cX11_found 34 = .ok (.invokestatic 135, 3) := by decide +kernel
theorem dX11_found_37 : decode cX11_found 37 = .ok (.ifCond .ne 5, 3) := by decide +kernel
theorem dX11_found_40 : decode cX11_found 40 = .ok (.iconst (-1), 1) := by decide +kernel
theorem dX11_found_41 : decode cX11_found 41 = .ok (.ireturn, 1) := by decide +kernel
theorem dX11_found_42 : decode cX11_found 42 = .ok (.aload_n 0, 1) := by decide +kernel
theorem dX11_found_43 : decode cX11_found 43 = .ok (.getfield 38, 3) := by decide +kernel
theorem dX11_found_46 : decode cX11_found 46 = .ok (.iconst 0, 1) := by decide +kernel
theorem dX11_found_47 : decode cX11_found 47 = .ok (.iload 4, 2) := by decide +kernel
theorem dX11_found_49 : decode cX11_found 49 = .ok (.iload_n 1, 1) := by decide +kernel
theorem dX11_found_50 : decode cX11_found 50 = .ok (.iload_n 2, 1) := by decide +kernel
theorem dX11_found_51 : decode cX11_found 51 = .ok (.iload_n 3, 1) := by decide +kernel
theorem dX11_found_52 : decode cX11_found 52 = .ok (.invokevirtual 139, 3) := by decide +kernel
theorem dX11_found_55 : decode cX11_found 55 = .ok (.pop, 1) := by decide +kernel
theorem dX11_found_56 : decode cX11_found 56 = .ok (.aload_n 0, 1) := by decide +kernel
theorem dX11_found_57 : decode cX11_found 57 = .ok (.getfield 38, 3) := by decide +kernel
theorem dX11_found_60 : decode cX11_found 60 = .ok (.dup, 1) := by decide +kernel
theorem dX11_found_61 : decode cX11_found 61 = .ok (.getfield 143, 3) := by decide +kernel
theorem dX11_found_64 : decode cX11_found 64 = .ok (.iconst 1, 1) := by decide +kernel
theorem dX11_found_65 : decode cX11_found 65 = .ok (.iadd, 1) := by decide +kernel
theorem dX11_found_66 : decode cX11_found 66 = .ok (.putfield 143, 3) := by decide +kernel
theorem dX11_found_69 : decode cX11_found 69 = .ok (.iload 4, 2) := by decide +kernel
theorem dX11_found_71 : decode cX11_found 71 = .ok (.ireturn, 1) := by decide +kernel
theorem dX11_move_0 : decode cX11_move 0 = .ok (.aload_n 0, 1) := by decide +kernel
theorem dX11_move_1 : decode cX11_move 1 = .ok (.iload_n 1, 1) := by decide +kernel
theorem dX11_move_2 : decode cX11_move 2 = .ok (.invokevirtual 146, 3) := by decide +kernel
theorem dX11_move_5 : decode cX11_move 5 = .ok (.ifCond .eq 11, 3) := by decide +kernel
theorem dX11_move_8 : decode cX11_move 8 = .ok (.iload_n 2, 1) := by decide +kernel
theorem dX11_move_9 : decode cX11_move 9 = .ok (.iload_n 3, 1) := by decide +kernel
theorem dX11_move_10 : decode cX11_move 10 = .ok (.invokestatic 131, 3) := by decide +kernel
theorem dX11_move_13 : decode cX11_move 13 = .ok (.ifCond .ne 5, 3) := by decide +kernel
theorem dX11_move_16 : decode cX11_move 16 = .ok (.iconst (-1), 1) := by decide +kernel
theorem dX11_move_17 : decode cX11_move 17 = .ok (.ireturn, 1) := by decide +kernel
theorem dX11_move_18 : decode cX11_move 18 = .ok (.aload_n 0, 1) := by decide +kernel
theorem dX11_move_19 : decode cX11_move 19 = .ok (.getfield 38, 3) := by decide +kernel
theorem dX11_move_22 : decode cX11_move 22 = .ok (.iconst 1, 1) := by decide +kernel
theorem dX11_move_23 : decode cX11_move 23 = .ok (.iload_n 1, 1) := by decide +kernel
theorem dX11_move_24 : decode cX11_move 24 = .ok (.iload_n 2, 1) := by decide +kernel
theorem dX11_move_25 : decode cX11_move 25 = .ok (.iload_n 3, 1) := by decide +kernel
theorem dX11_move_26 : decode cX11_move 26 = .ok (.iconst 0, 1) := by decide +kernel
theorem dX11_move_27 : decode cX11_move 27 = .ok (.invokevirtual 139, 3) := by decide +kernel
theorem dX11_move_30 : decode cX11_move 30 = .ok (.ireturn, 1) := by decide +kernel
theorem dX11_gone_0 : decode cX11_gone 0 = .ok (.aload_n 0, 1) := by decide +kernel
theorem dX11_gone_1 : decode cX11_gone 1 = .ok (.iload_n 1, 1) := by decide +kernel
theorem dX11_gone_2 : decode cX11_gone 2 = .ok (.invokevirtual 146, 3) := by decide +kernel
theorem dX11_gone_5 : decode cX11_gone 5 = .ok (.ifCond .ne 5, 3) := by decide +kernel
theorem dX11_gone_8 : decode cX11_gone 8 = .ok (.iconst (-1), 1) := by decide +kernel
theorem dX11_gone_9 : decode cX11_gone 9 = .ok (.ireturn, 1) := by decide +kernel
theorem dX11_gone_10 : decode cX11_gone 10 = .ok (.aload_n 0, 1) := by decide +kernel
theorem dX11_gone_11 : decode cX11_gone 11 = .ok (.getfield 38, 3) := by decide +kernel
theorem dX11_gone_14 : decode cX11_gone 14 = .ok (.iconst 2, 1) := by decide +kernel
theorem dX11_gone_15 : decode cX11_gone 15 = .ok (.iload_n 1, 1) := by decide +kernel
theorem dX11_gone_16 : decode cX11_gone 16 = .ok (.iconst 0, 1) := by decide +kernel
theorem dX11_gone_17 : decode cX11_gone 17 = .ok (.iconst 0, 1) := by decide +kernel
theorem dX11_gone_18 : decode cX11_gone 18 = .ok (.iconst 0, 1) := by decide +kernel
theorem dX11_gone_19 : decode cX11_gone 19 = .ok (.invokevirtual 139, 3) := by decide +kernel
theorem dX11_gone_22 : decode cX11_gone 22 = .ok (.ireturn, 1) := by decide +kernel
theorem dX11_date_0 : decode cX11_date 0 = .ok (.aload_n 0, 1) := by decide +kernel
theorem dX11_date_1 : decode cX11_date 1 = .ok (.iload_n 1, 1) := by decide +kernel
theorem dX11_date_2 : decode cX11_date 2 = .ok (.invokevirtual 146, 3) := by decide +kernel
theorem dX11_date_5 : decode cX11_date 5 = .ok (.ifCond .eq 10, 3) := by decide +kernel
theorem dX11_date_8 : decode cX11_date 8 = .ok (.iload_n 2, 1) := by decide +kernel
theorem dX11_date_9 : decode cX11_date 9 = .ok (.invokestatic 135, 3) := by decide +kernel
theorem dX11_date_12 : decode cX11_date 12 = .ok (.ifCond .ne 5, 3) := by decide +kernel
theorem dX11_date_15 : decode cX11_date 15 = .ok (.iconst (-1), 1) := by decide +kernel
theorem dX11_date_16 : decode cX11_date 16 = .ok (.ireturn, 1) := by decide +kernel
theorem dX11_date_17 : decode cX11_date 17 = .ok (.aload_n 0, 1) := by decide +kernel
theorem dX11_date_18 : decode cX11_date 18 = .ok (.getfield 38, 3) := by decide +kernel
theorem dX11_date_21 : decode cX11_date 21 = .ok (.iconst 3, 1) := by decide +kernel
theorem dX11_date_22 : decode cX11_date 22 = .ok (.iload_n 1, 1) := by decide +kernel
theorem dX11_date_23 : decode cX11_date 23 = .ok (.iconst 0, 1) := by decide +kernel
theorem dX11_date_24 : decode cX11_date 24 = .ok (.iconst 0, 1) := by decide +kernel
theorem dX11_date_25 : decode cX11_date 25 = .ok (.iload_n 2, 1) := by decide +kernel
theorem dX11_date_26 : decode cX11_date 26 = .ok (.invokevirtual 139, 3) := by decide +kernel
theorem dX11_date_29 : decode cX11_date 29 = .ok (.ireturn, 1) := by decide +kernel
theorem dX11_annul_0 : decode cX11_annul 0 = .ok (.iload_n 1, 1) := by decide +kernel
theorem dX11_annul_1 : decode cX11_annul 1 = .ok (.ifCond .lt 27, 3) := by decide +kernel
theorem dX11_annul_4 : decode cX11_annul 4 = .ok (.iload_n 1, 1) := by decide +kernel
theorem dX11_annul_5 : decode cX11_annul 5 = .ok (.aload_n 0, 1) := by decide +kernel
theorem dX11_annul_6 : decode cX11_annul 6 = .ok (.getfield 38, 3) := by decide +kernel
theorem dX11_annul_9 : decode cX11_annul 9 = .ok (.getfield 128, 3) := by decide +kernel
theorem dX11_annul_12 : decode cX11_annul 12 = .ok (.if_icmp .ge 16, 3) := by decide +kernel
theorem dX11_annul_15 : decode cX11_annul 15 = .ok (.aload_n 0, 1) := by decide +kernel
theorem dX11_annul_16 : decode cX11_annul 16 = .ok (.getfield 38, 3) := by decide +kernel
theorem dX11_annul_19 : decode cX11_annul 19 = .ok (.getfield 149, 3) := by decide +kernel
theorem dX11_annul_22 : decode cX11_annul 22 = .ok (.iload_n 1, 1) := by decide +kernel
theorem dX11_annul_23 : decode cX11_annul 23 = .ok (.iaload, 1) := by decide +kernel
theorem dX11_annul_24 : decode cX11_annul 24 = .ok (.iconst 4, 1) := by decide +kernel
theorem dX11_annul_25 : decode cX11_annul 25 = .ok (.if_icmp .ne 5, 3) := by decide +kernel
theorem dX11_annul_28 : decode cX11_annul 28 = .ok (.iconst (-1), 1) := by decide +kernel
theorem dX11_annul_29 : decode cX11_annul 29 = .ok (.ireturn, 1) := by decide +kernel
theorem dX11_annul_30 : decode cX11_annul 30 = .ok (.aload_n 0, 1) := by decide +kernel
theorem dX11_annul_31 : decode cX11_annul 31 = .ok (.getfield 38, 3) := by decide +kernel
theorem dX11_annul_34 : decode cX11_annul 34 = .ok (.iconst 4, 1) := by decide +kernel
theorem dX11_annul_35 : decode cX11_annul 35 = .ok (.iload_n 1, 1) := by decide +kernel
theorem dX11_annul_36 : decode cX11_annul 36 = .ok (.iconst 0, 1) := by decide +kernel
theorem dX11_annul_37 : decode cX11_annul 37 = .ok (.iconst 0, 1) := by decide +kernel
theorem dX11_annul_38 : decode cX11_annul 38 = .ok (.iconst 0, 1) := by decide +kernel
theorem dX11_annul_39 : decode cX11_annul 39 = .ok (.invokevirtual 139, 3) := by decide +kernel
theorem dX11_annul_42 : decode cX11_annul 42 = .ok (.ireturn, 1) := by decide +kernel
theorem dX11_thing_0 : decode cX11_thing 0 = .ok (.aload_n 0, 1) := by decide +kernel
theorem dX11_thing_1 : decode cX11_thing 1 = .ok (.iload_n 1, 1) := by decide +kernel
theorem dX11_thing_2 : decode cX11_thing 2 = .ok (.invokevirtual 146, 3) := by decide +kernel
theorem dX11_thing_5 : decode cX11_thing 5 = .ok (.ifCond .eq 11, 3) := by decide +kernel
theorem dX11_thing_8 : decode cX11_thing 8 = .ok (.aload_n 0, 1) := by decide +kernel
theorem dX11_thing_9 : decode cX11_thing 9 = .ok (.iload_n 3, 1) := by decide +kernel
theorem dX11_thing_10 : decode cX11_thing 10 = .ok (.invokevirtual 152, 3) := by decide +kernel
theorem dX11_thing_13 : decode cX11_thing 13 = .ok (.ifCond .ne 5, 3) := by decide +kernel
theorem dX11_thing_16 : decode cX11_thing 16 = .ok (.iconst (-1), 1) := by decide +kernel
theorem dX11_thing_17 : decode cX11_thing 17 = .ok (.ireturn, 1) := by decide +kernel
theorem dX11_thing_18 : decode cX11_thing 18 = .ok (.aload_n 0, 1) := by decide +kernel
theorem dX11_thing_19 : decode cX11_thing 19 = .ok (.getfield 53, 3) := by decide +kernel
theorem dX11_thing_22 : decode cX11_thing 22 = .ok (.aload_n 0, 1) := by decide +kernel
theorem dX11_thing_23 : decode cX11_thing 23 = .ok (.getfield 19, 3) := by decide +kernel
theorem dX11_thing_26 : decode cX11_thing 26 = .ok (.aload_n 0, 1) := by decide +kernel
theorem dX11_thing_27 : decode cX11_thing 27 = .ok (.getfield 38, 3) := by decide +kernel
theorem dX11_thing_30 : decode cX11_thing 30 = .ok (.iload_n 3, 1) := by decide +kernel
theorem dX11_thing_31 : decode cX11_thing 31 = .ok (.invokevirtual 155, 3) := by decide +kernel
theorem dX11_thing_34 : decode cX11_thing 34 = .ok (.iload_n 2, 1) := by decide +kernel
theorem dX11_thing_35 : decode cX11_thing 35 = .ok (.tableswitch 91 0 4 #[33, 43, 53, 63, 73], 33) := by decide +kernel
theorem dX11_thing_68 : decode cX11_thing 68 = .ok (.aload_n 0, 1) := by decide +kernel
theorem dX11_thing_69 : decode cX11_thing 69 = .ok (.getfield 53, 3) := by decide +kernel
theorem dX11_thing_72 : decode cX11_thing 72 = .ok (.getfield 159, 3) := by decide +kernel
theorem dX11_thing_75 : decode cX11_thing 75 = .ok (.iload_n 1, 1) := by decide +kernel
theorem dX11_thing_76 : decode cX11_thing 76 = .ok (.iaload, 1) := by decide +kernel
theorem dX11_thing_77 : decode cX11_thing 77 = .ok (.ireturn, 1) := by decide +kernel
theorem dX11_thing_78 : decode cX11_thing 78 = .ok (.aload_n 0, 1) := by decide +kernel
theorem dX11_thing_79 : decode cX11_thing 79 = .ok (.getfield 53, 3) := by decide +kernel
theorem dX11_thing_82 : decode cX11_thing 82 = .ok (.getfield 162, 3) := by decide +kernel
theorem dX11_thing_85 : decode cX11_thing 85 = .ok (.iload_n 1, 1) := by decide +kernel
theorem dX11_thing_86 : decode cX11_thing 86 = .ok (.iaload, 1) := by decide +kernel
theorem dX11_thing_87 : decode cX11_thing 87 = .ok (.ireturn, 1) := by decide +kernel
theorem dX11_thing_88 : decode cX11_thing 88 = .ok (.aload_n 0, 1) := by decide +kernel
theorem dX11_thing_89 : decode cX11_thing 89 = .ok (.getfield 53, 3) := by decide +kernel
theorem dX11_thing_92 : decode cX11_thing 92 = .ok (.getfield 165, 3) := by decide +kernel
theorem dX11_thing_95 : decode cX11_thing 95 = .ok (.iload_n 1, 1) := by decide +kernel
theorem dX11_thing_96 : decode cX11_thing 96 = .ok (.iaload, 1) := by decide +kernel
theorem dX11_thing_97 : decode cX11_thing 97 = .ok (.ireturn, 1) := by decide +kernel
theorem dX11_thing_98 : decode cX11_thing 98 = .ok (.aload_n 0, 1) := by decide +kernel
theorem dX11_thing_99 : decode cX11_thing 99 = .ok (.getfield 53, 3) := by decide +kernel
theorem dX11_thing_102 : decode cX11_thing 102 = .ok (.getfield 168, 3) := by decide +kernel
theorem dX11_thing_105 : decode cX11_thing 105 = .ok (.iload_n 1, 1) := by decide +kernel
theorem dX11_thing_106 : decode cX11_thing 106 = .ok (.iaload, 1) := by decide +kernel
theorem dX11_thing_107 : decode cX11_thing 107 = .ok (.ireturn, 1) := by decide +kernel
theorem dX11_thing_108 : decode cX11_thing 108 = .ok (.aload_n 0, 1) := by decide +kernel
theorem dX11_thing_109 : decode cX11_thing 109 = .ok (.getfield 53, 3) := by decide +kernel
theorem dX11_thing_112 : decode cX11_thing 112 = .ok (.getfield 171, 3) := by decide +kernel
theorem dX11_thing_115 : decode cX11_thing 115 = .ok (.iload_n 1, 1) := by decide +kernel
theorem dX11_thing_116 : decode cX11_thing 116 = .ok (.baload, 1) := by decide +kernel
theorem dX11_thing_117 : decode cX11_thing 117 = .ok (.ifCond .eq 7, 3) := by decide +kernel
theorem dX11_thing_120 : decode cX11_thing 120 = .ok (.iconst 1, 1) := by decide +kernel
theorem dX11_thing_121 : decode cX11_thing 121 = .ok (.goto 4, 3) := by decide +kernel
theorem dX11_thing_124 : decode cX11_thing 124 = .ok (.iconst 0, 1) := by decide +kernel
theorem dX11_thing_125 : decode cX11_thing 125 = .ok (.ireturn, 1) := by decide +kernel
theorem dX11_thing_126 : decode cX11_thing 126 = .ok (.iconst (-1), 1) := by decide +kernel
theorem dX11_thing_127 : decode cX11_thing 127 = .ok (.ireturn, 1) := by decide +kernel
theorem dX11_degree_0 : decode cX11_degree 0 = .ok (.iload_n 1, 1) := by decide +kernel
theorem dX11_degree_1 : decode cX11_degree 1 = .ok (.sipush (-9999), 3) := by decide +kernel
theorem dX11_degree_4 : decode cX11_degree 4 = .ok (.if_icmp .lt 24, 3) := by decide +kernel
theorem dX11_degree_7 : decode cX11_degree 7 = .ok (.iload_n 1, 1) := by decide +kernel
theorem dX11_degree_8 : decode cX11_degree 8 = .ok (.sipush 9999, 3) := by decide +kernel
theorem dX11_degree_11 : decode cX11_degree 11 = .ok (.if_icmp .gt 17, 3) := by decide +kernel
theorem dX11_degree_14 : decode cX11_degree 14 = .ok (.iload_n 2, 1) := by decide +kernel
theorem dX11_degree_15 : decode cX11_degree 15 = .ok (.sipush (-9999), 3) := by decide +kernel
theorem dX11_degree_18 : decode cX11_degree 18 = .ok (.if_icmp .lt 10, 3) := by decide +kernel
theorem dX11_degree_21 : decode cX11_degree 21 = .ok (.iload_n 2, 1) := by decide +kernel
theorem dX11_degree_22 : decode cX11_degree 22 = .ok (.sipush 9999, 3) := by decide +kernel
theorem dX11_degree_25 : decode cX11_degree 25 = .ok (.if_icmp .le 5, 3) := by decide +kernel
theorem dX11_degree_28 : decode cX11_degree 28 = .ok (.iconst (-1), 1) := by decide +kernel
theorem dX11_degree_29 : decode cX11_degree 29 = .ok (.ireturn, 1) := by decide +kernel
theorem dX11_degree_30 : decode cX11_degree 30 = .ok (.iload_n 1, 1) := by decide +kernel
theorem dX11_degree_31 : decode cX11_degree 31 = .ok (.iload_n 2, 1) := by decide +kernel
theorem dX11_degree_32 : decode cX11_degree 32 = .ok (.invokestatic 174, 3) := by decide +kernel
theorem dX11_degree_35 : decode cX11_degree 35 = .ok (.ireturn, 1) := by decide +kernel
theorem dX11_vector_0 : decode cX11_vector 0 = .ok (.iload_n 1, 1) := by decide +kernel
theorem dX11_vector_1 : decode cX11_vector 1 = .ok (.invokestatic 180, 3) := by decide +kernel
theorem dX11_vector_4 : decode cX11_vector 4 = .ok (.ifCond .eq 12, 3) := by decide +kernel
theorem dX11_vector_7 : decode cX11_vector 7 = .ok (.iload_n 2, 1) := by decide +kernel
theorem dX11_vector_8 : decode cX11_vector 8 = .ok (.ifCond .lt 8, 3) := by decide +kernel
theorem dX11_vector_11 : decode cX11_vector 11 = .ok (.iload_n 2, 1) := by decide +kernel
theorem dX11_vector_12 : decode cX11_vector 12 = .ok (.iconst 1, 1) := by decide +kernel
theorem dX11_vector_13 : decode cX11_vector 13 = .ok (.if_icmp .le 6, 3) := by decide +kernel
theorem dX11_vector_16 : decode cX11_vector 16 = .ok (.bipush (-100), 2) := by decide +kernel
theorem dX11_vector_18 : decode cX11_vector 18 = .ok (.ireturn, 1) := by decide +kernel
theorem dX11_vector_19 : decode cX11_vector 19 = .ok (.iload_n 2, 1) := by decide +kernel
theorem dX11_vector_20 : decode cX11_vector 20 = .ok (.ifCond .ne 10, 3) := by decide +kernel
theorem dX11_vector_23 : decode cX11_vector 23 = .ok (.iload_n 1, 1) := by decide +kernel
theorem dX11_vector_24 : decode cX11_vector 24 = .ok (.invokestatic 183, 3) := by decide +kernel
theorem dX11_vector_27 : decode cX11_vector 27 = .ok (.goto 7, 3) := by decide +kernel
theorem dX11_vector_30 : decode cX11_vector 30 = .ok (.iload_n 1, 1) := by decide +kernel
theorem dX11_vector_31 : decode cX11_vector 31 = .ok (.invokestatic 187, 3) := by decide +kernel
theorem dX11_vector_34 : decode cX11_vector 34 = .ok (.ireturn, 1) := by decide +kernel
theorem dX11_line_0 : decode cX11_line 0 = .ok (.aload_n 0, 1) := by decide +kernel
theorem dX11_line_1 : decode cX11_line 1 = .ok (.iload_n 3, 1) := by decide +kernel
theorem dX11_line_2 : decode cX11_line 2 = .ok (.invokevirtual 152, 3) := by decide +kernel
theorem dX11_line_5 : decode cX11_line 5 = .ok (.ifCond .eq 13, 3) := by decide +kernel
theorem dX11_line_8 : decode cX11_line 8 = .ok (.iload_n 2, 1) := by decide +kernel
theorem dX11_line_9 : decode cX11_line 9 = .ok (.ifCond .lt 9, 3) := by decide +kernel
theorem dX11_line_12 : decode cX11_line 12 = .ok (.iload_n 2, 1) := by decide +kernel
theorem dX11_line_13 : decode cX11_line 13 = .ok (.bipush 7, 2) := by decide +kernel
theorem dX11_line_15 : decode cX11_line 15 = .ok (.if_icmp .le 5, 3) := by decide +kernel
theorem dX11_line_18 : decode cX11_line 18 = .ok (.iconst (-1), 1) := by decide +kernel
theorem dX11_line_19 : decode cX11_line 19 = .ok (.ireturn, 1) := by decide +kernel
theorem dX11_line_20 : decode cX11_line 20 = .ok (.aload_n 0, 1) := by decide +kernel
theorem dX11_line_21 : decode cX11_line 21 = .ok (.getfield 53, 3) := by decide +kernel
theorem dX11_line_24 : decode cX11_line 24 = .ok (.aload_n 0, 1) := by decide +kernel
theorem dX11_line_25 : decode cX11_line 25 = .ok (.getfield 19, 3) := by decide +kernel
theorem dX11_line_28 : decode cX11_line 28 = .ok (.aload_n 0, 1) := by decide +kernel
theorem dX11_line_29 : decode cX11_line 29 = .ok (.getfield 38, 3) := by decide +kernel
theorem dX11_line_32 : decode cX11_line 32 = .ok (.iload_n 3, 1) := by decide +kernel
theorem dX11_line_33 : decode cX11_line 33 = .ok (.invokevirtual 155, 3) := by decide +kernel
theorem dX11_line_36 : decode cX11_line 36 = .ok (.aload_n 0, 1) := by decide +kernel
theorem dX11_line_37 : decode cX11_line 37 = .ok (.getfield 53, 3) := by decide +kernel
theorem dX11_line_40 : decode cX11_line 40 = .ok (.iload_n 1, 1) := by decide +kernel
theorem dX11_line_41 : decode cX11_line 41 = .ok (.invokevirtual 190, 3) := by decide +kernel
theorem dX11_line_44 : decode cX11_line 44 = .ok (.ifCond .ne 5, 3) := by decide +kernel
theorem dX11_line_47 : decode cX11_line 47 = .ok (.iconst (-1), 1) := by decide +kernel
theorem dX11_line_48 : decode cX11_line 48 = .ok (.ireturn, 1) := by decide +kernel
theorem dX11_line_49 : decode cX11_line 49 = .ok (.iload_n 2, 1) := by decide +kernel
theorem dX11_line_50 : decode cX11_line 50 = .ok (.bipush 7, 2) := by decide +kernel
theorem dX11_line_52 : decode cX11_line 52 = .ok (.if_icmp .ne 25, 3) := by decide +kernel
theorem dX11_line_55 : decode cX11_line 55 = .ok (.aload_n 0, 1) := by decide +kernel
theorem dX11_line_56 : decode cX11_line 56 = .ok (.getfield 53, 3) := by decide +kernel
theorem dX11_line_59 : decode cX11_line 59 = .ok (.aload_n 0, 1) := by decide +kernel
theorem dX11_line_60 : decode cX11_line 60 = .ok (.getfield 19, 3) := by decide +kernel
theorem dX11_line_63 : decode cX11_line 63 = .ok (.iload_n 1, 1) := by decide +kernel
theorem dX11_line_64 : decode cX11_line 64 = .ok (.iconst (-1), 1) := by decide +kernel
theorem dX11_line_65 : decode cX11_line 65 = .ok (.invokevirtual 193, 3) := by decide +kernel
theorem dX11_line_68 : decode cX11_line 68 = .ok (.ifCond .eq 7, 3) := by decide +kernel
theorem dX11_line_71 : decode cX11_line 71 = .ok (.iconst 1, 1) := by decide +kernel
theorem dX11_line_72 : decode cX11_line 72 = .ok (.goto 4, 3) := by decide +kernel
theorem dX11_line_75 : decode cX11_line 75 = .ok (.iconst 0, 1) := by decide +kernel
theorem dX11_line_76 : decode cX11_line 76 = .ok (.ireturn, 1) := by decide +kernel
theorem dX11_line_77 : decode cX11_line 77 = .ok (.aload_n 0, 1) := by decide +kernel
theorem dX11_line_78 : decode cX11_line 78 = .ok (.getfield 53, 3) := by decide +kernel
theorem dX11_line_81 : decode cX11_line 81 = .ok (.aload_n 0, 1) := by decide +kernel
theorem dX11_line_82 : decode cX11_line 82 = .ok (.getfield 19, 3) := by decide +kernel
theorem dX11_line_85 : decode cX11_line 85 = .ok (.iload_n 1, 1) := by decide +kernel
theorem dX11_line_86 : decode cX11_line 86 = .ok (.invokevirtual 197, 3) := by decide +kernel
theorem dX11_line_89 : decode cX11_line 89 = .ok (.iload_n 2, 1) := by decide +kernel
theorem dX11_line_90 : decode cX11_line 90 = .ok (.ifCond .ne 16, 3) := by decide +kernel
theorem dX11_line_93 : decode cX11_line 93 = .ok (.aload_n 0, 1) := by decide +kernel
theorem dX11_line_94 : decode cX11_line 94 = .ok (.getfield 53, 3) := by decide +kernel
theorem dX11_line_97 : decode cX11_line 97 = .ok (.getfield 201, 3) := by decide +kernel
theorem dX11_line_100 : decode cX11_line 100 = .ok (.bipush 8, 2) := by decide +kernel
theorem dX11_line_102 : decode cX11_line 102 = .ok (.iaload, 1) := by decide +kernel
theorem dX11_line_103 : decode cX11_line 103 = .ok (.goto 16, 3) := by decide +kernel
theorem dX11_line_106 : decode cX11_line 106 = .ok (.aload_n 0, 1) := by decide +kernel
theorem dX11_line_107 : decode cX11_line 107 = .ok (.getfield 53, 3) := by decide +kernel
theorem dX11_line_110 : decode cX11_line 110 = .ok (.getfield 201, 3) := by decide +kernel
theorem dX11_line_113 : decode cX11_line 113 = .ok (.iconst 2, 1) := by decide +kernel
theorem dX11_line_114 : decode cX11_line 114 = .ok (.iload_n 2, 1) := by decide +kernel
theorem dX11_line_115 : decode cX11_line 115 = .ok (.iadd, 1) := by decide +kernel
theorem dX11_line_116 : decode cX11_line 116 = .ok (.iconst 1, 1) := by decide +kernel
theorem dX11_line_117 : decode cX11_line 117 = .ok (.isub, 1) := by decide +kernel
theorem dX11_line_118 : decode cX11_line 118 = .ok (.iaload, 1) := by decide +kernel
theorem dX11_line_119 : decode cX11_line 119 = .ok (.ireturn, 1) := by decide +kernel
theorem dX11_lines_0 : decode cX11_lines 0 = .ok (.aload_n 0, 1) := by decide +kernel
theorem dX11_lines_1 : decode cX11_lines 1 = .ok (.iload_n 2, 1) := by decide +kernel
theorem dX11_lines_2 : decode cX11_lines 2 = .ok (.invokevirtual 152, 3) := by decide +kernel
theorem dX11_lines_5 : decode cX11_lines 5 = .ok (.ifCond .ne 5, 3) := by decide +kernel
theorem dX11_lines_8 : decode cX11_lines 8 = .ok (.iconst (-1), 1) := by decide +kernel
theorem dX11_lines_9 : decode cX11_lines 9 = .ok (.ireturn, 1) := by decide +kernel
theorem dX11_lines_10 : decode cX11_lines 10 = .ok (.aload_n 0, 1) := by decide +kernel
theorem dX11_lines_11 : decode cX11_lines 11 = .ok (.getfield 53, 3) := by decide +kernel
theorem dX11_lines_14 : decode cX11_lines 14 = .ok (.aload_n 0, 1) := by decide +kernel
theorem dX11_lines_15 : decode cX11_lines 15 = .ok (.getfield 19, 3) := by decide +kernel
theorem dX11_lines_18 : decode cX11_lines 18 = .ok (.aload_n 0, 1) := by decide +kernel
theorem dX11_lines_19 : decode cX11_lines 19 = .ok (.getfield 38, 3) := by decide +kernel
theorem dX11_lines_22 : decode cX11_lines 22 = .ok (.iload_n 2, 1) := by decide +kernel
theorem dX11_lines_23 : decode cX11_lines 23 = .ok (.invokevirtual 155, 3) := by decide +kernel
theorem dX11_lines_26 : decode cX11_lines 26 = .ok (.iload_n 1, 1) := by decide +kernel
theorem dX11_lines_27 : decode cX11_lines 27 = .ok (.ifCond .ne 11, 3) := by decide +kernel
theorem dX11_lines_30 : decode cX11_lines 30 = .ok (.aload_n 0, 1) := by decide +kernel
theorem dX11_lines_31 : decode cX11_lines 31 = .ok (.getfield 53, 3) := by decide +kernel
theorem dX11_lines_34 : decode cX11_lines 34 = .ok (.invokevirtual 204, 3) := by decide +kernel
theorem dX11_lines_37 : decode cX11_lines 37 = .ok (.ireturn, 1) := by decide +kernel
theorem dX11_lines_38 : decode cX11_lines 38 = .ok (.aload_n 0, 1) := by decide +kernel
theorem dX11_lines_39 : decode cX11_lines 39 = .ok (.getfield 53, 3) := by decide +kernel
theorem dX11_lines_42 : decode cX11_lines 42 = .ok (.aload_n 0, 1) := by decide +kernel
theorem dX11_lines_43 : decode cX11_lines 43 = .ok (.getfield 19, 3) := by decide +kernel
theorem dX11_lines_46 : decode cX11_lines 46 = .ok (.iconst (-1), 1) := by decide +kernel
theorem dX11_lines_47 : decode cX11_lines 47 = .ok (.invokevirtual 207, 3) := by decide +kernel
theorem dX11_lines_50 : decode cX11_lines 50 = .ok (.aload_n 0, 1) := by decide +kernel
theorem dX11_lines_51 : decode cX11_lines 51 = .ok (.getfield 53, 3) := by decide +kernel
theorem dX11_lines_54 : decode cX11_lines 54 = .ok (.getfield 210, 3) := by decide +kernel
theorem dX11_lines_57 : decode cX11_lines 57 = .ok (.ireturn, 1) := by decide +kernel
theorem dX11_height_0 : decode cX11_height 0 = .ok (.iload_n 1, 1) := by decide +kernel
theorem dX11_height_1 : decode cX11_height 1 = .ok (.invokestatic 180, 3) := by decide +kernel
theorem dX11_height_4 : decode cX11_height 4 = .ok (.ifCond .eq 14, 3) := by decide +kernel
theorem dX11_height_7 : decode cX11_height 7 = .ok (.aload_n 0, 1) := by decide +kernel
theorem dX11_height_8 : decode cX11_height 8 = .ok (.getfield 19, 3) := by decide +kernel
theorem dX11_height_11 : decode cX11_height 11 = .ok (.iload_n 1, 1) := by decide +kernel
theorem dX11_height_12 : decode cX11_height 12 = .ok (.invokevirtual 213, 3) := by decide +kernel
theorem dX11_height_15 : decode cX11_height 15 = .ok (.goto 4, 3) := by decide +kernel
theorem dX11_height_18 : decode cX11_height 18 = .ok (.iconst (-1), 1) := by decide +kernel
theorem dX11_height_19 : decode cX11_height 19 = .ok (.ireturn, 1) := by decide +kernel
theorem dX11_rise_0 : decode cX11_rise 0 = .ok (.aload_n 0, 1) := by decide +kernel
theorem dX11_rise_1 : decode cX11_rise 1 = .ok (.iload_n 1, 1) := by decide +kernel
theorem dX11_rise_2 : decode cX11_rise 2 = .ok (.invokevirtual 216, 3) := by decide +kernel
theorem dX11_rise_5 : decode cX11_rise 5 = .ok (.ifCond .eq 10, 3) := by decide +kernel
theorem dX11_rise_8 : decode cX11_rise 8 = .ok (.iload_n 2, 1) := by decide +kernel
theorem dX11_rise_9 : decode cX11_rise 9 = .ok (.invokestatic 219, 3) := by decide +kernel
theorem dX11_rise_12 : decode cX11_rise 12 = .ok (.ifCond .ne 5, 3) := by decide +kernel
theorem dX11_rise_15 : decode cX11_rise 15 = .ok (.iconst (-1), 1) := by decide +kernel
theorem dX11_rise_16 : decode cX11_rise 16 = .ok (.ireturn, 1) := by decide +kernel
theorem dX11_rise_17 : decode cX11_rise 17 = .ok (.aload_n 0, 1) := by decide +kernel
theorem dX11_rise_18 : decode cX11_rise 18 = .ok (.getfield 60, 3) := by decide +kernel
theorem dX11_rise_21 : decode cX11_rise 21 = .ok (.aload_n 0, 1) := by decide +kernel
theorem dX11_rise_22 : decode cX11_rise 22 = .ok (.getfield 19, 3) := by decide +kernel
theorem dX11_rise_25 : decode cX11_rise 25 = .ok (.iload_n 1, 1) := by decide +kernel
theorem dX11_rise_26 : decode cX11_rise 26 = .ok (.iload_n 2, 1) := by decide +kernel
theorem dX11_rise_27 : decode cX11_rise 27 = .ok (.invokevirtual 222, 3) := by decide +kernel
theorem dX11_rise_30 : decode cX11_rise 30 = .ok (.ireturn, 1) := by decide +kernel
theorem dX11_hit_0 : decode cX11_hit 0 = .ok (.aload_n 0, 1) := by decide +kernel
theorem dX11_hit_1 : decode cX11_hit 1 = .ok (.iload_n 2, 1) := by decide +kernel
theorem dX11_hit_2 : decode cX11_hit 2 = .ok (.invokevirtual 216, 3) := by decide +kernel
theorem dX11_hit_5 : decode cX11_hit 5 = .ok (.ifCond .eq 19, 3) := by decide +kernel
theorem dX11_hit_8 : decode cX11_hit 8 = .ok (.iload_n 3, 1) := by decide +kernel
theorem dX11_hit_9 : decode cX11_hit 9 = .ok (.invokestatic 219, 3) := by decide +kernel
theorem dX11_hit_12 : decode cX11_hit 12 = .ok (.ifCond .eq 12, 3) := by decide +kernel
theorem dX11_hit_15 : decode cX11_hit 15 = .ok (.aload_n 0, 1) := by decide +kernel
theorem dX11_hit_16 : decode cX11_hit 16 = .ok (.iload 4, 2) := by decide +kernel
theorem dX11_hit_18 : decode cX11_hit 18 = .ok (.invokevirtual 152, 3) := by decide +kernel
theorem dX11_hit_21 : decode cX11_hit 21 = .ok (.ifCond .ne 5, 3) := by decide +kernel
theorem dX11_hit_24 : decode cX11_hit 24 = .ok (.iconst (-1), 1) := by decide +kernel
theorem dX11_hit_25 : decode cX11_hit 25 = .ok (.ireturn, 1) := by decide +kernel
theorem dX11_hit_26 : decode cX11_hit 26 = .ok (.aload_n 0, 1) := by decide +kernel
theorem dX11_hit_27 : decode cX11_hit 27 = .ok (.getfield 53, 3) := by decide +kernel
theorem dX11_hit_30 : decode cX11_hit 30 = .ok (.aload_n 0, 1) := by decide +kernel
theorem dX11_hit_31 : decode cX11_hit 31 = .ok (.getfield 19, 3) := by decide +kernel
theorem dX11_hit_34 : decode cX11_hit 34 = .ok (.aload_n 0, 1) := by decide +kernel
theorem dX11_hit_35 : decode cX11_hit 35 = .ok (.getfield 38, 3) := by decide +kernel
theorem dX11_hit_38 : decode cX11_hit 38 = .ok (.iload 4, 2) := by decide +kernel
theorem dX11_hit_40 : decode cX11_hit 40 = .ok (.invokevirtual 155, 3) := by decide +kernel
theorem dX11_hit_43 : decode cX11_hit 43 = .ok (.aload_n 0, 1) := by decide +kernel
theorem dX11_hit_44 : decode cX11_hit 44 = .ok (.getfield 53, 3) := by decide +kernel
theorem dX11_hit_47 : decode cX11_hit 47 = .ok (.iload_n 1, 1) := by decide +kernel
theorem dX11_hit_48 : decode cX11_hit 48 = .ok (.invokevirtual 190, 3) := by decide +kernel
theorem dX11_hit_51 : decode cX11_hit 51 = .ok (.ifCond .ne 5, 3) := by decide +kernel
theorem dX11_hit_54 : decode cX11_hit 54 = .ok (.iconst (-1), 1) := by decide +kernel
theorem dX11_hit_55 : decode cX11_hit 55 = .ok (.ireturn, 1) := by decide +kernel
theorem dX11_hit_56 : decode cX11_hit 56 = .ok (.aload_n 0, 1) := by decide +kernel
theorem dX11_hit_57 : decode cX11_hit 57 = .ok (.getfield 60, 3) := by decide +kernel
theorem dX11_hit_60 : decode cX11_hit 60 = .ok (.aload_n 0, 1) := by decide +kernel
theorem dX11_hit_61 : decode cX11_hit 61 = .ok (.getfield 19, 3) := by decide +kernel
theorem dX11_hit_64 : decode cX11_hit 64 = .ok (.iload_n 3, 1) := by decide +kernel
theorem dX11_hit_65 : decode cX11_hit 65 = .ok (.invokevirtual 226, 3) := by decide +kernel
theorem dX11_hit_68 : decode cX11_hit 68 = .ok (.aload_n 0, 1) := by decide +kernel
theorem dX11_hit_69 : decode cX11_hit 69 = .ok (.getfield 53, 3) := by decide +kernel
theorem dX11_hit_72 : decode cX11_hit 72 = .ok (.iload_n 1, 1) := by decide +kernel
theorem dX11_hit_73 : decode cX11_hit 73 = .ok (.invokevirtual 229, 3) := by decide +kernel
theorem dX11_hit_76 : decode cX11_hit 76 = .ok (.istore 5, 2) := by decide +kernel
theorem dX11_hit_78 : decode cX11_hit 78 = .ok (.iconst 1, 1) := by decide +kernel
theorem dX11_hit_79 : decode cX11_hit 79 = .ok (.iload_n 2, 1) := by decide +kernel
theorem dX11_hit_80 : decode cX11_hit 80 = .ok (.ishl, 1) := by decide +kernel
theorem dX11_hit_81 : decode cX11_hit 81 = .ok (.istore 6, 2) := by decide +kernel
theorem dX11_hit_83 : decode cX11_hit 83 = .ok (.aload_n 0, 1) := by decide +kernel
theorem dX11_hit_84 : decode cX11_hit 84 = .ok (.getfield 60, 3) := by decide +kernel
theorem dX11_hit_87 : decode cX11_hit 87 = .ok (.iload 5, 2) := by decide +kernel
theorem dX11_hit_89 : decode cX11_hit 89 = .ok (.aload_n 0, 1) := by decide +kernel
theorem dX11_hit_90 : decode cX11_hit 90 = .ok (.getfield 19, 3) := by decide +kernel
theorem dX11_hit_93 : decode cX11_hit 93 = .ok (.getfield 232, 3) := by decide +kernel
theorem dX11_hit_96 : decode cX11_hit 96 = .ok (.iconst 1, 1) := by decide +kernel
theorem dX11_hit_97 : decode cX11_hit 97 = .ok (.invokevirtual 235, 3) := by decide +kernel
theorem dX11_hit_100 : decode cX11_hit 100 = .ok (.iload 6, 2) := by decide +kernel
theorem dX11_hit_102 : decode cX11_hit 102 = .ok (.iand, 1) := by decide +kernel
theorem dX11_hit_103 : decode cX11_hit 103 = .ok (.ifCond .eq 5, 3) := by decide +kernel
theorem dX11_hit_106 : decode cX11_hit 106 = .ok (.iconst 2, 1) := by decide +kernel
theorem dX11_hit_107 : decode cX11_hit 107 = .ok (.ireturn, 1) := by decide +kernel
theorem dX11_hit_108 : decode cX11_hit 108 = .ok (.aload_n 0, 1) := by decide +kernel
theorem dX11_hit_109 : decode cX11_hit 109 = .ok (.getfield 60, 3) := by decide +kernel
theorem dX11_hit_112 : decode cX11_hit 112 = .ok (.iload 5, 2) := by decide +kernel
theorem dX11_hit_114 : decode cX11_hit 114 = .ok (.aload_n 0, 1) := by decide +kernel
theorem dX11_hit_115 : decode cX11_hit 115 = .ok (.getfield 19, 3) := by decide +kernel
theorem dX11_hit_118 : decode cX11_hit 118 = .ok (.getfield 232, 3) := by decide +kernel
theorem dX11_hit_121 : decode cX11_hit 121 = .ok (.iconst 0, 1) := by decide +kernel
theorem dX11_hit_122 : decode cX11_hit 122 = .ok (.invokevirtual 235, 3) := by decide +kernel
theorem dX11_hit_125 : decode cX11_hit 125 = .ok (.iload 6, 2) := by decide +kernel
theorem dX11_hit_127 : decode cX11_hit 127 = .ok (.iand, 1) := by decide +kernel
theorem dX11_hit_128 : decode cX11_hit 128 = .ok (.ifCond .eq 7, 3) := by decide +kernel
theorem dX11_hit_131 : decode cX11_hit 131 = .ok (.iconst 1, 1) := by decide +kernel
theorem dX11_hit_132 : decode cX11_hit 132 = .ok (.goto 4, 3) := by decide +kernel
theorem dX11_hit_135 : decode cX11_hit 135 = .ok (.iconst 0, 1) := by decide +kernel
theorem dX11_hit_136 : decode cX11_hit 136 = .ok (.ireturn, 1) := by decide +kernel
theorem dX11_hits_0 : decode cX11_hits 0 = .ok (.aload_n 0, 1) := by decide +kernel
theorem dX11_hits_1 : decode cX11_hits 1 = .ok (.iload_n 1, 1) := by decide +kernel
theorem dX11_hits_2 : decode cX11_hits 2 = .ok (.iload_n 2, 1) := by decide +kernel
theorem dX11_hits_3 : decode cX11_hits 3 = .ok (.iload 5, 2) := by decide +kernel
theorem dX11_hits_5 : decode cX11_hits 5 = .ok (.invokevirtual 239, 3) := by decide +kernel
theorem dX11_hits_8 : decode cX11_hits 8 = .ok (.ifCond .eq 10, 3) := by decide +kernel
theorem dX11_hits_11 : decode cX11_hits 11 = .ok (.iload_n 3, 1) := by decide +kernel
theorem dX11_hits_12 : decode cX11_hits 12 = .ok (.invokestatic 180, 3) := by decide +kernel
theorem dX11_hits_15 : decode cX11_hits 15 = .ok (.ifCond .ne 5, 3) := by decide +kernel
theorem dX11_hits_18 : decode cX11_hits 18 = .ok (.iconst (-1), 1) := by decide +kernel
theorem dX11_hits_19 : decode cX11_hits 19 = .ok (.ireturn, 1) := by decide +kernel
theorem dX11_hits_20 : decode cX11_hits 20 = .ok (.aload_n 0, 1) := by decide +kernel
theorem dX11_hits_21 : decode cX11_hits 21 = .ok (.iload_n 2, 1) := by decide +kernel
theorem dX11_hits_22 : decode cX11_hits 22 = .ok (.iload 5, 2) := by decide +kernel
theorem dX11_hits_24 : decode cX11_hits 24 = .ok (.iconst (-1), 1) := by decide +kernel
theorem dX11_hits_25 : decode cX11_hits 25 = .ok (.invokevirtual 243, 3) := by decide +kernel
theorem dX11_hits_28 : decode cX11_hits 28 = .ok (.aload_n 0, 1) := by decide +kernel
theorem dX11_hits_29 : decode cX11_hits 29 = .ok (.iload_n 1, 1) := by decide +kernel
theorem dX11_hits_30 : decode cX11_hits 30 = .ok (.iload_n 3, 1) := by decide +kernel
theorem dX11_hits_31 : decode cX11_hits 31 = .ok (.iload 4, 2) := by decide +kernel
theorem dX11_hits_33 : decode cX11_hits 33 = .ok (.invokevirtual 247, 3) := by decide +kernel
theorem dX11_hits_36 : decode cX11_hits 36 = .ok (.ireturn, 1) := by decide +kernel
theorem dX11_hitAt_0 : decode cX11_hitAt 0 = .ok (.aload_n 0, 1) := by decide +kernel
theorem dX11_hitAt_1 : decode cX11_hitAt 1 = .ok (.iload_n 1, 1) := by decide +kernel
theorem dX11_hitAt_2 : decode cX11_hitAt 2 = .ok (.iload_n 2, 1) := by decide +kernel
theorem dX11_hitAt_3 : decode cX11_hitAt 3 = .ok (.iload 4, 2) := by decide +kernel
theorem dX11_hitAt_5 : decode cX11_hitAt 5 = .ok (.invokevirtual 239, 3) := by decide +kernel
theorem dX11_hitAt_8 : decode cX11_hitAt 8 = .ok (.ifCond .eq 8, 3) := by decide +kernel
theorem dX11_hitAt_11 : decode cX11_hitAt 11 = .ok (.iload 5, 2) := by decide +kernel
theorem dX11_hitAt_13 : decode cX11_hitAt 13 = .ok (.ifCond .ge 5, 3) := by decide +kernel
theorem dX11_hitAt_16 : decode cX11_hitAt 16 = .ok (.iconst (-1), 1) := by decide +kernel
theorem dX11_hitAt_17 : decode cX11_hitAt 17 = .ok (.ireturn, 1) := by decide +kernel
theorem dX11_hitAt_18 : decode cX11_hitAt 18 = .ok (.aload_n 0, 1) := by decide +kernel
theorem dX11_hitAt_19 : decode cX11_hitAt 19 = .ok (.iload_n 2, 1) := by decide +kernel
theorem dX11_hitAt_20 : decode cX11_hitAt 20 = .ok (.iload 4, 2) := by decide +kernel
theorem dX11_hitAt_22 : decode cX11_hitAt 22 = .ok (.iconst (-1), 1) := by decide +kernel
theorem dX11_hitAt_23 : decode cX11_hitAt 23 = .ok (.invokevirtual 243, 3) := by decide +kernel
theorem dX11_hitAt_26 : decode cX11_hitAt 26 = .ok (.iconst 0, 1) := by decide +kernel
theorem dX11_hitAt_27 : decode cX11_hitAt 27 = .ok (.istore 6, 2) := by decide +kernel
theorem dX11_hitAt_29 : decode cX11_hitAt 29 = .ok (.iconst 0, 1) := by decide +kernel
theorem dX11_hitAt_30 : decode cX11_hitAt 30 = .ok (.istore 7, 2) := by decide +kernel
theorem dX11_hitAt_32 : decode cX11_hitAt 32 = .ok (.iload 7, 2) := by decide +kernel
theorem dX11_hitAt_34 : decode cX11_hitAt 34 = .ok (.aload_n 0, 1) := by decide +kernel
theorem dX11_hitAt_35 : decode cX11_hitAt 35 = .ok (.getfield 53, 3) := by decide +kernel
theorem dX11_hitAt_38 : decode cX11_hitAt 38 = .ok (.getfield 210, 3) := by decide +kernel
theorem dX11_hitAt_41 : decode cX11_hitAt 41 = .ok (.if_icmp .ge 49, 3) := by decide +kernel
theorem dX11_hitAt_44 : decode cX11_hitAt 44 = .ok (.aload_n 0, 1) := by decide +kernel
theorem dX11_hitAt_45 : decode cX11_hitAt 45 = .ok (.aload_n 0, 1) := by decide +kernel
theorem dX11_hitAt_46 : decode cX11_hitAt 46 = .ok (.getfield 53, 3) := by decide +kernel
theorem dX11_hitAt_49 : decode cX11_hitAt 49 = .ok (.getfield 250, 3) := by decide +kernel
theorem dX11_hitAt_52 : decode cX11_hitAt 52 = .ok (.iload 7, 2) := by decide +kernel
theorem dX11_hitAt_54 : decode cX11_hitAt 54 = .ok (.iaload, 1) := by decide +kernel
theorem dX11_hitAt_55 : decode cX11_hitAt 55 = .ok (.iload_n 1, 1) := by decide +kernel
theorem dX11_hitAt_56 : decode cX11_hitAt 56 = .ok (.iload_n 3, 1) := by decide +kernel
theorem dX11_hitAt_57 : decode cX11_hitAt 57 = .ok (.invokevirtual 253, 3) := by decide +kernel
theorem dX11_hitAt_60 : decode cX11_hitAt 60 = .ok (.ifCond .eq 24, 3) := by decide +kernel
theorem dX11_hitAt_63 : decode cX11_hitAt 63 = .ok (.iload 6, 2) := by decide +kernel
theorem dX11_hitAt_65 : decode cX11_hitAt 65 = .ok (.iload 5, 2) := by decide +kernel
theorem dX11_hitAt_67 : decode cX11_hitAt 67 = .ok (.if_icmp .ne 14, 3) := by decide +kernel
theorem dX11_hitAt_70 : decode cX11_hitAt 70 = .ok (.aload_n 0, 1) := by decide +kernel
theorem dX11_hitAt_71 : decode cX11_hitAt 71 = .ok (.getfield 53, 3) := by decide +kernel
theorem dX11_hitAt_74 : decode cX11_hitAt 74 = .ok (.getfield 257, 3) := by decide +kernel
theorem dX11_hitAt_77 : decode cX11_hitAt 77 = .ok (.iload 7, 2) := by decide +kernel
theorem dX11_hitAt_79 : decode cX11_hitAt 79 = .ok (.iaload, 1) := by decide +kernel
theorem dX11_hitAt_80 : decode cX11_hitAt 80 = .ok (.ireturn, 1) := by decide +kernel
theorem dX11_hitAt_81 : decode cX11_hitAt 81 = .ok (.iinc 6 1, 3) := by decide +kernel
theorem dX11_hitAt_84 : decode cX11_hitAt 84 = .ok (.iinc 7 1, 3) := by decide +kernel
theorem dX11_hitAt_87 : decode cX11_hitAt 87 = .ok (.goto (-55), 3) := by decide +kernel
theorem dX11_hitAt_90 : decode cX11_hitAt 90 = .ok (.iconst (-1), 1) := by decide +kernel
theorem dX11_hitAt_91 : decode cX11_hitAt 91 = .ok (.ireturn, 1) := by decide +kernel
theorem dX11_many_0 : decode cX11_many 0 = .ok (.aload_n 0, 1) := by decide +kernel
theorem dX11_many_1 : decode cX11_many 1 = .ok (.iload_n 1, 1) := by decide +kernel
theorem dX11_many_2 : decode cX11_many 2 = .ok (.iload_n 2, 1) := by decide +kernel
theorem dX11_many_3 : decode cX11_many 3 = .ok (.iload_n 3, 1) := by decide +kernel
theorem dX11_many_4 : decode cX11_many 4 = .ok (.invokevirtual 239, 3) := by decide +kernel
theorem dX11_many_7 : decode cX11_many 7 = .ok (.ifCond .ne 5, 3) := by decide +kernel
theorem dX11_many_10 : decode cX11_many 10 = .ok (.iconst (-1), 1) := by decide +kernel
theorem dX11_many_11 : decode cX11_many 11 = .ok (.ireturn, 1) := by decide +kernel
theorem dX11_many_12 : decode cX11_many 12 = .ok (.aload_n 0, 1) := by decide +kernel
theorem dX11_many_13 : decode cX11_many 13 = .ok (.iload_n 1, 1) := by decide +kernel
theorem dX11_many_14 : decode cX11_many 14 = .ok (.iload_n 2, 1) := by decide +kernel
theorem dX11_many_15 : decode cX11_many 15 = .ok (.iload_n 3, 1) := by decide +kernel
theorem dX11_many_16 : decode cX11_many 16 = .ok (.iconst (-1), 1) := by decide +kernel
theorem dX11_many_17 : decode cX11_many 17 = .ok (.invokevirtual 260, 3) := by decide +kernel
theorem dX11_many_20 : decode cX11_many 20 = .ok (.aload_n 0, 1) := by decide +kernel
theorem dX11_many_21 : decode cX11_many 21 = .ok (.getfield 67, 3) := by decide +kernel
theorem dX11_many_24 : decode cX11_many 24 = .ok (.invokevirtual 264, 3) := by decide +kernel
theorem dX11_many_27 : decode cX11_many 27 = .ok (.ireturn, 1) := by decide +kernel
theorem dX11_allHits_0 : decode cX11_allHits 0 = .ok (.aload_n 0, 1) := by decide +kernel
theorem dX11_allHits_1 : decode cX11_allHits 1 = .ok (.iload_n 1, 1) := by decide +kernel
theorem dX11_allHits_2 : decode cX11_allHits 2 = .ok (.iload_n 2, 1) := by decide +kernel
theorem dX11_allHits_3 : decode cX11_allHits 3 = .ok (.iload_n 3, 1) := by decide +kernel
theorem dX11_allHits_4 : decode cX11_allHits 4 = .ok (.invokevirtual 239, 3) := by decide +kernel
theorem dX11_allHits_7 : decode cX11_allHits 7 = .ok (.ifCond .ne 5, 3) := by decide +kernel
theorem dX11_allHits_10 : decode cX11_allHits 10 = .ok (.iconst (-1), 1) := by decide +kernel
theorem dX11_allHits_11 : decode cX11_allHits 11 = .ok (.ireturn, 1) := by decide +kernel
theorem dX11_allHits_12 : decode cX11_allHits 12 = .ok (.aload_n 0, 1) := by decide +kernel
theorem dX11_allHits_13 : decode cX11_allHits 13 = .ok (.iload_n 1, 1) := by decide +kernel
theorem dX11_allHits_14 : decode cX11_allHits 14 = .ok (.iload_n 2, 1) := by decide +kernel
theorem dX11_allHits_15 : decode cX11_allHits 15 = .ok (.iload_n 3, 1) := by decide +kernel
theorem dX11_allHits_16 : decode cX11_allHits 16 = .ok (.iconst (-1), 1) := by decide +kernel
theorem dX11_allHits_17 : decode cX11_allHits 17 = .ok (.invokevirtual 260, 3) := by decide +kernel
theorem dX11_allHits_20 : decode cX11_allHits 20 = .ok (.aload_n 0, 1) := by decide +kernel
theorem dX11_allHits_21 : decode cX11_allHits 21 = .ok (.getfield 67, 3) := by decide +kernel
theorem dX11_allHits_24 : decode cX11_allHits 24 = .ok (.invokevirtual 267, 3) := by decide +kernel
theorem dX11_allHits_27 : decode cX11_allHits 27 = .ok (.ireturn, 1) := by decide +kernel
theorem dX11_alone_0 : decode cX11_alone 0 = .ok (.aload_n 0, 1) := by decide +kernel
theorem dX11_alone_1 : decode cX11_alone 1 = .ok (.iload_n 1, 1) := by decide +kernel
theorem dX11_alone_2 : decode cX11_alone 2 = .ok (.iload_n 2, 1) := by decide +kernel
theorem dX11_alone_3 : decode cX11_alone 3 = .ok (.iload_n 3, 1) := by decide +kernel
theorem dX11_alone_4 : decode cX11_alone 4 = .ok (.invokevirtual 239, 3) := by decide +kernel
theorem dX11_alone_7 : decode cX11_alone 7 = .ok (.ifCond .ne 5, 3) := by decide +kernel
theorem dX11_alone_10 : decode cX11_alone 10 = .ok (.iconst (-1), 1) := by decide +kernel
theorem dX11_alone_11 : decode cX11_alone 11 = .ok (.ireturn, 1) := by decide +kernel
theorem dX11_alone_12 : decode cX11_alone 12 = .ok (.aload_n 0, 1) := by decide +kernel
theorem dX11_alone_13 : decode cX11_alone 13 = .ok (.iload_n 2, 1) := by decide +kernel
theorem dX11_alone_14 : decode cX11_alone 14 = .ok (.iload_n 3, 1) := by decide +kernel
theorem dX11_alone_15 : decode cX11_alone 15 = .ok (.iconst (-1), 1) := by decide +kernel
theorem dX11_alone_16 : decode cX11_alone 16 = .ok (.invokevirtual 243, 3) := by decide +kernel
theorem dX11_alone_19 : decode cX11_alone 19 = .ok (.aload_n 0, 1) := by decide +kernel
theorem dX11_alone_20 : decode cX11_alone 20 = .ok (.getfield 74, 3) := by decide +kernel
theorem dX11_alone_23 : decode cX11_alone 23 = .ok (.invokevirtual 270, 3) := by decide +kernel
theorem dX11_alone_26 : decode cX11_alone 26 = .ok (.iconst 0, 1) := by decide +kernel
theorem dX11_alone_27 : decode cX11_alone 27 = .ok (.istore 4, 2) := by decide +kernel
theorem dX11_alone_29 : decode cX11_alone 29 = .ok (.iload 4, 2) := by decide +kernel
theorem dX11_alone_31 : decode cX11_alone 31 = .ok (.aload_n 0, 1) := by decide +kernel
theorem dX11_alone_32 : decode cX11_alone 32 = .ok (.getfield 53, 3) := by decide +kernel
theorem dX11_alone_35 : decode cX11_alone 35 = .ok (.getfield 210, 3) := by decide +kernel
theorem dX11_alone_38 : decode cX11_alone 38 = .ok (.if_icmp .ge 61, 3) := by decide +kernel
theorem dX11_alone_41 : decode cX11_alone 41 = .ok (.aload_n 0, 1) := by decide +kernel
theorem dX11_alone_42 : decode cX11_alone 42 = .ok (.aload_n 0, 1) := by decide +kernel
theorem dX11_alone_43 : decode cX11_alone 43 = .ok (.getfield 53, 3) := by decide +kernel
theorem dX11_alone_46 : decode cX11_alone 46 = .ok (.getfield 250, 3) := by decide +kernel
theorem dX11_alone_49 : decode cX11_alone 49 = .ok (.iload 4, 2) := by decide +kernel
theorem dX11_alone_51 : decode cX11_alone 51 = .ok (.iaload, 1) := by decide +kernel
theorem dX11_alone_52 : decode cX11_alone 52 = .ok (.iload_n 1, 1) := by decide +kernel
theorem dX11_alone_53 : decode cX11_alone 53 = .ok (.iconst 0, 1) := by decide +kernel
theorem dX11_alone_54 : decode cX11_alone 54 = .ok (.invokevirtual 253, 3) := by decide +kernel
theorem dX11_alone_57 : decode cX11_alone 57 = .ok (.ifCond .eq 36, 3) := by decide +kernel
theorem dX11_alone_60 : decode cX11_alone 60 = .ok (.aload_n 0, 1) := by decide +kernel
theorem dX11_alone_61 : decode cX11_alone 61 = .ok (.getfield 74, 3) := by decide +kernel
theorem dX11_alone_64 : decode cX11_alone 64 = .ok (.aload_n 0, 1) := by decide +kernel
theorem dX11_alone_65 : decode cX11_alone 65 = .ok (.getfield 53, 3) := by decide +kernel
theorem dX11_alone_68 : decode cX11_alone 68 = .ok (.getfield 257, 3) := by decide +kernel
theorem dX11_alone_71 : decode cX11_alone 71 = .ok (.iload 4, 2) := by decide +kernel
theorem dX11_alone_73 : decode cX11_alone 73 = .ok (.iaload, 1) := by decide +kernel
theorem dX11_alone_74 : decode cX11_alone 74 = .ok (.bipush 14, 2) := by decide +kernel
theorem dX11_alone_76 : decode cX11_alone 76 = .ok (.idiv, 1) := by decide +kernel
theorem dX11_alone_77 : decode cX11_alone 77 = .ok (.aload_n 0, 1) := by decide +kernel
theorem dX11_alone_78 : decode cX11_alone 78 = .ok (.getfield 53, 3) := by decide +kernel
theorem dX11_alone_81 : decode cX11_alone 81 = .ok (.getfield 257, 3) := by decide +kernel
theorem dX11_alone_84 : decode cX11_alone 84 = .ok (.iload 4, 2) := by decide +kernel
theorem dX11_alone_86 : decode cX11_alone 86 = .ok (.iaload, 1) := by decide +kernel
theorem dX11_alone_87 : decode cX11_alone 87 = .ok (.bipush 14, 2) := by decide +kernel
theorem dX11_alone_89 : decode cX11_alone 89 = .ok (.irem, 1) := by decide +kernel
theorem dX11_alone_90 : decode cX11_alone 90 = .ok (.invokevirtual 271, 3) := by decide +kernel
theorem dX11_alone_93 : decode cX11_alone 93 = .ok (.iinc 4 1, 3) := by decide +kernel
theorem dX11_alone_96 : decode cX11_alone 96 = .ok (.goto (-67), 3) := by decide +kernel
theorem dX11_alone_99 : decode cX11_alone 99 = .ok (.aload_n 0, 1) := by decide +kernel
theorem dX11_alone_100 : decode cX11_alone 100 = .ok (.getfield 74, 3) := by decide +kernel
theorem dX11_alone_103 : decode cX11_alone 103 = .ok (.invokevirtual 275, 3) := by decide +kernel
theorem dX11_alone_106 : decode cX11_alone 106 = .ok (.ireturn, 1) := by decide +kernel
theorem dX11_striking_0 : decode cX11_striking 0 = .ok (.iload_n 1, 1) := by decide +kernel
theorem dX11_striking_1 : decode cX11_striking 1 = .ok (.invokestatic 219, 3) := by decide +kernel
theorem dX11_striking_4 : decode cX11_striking 4 = .ok (.ifCond .eq 18, 3) := by decide +kernel
theorem dX11_striking_7 : decode cX11_striking 7 = .ok (.iload_n 2, 1) := by decide +kernel
theorem dX11_striking_8 : decode cX11_striking 8 = .ok (.invokestatic 180, 3) := by decide +kernel
theorem dX11_striking_11 : decode cX11_striking 11 = .ok (.ifCond .eq 11, 3) := by decide +kernel
theorem dX11_striking_14 : decode cX11_striking 14 = .ok (.aload_n 0, 1) := by decide +kernel
theorem dX11_striking_15 : decode cX11_striking 15 = .ok (.iload_n 3, 1) := by decide +kernel
theorem dX11_striking_16 : decode cX11_striking 16 = .ok (.invokevirtual 152, 3) := by decide +kernel
theorem dX11_striking_19 : decode cX11_striking 19 = .ok (.ifCond .ne 5, 3) := by decide +kernel
theorem dX11_striking_22 : decode cX11_striking 22 = .ok (.iconst (-1), 1) := by decide +kernel
theorem dX11_striking_23 : decode cX11_striking 23 = .ok (.ireturn, 1) := by decide +kernel
theorem dX11_striking_24 : decode cX11_striking 24 = .ok (.aload_n 0, 1) := by decide +kernel
theorem dX11_striking_25 : decode cX11_striking 25 = .ok (.iload_n 1, 1) := by decide +kernel
theorem dX11_striking_26 : decode cX11_striking 26 = .ok (.iload_n 3, 1) := by decide +kernel
theorem dX11_striking_27 : decode cX11_striking 27 = .ok (.iconst (-1), 1) := by decide +kernel
theorem dX11_striking_28 : decode cX11_striking 28 = .ok (.invokevirtual 243, 3) := by decide +kernel
theorem dX11_striking_31 : decode cX11_striking 31 = .ok (.aload_n 0, 1) := by decide +kernel
theorem dX11_striking_32 : decode cX11_striking 32 = .ok (.getfield 67, 3) := by decide +kernel
theorem dX11_striking_35 : decode cX11_striking 35 = .ok (.aload_n 0, 1) := by decide +kernel
theorem dX11_striking_36 : decode cX11_striking 36 = .ok (.getfield 53, 3) := by decide +kernel
theorem dX11_striking_39 : decode cX11_striking 39 = .ok (.aload_n 0, 1) := by decide +kernel
theorem dX11_striking_40 : decode cX11_striking 40 = .ok (.getfield 60, 3) := by decide +kernel
theorem dX11_striking_43 : decode cX11_striking 43 = .ok (.invokevirtual 278, 3) := by decide +kernel
theorem dX11_striking_46 : decode cX11_striking 46 = .ok (.aload_n 0, 1) := by decide +kernel
theorem dX11_striking_47 : decode cX11_striking 47 = .ok (.getfield 67, 3) := by decide +kernel
theorem dX11_striking_50 : decode cX11_striking 50 = .ok (.getfield 282, 3) := by decide +kernel
theorem dX11_striking_53 : decode cX11_striking 53 = .ok (.iload_n 2, 1) := by decide +kernel
theorem dX11_striking_54 : decode cX11_striking 54 = .ok (.iaload, 1) := by decide +kernel
theorem dX11_striking_55 : decode cX11_striking 55 = .ok (.ireturn, 1) := by decide +kernel
theorem dX11_price_0 : decode cX11_price 0 = .ok (.iload_n 1, 1) := by decide +kernel
theorem dX11_price_1 : decode cX11_price 1 = .ok (.invokestatic 219, 3) := by decide +kernel
theorem dX11_price_4 : decode cX11_price 4 = .ok (.ifCond .eq 11, 3) := by decide +kernel
theorem dX11_price_7 : decode cX11_price 7 = .ok (.aload_n 0, 1) := by decide +kernel
theorem dX11_price_8 : decode cX11_price 8 = .ok (.iload_n 2, 1) := by decide +kernel
theorem dX11_price_9 : decode cX11_price 9 = .ok (.invokevirtual 152, 3) := by decide +kernel
theorem dX11_price_12 : decode cX11_price 12 = .ok (.ifCond .ne 5, 3) := by decide +kernel
theorem dX11_price_15 : decode cX11_price 15 = .ok (.iconst (-1), 1) := by decide +kernel
theorem dX11_price_16 : decode cX11_price 16 = .ok (.ireturn, 1) := by decide +kernel
theorem dX11_price_17 : decode cX11_price 17 = .ok (.aload_n 0, 1) := by decide +kernel
theorem dX11_price_18 : decode cX11_price 18 = .ok (.iload_n 1, 1) := by decide +kernel
theorem dX11_price_19 : decode cX11_price 19 = .ok (.iload_n 2, 1) := by decide +kernel
theorem dX11_price_20 : decode cX11_price 20 = .ok (.iconst (-1), 1) := by decide +kernel
theorem dX11_price_21 : decode cX11_price 21 = .ok (.invokevirtual 243, 3) := by decide +kernel
theorem dX11_price_24 : decode cX11_price 24 = .ok (.aload_n 0, 1) := by decide +kernel
theorem dX11_price_25 : decode cX11_price 25 = .ok (.getfield 67, 3) := by decide +kernel
theorem dX11_price_28 : decode cX11_price 28 = .ok (.aload_n 0, 1) := by decide +kernel
theorem dX11_price_29 : decode cX11_price 29 = .ok (.getfield 53, 3) := by decide +kernel
theorem dX11_price_32 : decode cX11_price 32 = .ok (.aload_n 0, 1) := by decide +kernel
theorem dX11_price_33 : decode cX11_price 33 = .ok (.getfield 60, 3) := by decide +kernel
theorem dX11_price_36 : decode cX11_price 36 = .ok (.invokevirtual 278, 3) := by decide +kernel
theorem dX11_price_39 : decode cX11_price 39 = .ok (.iconst 0, 1) := by decide +kernel
theorem dX11_price_40 : decode cX11_price 40 = .ok (.istore_n 3, 1) := by decide +kernel
theorem dX11_price_41 : decode cX11_price 41 = .ok (.iconst 0, 1) := by decide +kernel
theorem dX11_price_42 : decode cX11_price 42 = .ok (.istore 4, 2) := by decide +kernel
theorem dX11_price_44 : decode cX11_price 44 = .ok (.iload 4, 2) := by decide +kernel
theorem dX11_price_46 : decode cX11_price 46 = .ok (.sipush 360, 3) := by decide +kernel
theorem dX11_price_49 : decode cX11_price 49 = .ok (.if_icmp .ge 34, 3) := by decide +kernel
theorem dX11_price_52 : decode cX11_price 52 = .ok (.aload_n 0, 1) := by decide +kernel
theorem dX11_price_53 : decode cX11_price 53 = .ok (.getfield 67, 3) := by decide +kernel
theorem dX11_price_56 : decode cX11_price 56 = .ok (.getfield 282, 3) := by decide +kernel
theorem dX11_price_59 : decode cX11_price 59 = .ok (.iload 4, 2) := by decide +kernel
theorem dX11_price_61 : decode cX11_price 61 = .ok (.iaload, 1) := by decide +kernel
theorem dX11_price_62 : decode cX11_price 62 = .ok (.aload_n 0, 1) := by decide +kernel
theorem dX11_price_63 : decode cX11_price 63 = .ok (.getfield 67, 3) := by decide +kernel
theorem dX11_price_66 : decode cX11_price 66 = .ok (.getfield 282, 3) := by decide +kernel
theorem dX11_price_69 : decode cX11_price 69 = .ok (.iconst 0, 1) := by decide +kernel
theorem dX11_price_70 : decode cX11_price 70 = .ok (.iaload, 1) := by decide +kernel
theorem dX11_price_71 : decode cX11_price 71 = .ok (.if_icmp .gt 6, 3) := by decide +kernel
theorem dX11_price_74 : decode cX11_price 74 = .ok (.iinc 3 1, 3) := by decide +kernel
theorem dX11_price_77 : decode cX11_price 77 = .ok (.iinc 4 1, 3) := by decide +kernel
theorem dX11_price_80 : decode cX11_price 80 = .ok (.goto (-36), 3) := by decide +kernel
theorem dX11_price_83 : decode cX11_price 83 = .ok (.iload_n 3, 1) := by decide +kernel
theorem dX11_price_84 : decode cX11_price 84 = .ok (.ireturn, 1) := by decide +kernel
theorem dX11_story_0 : decode cX11_story 0 = .ok (.iload_n 1, 1) := by decide +kernel
theorem dX11_story_1 : decode cX11_story 1 = .ok (.ifCond .lt 25, 3) := by decide +kernel
theorem dX11_story_4 : decode cX11_story 4 = .ok (.iload_n 1, 1) := by decide +kernel
theorem dX11_story_5 : decode cX11_story 5 = .ok (.aload_n 0, 1) := by decide +kernel
theorem dX11_story_6 : decode cX11_story 6 = .ok (.getfield 19, 3) := by decide +kernel
theorem dX11_story_9 : decode cX11_story 9 = .ok (.getfield 285, 3) := by decide +kernel
theorem dX11_story_12 : decode cX11_story 12 = .ok (.if_icmp .ge 14, 3) := by decide +kernel
theorem dX11_story_15 : decode cX11_story 15 = .ok (.aload_n 0, 1) := by decide +kernel
theorem dX11_story_16 : decode cX11_story 16 = .ok (.iload_n 2, 1) := by decide +kernel
theorem dX11_story_17 : decode cX11_story 17 = .ok (.iload_n 3, 1) := by decide +kernel
theorem dX11_story_18 : decode cX11_story 18 = .ok (.iload 4, 2) := by decide +kernel
theorem dX11_story_20 : decode cX11_story 20 = .ok (.invokevirtual 239, 3) := by decide +kernel
theorem dX11_story_23 : decode cX11_story 23 = .ok (.ifCond .ne 5, 3) := by decide +kernel
theorem dX11_story_26 : decode cX11_story 26 = .ok (.iconst (-1), 1) := by decide +kernel
theorem dX11_story_27 : decode cX11_story 27 = .ok (.ireturn, 1) := by decide +kernel
theorem dX11_story_28 : decode cX11_story 28 = .ok (.iload 5, 2) := by decide +kernel
theorem dX11_story_30 : decode cX11_story 30 = .ok (.tableswitch 73 0 2 #[26, 42, 56], 26) := by decide +kernel
theorem dX11_story_56 : decode cX11_story 56 = .ok (.aload_n 0, 1) := by decide +kernel
theorem dX11_story_57 : decode cX11_story 57 = .ok (.iload_n 3, 1) := by decide +kernel
theorem dX11_story_58 : decode cX11_story 58 = .ok (.iload 4, 2) := by decide +kernel
theorem dX11_story_60 : decode cX11_story 60 = .ok (.iload_n 1, 1) := by decide +kernel
theorem dX11_story_61 : decode cX11_story 61 = .ok (.invokevirtual 243, 3) := by decide +kernel
theorem dX11_story_64 : decode cX11_story 64 = .ok (.aload_n 0, 1) := by decide +kernel
theorem dX11_story_65 : decode cX11_story 65 = .ok (.getfield 53, 3) := by decide +kernel
theorem dX11_story_68 : decode cX11_story 68 = .ok (.getfield 210, 3) := by decide +kernel
theorem dX11_story_71 : decode cX11_story 71 = .ok (.ireturn, 1) := by decide +kernel
theorem dX11_story_72 : decode cX11_story 72 = .ok (.aload_n 0, 1) := by decide +kernel
theorem dX11_story_73 : decode cX11_story 73 = .ok (.iload_n 3, 1) := by decide +kernel
theorem dX11_story_74 : decode cX11_story 74 = .ok (.iload 4, 2) := by decide +kernel
theorem dX11_story_76 : decode cX11_story 76 = .ok (.iload_n 1, 1) := by decide +kernel
theorem dX11_story_77 : decode cX11_story 77 = .ok (.invokevirtual 243, 3) := by decide +kernel
theorem dX11_story_80 : decode cX11_story 80 = .ok (.aload_n 0, 1) := by decide +kernel
theorem dX11_story_81 : decode cX11_story 81 = .ok (.iload_n 2, 1) := by decide +kernel
theorem dX11_story_82 : decode cX11_story 82 = .ok (.invokevirtual 288, 3) := by decide +kernel
theorem dX11_story_85 : decode cX11_story 85 = .ok (.ireturn, 1) := by decide +kernel
theorem dX11_story_86 : decode cX11_story 86 = .ok (.aload_n 0, 1) := by decide +kernel
theorem dX11_story_87 : decode cX11_story 87 = .ok (.iload_n 2, 1) := by decide +kernel
theorem dX11_story_88 : decode cX11_story 88 = .ok (.iload_n 3, 1) := by decide +kernel
theorem dX11_story_89 : decode cX11_story 89 = .ok (.iload 4, 2) := by decide +kernel
theorem dX11_story_91 : decode cX11_story 91 = .ok (.iload_n 1, 1) := by decide +kernel
theorem dX11_story_92 : decode cX11_story 92 = .ok (.invokevirtual 260, 3) := by decide +kernel
theorem dX11_story_95 : decode cX11_story 95 = .ok (.aload_n 0, 1) := by decide +kernel
theorem dX11_story_96 : decode cX11_story 96 = .ok (.getfield 67, 3) := by decide +kernel
theorem dX11_story_99 : decode cX11_story 99 = .ok (.invokevirtual 264, 3) := by decide +kernel
theorem dX11_story_102 : decode cX11_story 102 = .ok (.ireturn, 1) := by decide +kernel
theorem dX11_story_103 : decode cX11_story 103 = .ok (.iconst (-1), 1) := by decide +kernel
theorem dX11_story_104 : decode cX11_story 104 = .ok (.ireturn, 1) := by decide +kernel
theorem dX11_otherwise_0 : decode cX11_otherwise 0 = .ok (.aload_n 0, 1) := by decide +kernel
theorem dX11_otherwise_1 : decode cX11_otherwise 1 = .ok (.iload_n 1, 1) := by decide +kernel
theorem dX11_otherwise_2 : decode cX11_otherwise 2 = .ok (.iload_n 2, 1) := by decide +kernel
theorem dX11_otherwise_3 : decode cX11_otherwise 3 = .ok (.iload_n 3, 1) := by decide +kernel
theorem dX11_otherwise_4 : decode cX11_otherwise 4 = .ok (.invokevirtual 239, 3) := by decide +kernel
theorem dX11_otherwise_7 : decode cX11_otherwise 7 = .ok (.ifCond .eq 12, 3) := by decide +kernel
theorem dX11_otherwise_10 : decode cX11_otherwise 10 = .ok (.aload_n 0, 1) := by decide +kernel
theorem dX11_otherwise_11 : decode cX11_otherwise 11 = .ok (.iload 4, 2) := by decide +kernel
theorem dX11_otherwise_13 : decode cX11_otherwise 13 = .ok (.invokevirtual 152, 3) := by decide +kernel
theorem dX11_otherwise_16 : decode cX11_otherwise 16 = .ok (.ifCond .ne 5, 3) := by decide +kernel
theorem dX11_otherwise_19 : decode cX11_otherwise 19 = .ok (.iconst (-1), 1) := by decide +kernel
theorem dX11_otherwise_20 : decode cX11_otherwise 20 = .ok (.ireturn, 1) := by decide +kernel
theorem dX11_otherwise_21 : decode cX11_otherwise 21 = .ok (.aload_n 0, 1) := by decide +kernel
theorem dX11_otherwise_22 : decode cX11_otherwise 22 = .ok (.iload_n 2, 1) := by decide +kernel
theorem dX11_otherwise_23 : decode cX11_otherwise 23 = .ok (.iload_n 3, 1) := by decide +kernel
theorem dX11_otherwise_24 : decode cX11_otherwise 24 = .ok (.iconst (-1), 1) := by decide +kernel
theorem dX11_otherwise_25 : decode cX11_otherwise 25 = .ok (.invokevirtual 243, 3) := by decide +kernel
theorem dX11_otherwise_28 : decode cX11_otherwise 28 = .ok (.iconst 0, 1) := by decide +kernel
theorem dX11_otherwise_29 : decode cX11_otherwise 29 = .ok (.istore 5, 2) := by decide +kernel
theorem dX11_otherwise_31 : decode cX11_otherwise 31 = .ok (.iload 5, 2) := by decide +kernel
theorem dX11_otherwise_33 : decode cX11_otherwise 33 = .ok (.sipush 196, 3) := by decide +kernel
theorem dX11_otherwise_36 : decode cX11_otherwise 36 = .ok (.if_icmp .ge 17, 3) := by decide +kernel
theorem dX11_otherwise_39 : decode cX11_otherwise 39 = .ok (.aload_n 0, 1) := by decide +kernel
theorem dX11_otherwise_40 : decode cX11_otherwise 40 = .ok (.getfield 96, 3) := by decide +kernel
theorem dX11_otherwise_43 : decode cX11_otherwise 43 = .ok (.iload 5, 2) := by decide +kernel
theorem dX11_otherwise_45 : decode cX11_otherwise 45 = .ok (.iconst 0, 1) := by decide +kernel
theorem dX11_otherwise_46 : decode cX11_otherwise 46 = .ok (.bastore, 1) := by decide +kernel
theorem dX11_otherwise_47 : decode cX11_otherwise 47 = .ok (.iinc 5 1, 3) := by decide +kernel
theorem dX11_otherwise_50 : decode cX11_otherwise 50 = .ok (.goto (-19), 3) := by decide +kernel
theorem dX11_otherwise_53 : decode cX11_otherwise 53 = .ok (.iconst 0, 1) := by decide +kernel
theorem dX11_otherwise_54 : decode cX11_otherwise 54 = .ok (.istore 5, 2) := by decide +kernel
theorem dX11_otherwise_56 : decode cX11_otherwise 56 = .ok (.iload 5, 2) := by decide +kernel
theorem dX11_otherwise_58 : decode cX11_otherwise 58 = .ok (.aload_n 0, 1) := by decide +kernel
theorem dX11_otherwise_59 : decode cX11_otherwise 59 = .ok (.getfield 53, 3) := by decide +kernel
theorem dX11_otherwise_62 : decode cX11_otherwise 62 = .ok (.getfield 210, 3) := by decide +kernel
theorem dX11_otherwise_65 : decode cX11_otherwise 65 = .ok (.if_icmp .ge 40, 3) := by decide +kernel
theorem dX11_otherwise_68 : decode cX11_otherwise 68 = .ok (.aload_n 0, 1) := by decide +kernel
theorem dX11_otherwise_69 : decode cX11_otherwise 69 = .ok (.getfield 96, 3) := by decide +kernel
theorem dX11_otherwise_72 : decode cX11_otherwise 72 = .ok (.aload_n 0, 1) := by decide +kernel
theorem dX11_otherwise_73 : decode cX11_otherwise 73 = .ok (.getfield 53, 3) := by decide +kernel
theorem dX11_otherwise_76 : decode cX11_otherwise 76 = .ok (.getfield 257, 3) := by decide +kernel
theorem dX11_otherwise_79 : decode cX11_otherwise 79 = .ok (.iload 5, 2) := by decide +kernel
theorem dX11_otherwise_81 : decode cX11_otherwise 81 = .ok (.iaload, 1) := by decide +kernel
theorem dX11_otherwise_82 : decode cX11_otherwise 82 = .ok (.aload_n 0, 1) := by decide +kernel
theorem dX11_otherwise_83 : decode cX11_otherwise 83 = .ok (.aload_n 0, 1) := by decide +kernel
theorem dX11_otherwise_84 : decode cX11_otherwise 84 = .ok (.getfield 53, 3) := by decide +kernel
theorem dX11_otherwise_87 : decode cX11_otherwise 87 = .ok (.getfield 250, 3) := by decide +kernel
theorem dX11_otherwise_90 : decode cX11_otherwise 90 = .ok (.iload 5, 2) := by decide +kernel
theorem dX11_otherwise_92 : decode cX11_otherwise 92 = .ok (.iaload, 1) := by decide +kernel
theorem dX11_otherwise_93 : decode cX11_otherwise 93 = .ok (.iload_n 1, 1) := by decide +kernel
theorem dX11_otherwise_94 : decode cX11_otherwise 94 = .ok (.iconst 0, 1) := by decide +kernel
theorem dX11_otherwise_95 : decode cX11_otherwise 95 = .ok (.invokevirtual 253, 3) := by decide +kernel
theorem dX11_otherwise_98 : decode cX11_otherwise 98 = .ok (.bastore, 1) := by decide +kernel
theorem dX11_otherwise_99 : decode cX11_otherwise 99 = .ok (.iinc 5 1, 3) := by decide +kernel
theorem dX11_otherwise_102 : decode cX11_otherwise 102 = .ok (.goto (-46), 3) := by decide +kernel
theorem dX11_otherwise_105 : decode cX11_otherwise 105 = .ok (.aload_n 0, 1) := by decide +kernel
theorem dX11_otherwise_106 : decode cX11_otherwise 106 = .ok (.iload_n 2, 1) := by decide +kernel
theorem dX11_otherwise_107 : decode cX11_otherwise 107 = .ok (.iload 4, 2) := by decide +kernel
theorem dX11_otherwise_109 : decode cX11_otherwise 109 = .ok (.iconst (-1), 1) := by decide +kernel
theorem dX11_otherwise_110 : decode cX11_otherwise 110 = .ok (.invokevirtual 243, 3) := by decide +kernel
theorem dX11_otherwise_113 : decode cX11_otherwise 113 = .ok (.iconst 0, 1) := by decide +kernel
theorem dX11_otherwise_114 : decode cX11_otherwise 114 = .ok (.istore 5, 2) := by decide +kernel
theorem dX11_otherwise_116 : decode cX11_otherwise 116 = .ok (.iload 5, 2) := by decide +kernel
theorem dX11_otherwise_118 : decode cX11_otherwise 118 = .ok (.aload_n 0, 1) := by decide +kernel
theorem dX11_otherwise_119 : decode cX11_otherwise 119 = .ok (.getfield 53, 3) := by decide +kernel
theorem dX11_otherwise_122 : decode cX11_otherwise 122 = .ok (.getfield 210, 3) := by decide +kernel
theorem dX11_otherwise_125 : decode cX11_otherwise 125 = .ok (.if_icmp .ge 44, 3) := by decide +kernel
theorem dX11_otherwise_128 : decode cX11_otherwise 128 = .ok (.aload_n 0, 1) := by decide +kernel
theorem dX11_otherwise_129 : decode cX11_otherwise 129 = .ok (.aload_n 0, 1) := by decide +kernel
theorem dX11_otherwise_130 : decode cX11_otherwise 130 = .ok (.getfield 53, 3) := by decide +kernel
theorem dX11_otherwise_133 : decode cX11_otherwise 133 = .ok (.getfield 250, 3) := by decide +kernel
theorem dX11_otherwise_136 : decode cX11_otherwise 136 = .ok (.iload 5, 2) := by decide +kernel
theorem dX11_otherwise_138 : decode cX11_otherwise 138 = .ok (.iaload, 1) := by decide +kernel
theorem dX11_otherwise_139 : decode cX11_otherwise 139 = .ok (.iload_n 1, 1) := by decide +kernel
theorem dX11_otherwise_140 : decode cX11_otherwise 140 = .ok (.iconst 0, 1) := by decide +kernel
theorem dX11_otherwise_141 : decode cX11_otherwise 141 = .ok (.invokevirtual 253, 3) := by decide +kernel
theorem dX11_otherwise_144 : decode cX11_otherwise 144 = .ok (.ifCond .eq 19, 3) := by decide +kernel
theorem dX11_otherwise_147 : decode cX11_otherwise 147 = .ok (.aload_n 0, 1) := by decide +kernel
theorem dX11_otherwise_148 : decode cX11_otherwise 148 = .ok (.getfield 96, 3) := by decide +kernel
theorem dX11_otherwise_151 : decode cX11_otherwise 151 = .ok (.aload_n 0, 1) := by decide +kernel
theorem dX11_otherwise_152 : decode cX11_otherwise 152 = .ok (.getfield 53, 3) := by decide +kernel
theorem dX11_otherwise_155 : decode cX11_otherwise 155 = .ok (.getfield 257, 3) := by decide +kernel
theorem dX11_otherwise_158 : decode cX11_otherwise 158 = .ok (.iload 5, 2) := by decide +kernel
theorem dX11_otherwise_160 : decode cX11_otherwise 160 = .ok (.iaload, 1) := by decide +kernel
theorem dX11_otherwise_161 : decode cX11_otherwise 161 = .ok (.iconst 0, 1) := by decide +kernel
theorem dX11_otherwise_162 : decode cX11_otherwise 162 = .ok (.bastore, 1) := by decide +kernel
theorem dX11_otherwise_163 : decode cX11_otherwise 163 = .ok (.iinc 5 1, 3) := by decide +kernel
theorem dX11_otherwise_166 : decode cX11_otherwise 166 = .ok (.goto (-50), 3) := by decide +kernel
theorem dX11_otherwise_169 : decode cX11_otherwise 169 = .ok (.aload_n 0, 1) := by decide +kernel
theorem dX11_otherwise_170 : decode cX11_otherwise 170 = .ok (.sipush 195, 3) := by decide +kernel
theorem dX11_otherwise_173 : decode cX11_otherwise 173 = .ok (.invokevirtual 291, 3) := by decide +kernel
theorem dX11_otherwise_176 : decode cX11_otherwise 176 = .ok (.ireturn, 1) := by decide +kernel
theorem dX11_free_0 : decode cX11_free 0 = .ok (.aload_n 0, 1) := by decide +kernel
theorem dX11_free_1 : decode cX11_free 1 = .ok (.iload_n 1, 1) := by decide +kernel
theorem dX11_free_2 : decode cX11_free 2 = .ok (.iload_n 3, 1) := by decide +kernel
theorem dX11_free_3 : decode cX11_free 3 = .ok (.iload_n 2, 1) := by decide +kernel
theorem dX11_free_4 : decode cX11_free 4 = .ok (.invokevirtual 239, 3) := by decide +kernel
theorem dX11_free_7 : decode cX11_free 7 = .ok (.ifCond .eq 14, 3) := by decide +kernel
theorem dX11_free_10 : decode cX11_free 10 = .ok (.iload_n 3, 1) := by decide +kernel
theorem dX11_free_11 : decode cX11_free 11 = .ok (.iload 4, 2) := by decide +kernel
theorem dX11_free_13 : decode cX11_free 13 = .ok (.iload 5, 2) := by decide +kernel
theorem dX11_free_15 : decode cX11_free 15 = .ok (.invokestatic 294, 3) := by decide +kernel
theorem dX11_free_18 : decode cX11_free 18 = .ok (.ifCond .ne 5, 3) := by decide +kernel
theorem dX11_free_21 : decode cX11_free 21 = .ok (.iconst (-1), 1) := by decide +kernel
theorem dX11_free_22 : decode cX11_free 22 = .ok (.ireturn, 1) := by decide +kernel
theorem dX11_free_23 : decode cX11_free 23 = .ok (.aload_n 0, 1) := by decide +kernel
theorem dX11_free_24 : decode cX11_free 24 = .ok (.iload_n 3, 1) := by decide +kernel
theorem dX11_free_25 : decode cX11_free 25 = .ok (.iload_n 2, 1) := by decide +kernel
theorem dX11_free_26 : decode cX11_free 26 = .ok (.iconst (-1), 1) := by decide +kernel
theorem dX11_free_27 : decode cX11_free 27 = .ok (.invokevirtual 243, 3) := by decide +kernel
theorem dX11_free_30 : decode cX11_free 30 = .ok (.iconst (-1), 1) := by decide +kernel
theorem dX11_free_31 : decode cX11_free 31 = .ok (.istore 6, 2) := by decide +kernel
theorem dX11_free_33 : decode cX11_free 33 = .ok (.iload_n 3, 1) := by decide +kernel
theorem dX11_free_34 : decode cX11_free 34 = .ok (.istore 7, 2) := by decide +kernel
theorem dX11_free_36 : decode cX11_free 36 = .ok (.iconst 0, 1) := by decide +kernel
theorem dX11_free_37 : decode cX11_free 37 = .ok (.istore 8, 2) := by decide +kernel
theorem dX11_free_39 : decode cX11_free 39 = .ok (.iload 8, 2) := by decide +kernel
theorem dX11_free_41 : decode cX11_free 41 = .ok (.iload 5, 2) := by decide +kernel
theorem dX11_free_43 : decode cX11_free 43 = .ok (.if_icmp .ge 43, 3) := by decide +kernel
theorem dX11_free_46 : decode cX11_free 46 = .ok (.aload_n 0, 1) := by decide +kernel
theorem dX11_free_47 : decode cX11_free 47 = .ok (.iload_n 1, 1) := by decide +kernel
theorem dX11_free_48 : decode cX11_free 48 = .ok (.iload_n 3, 1) := by decide +kernel
theorem dX11_free_49 : decode cX11_free 49 = .ok (.iload 8, 2) := by decide +kernel
theorem dX11_free_51 : decode cX11_free 51 = .ok (.iload 4, 2) := by decide +kernel
theorem dX11_free_53 : decode cX11_free 53 = .ok (.imul, 1) := by decide +kernel
theorem dX11_free_54 : decode cX11_free 54 = .ok (.iadd, 1) := by decide +kernel
theorem dX11_free_55 : decode cX11_free 55 = .ok (.invokevirtual 297, 3) := by decide +kernel
theorem dX11_free_58 : decode cX11_free 58 = .ok (.istore 9, 2) := by decide +kernel
theorem dX11_free_60 : decode cX11_free 60 = .ok (.iload 9, 2) := by decide +kernel
theorem dX11_free_62 : decode cX11_free 62 = .ok (.iload 6, 2) := by decide +kernel
theorem dX11_free_64 : decode cX11_free 64 = .ok (.if_icmp .le 16, 3) := by decide +kernel
theorem dX11_free_67 : decode cX11_free 67 = .ok (.iload 9, 2) := by decide +kernel
theorem dX11_free_69 : decode cX11_free 69 = .ok (.istore 6, 2) := by decide +kernel
theorem dX11_free_71 : decode cX11_free 71 = .ok (.iload_n 3, 1) := by decide +kernel
theorem dX11_free_72 : decode cX11_free 72 = .ok (.iload 8, 2) := by decide +kernel
theorem dX11_free_74 : decode cX11_free 74 = .ok (.iload 4, 2) := by decide +kernel
theorem dX11_free_76 : decode cX11_free 76 = .ok (.imul, 1) := by decide +kernel
theorem dX11_free_77 : decode cX11_free 77 = .ok (.iadd, 1) := by decide +kernel
theorem dX11_free_78 : decode cX11_free 78 = .ok (.istore 7, 2) := by decide +kernel
theorem dX11_free_80 : decode cX11_free 80 = .ok (.iinc 8 1, 3) := by decide +kernel
theorem dX11_free_83 : decode cX11_free 83 = .ok (.goto (-44), 3) := by decide +kernel
theorem dX11_free_86 : decode cX11_free 86 = .ok (.iload 7, 2) := by decide +kernel
theorem dX11_free_88 : decode cX11_free 88 = .ok (.ireturn, 1) := by decide +kernel
theorem dX11_freer_0 : decode cX11_freer 0 = .ok (.aload_n 0, 1) := by decide +kernel
theorem dX11_freer_1 : decode cX11_freer 1 = .ok (.iload_n 1, 1) := by decide +kernel
theorem dX11_freer_2 : decode cX11_freer 2 = .ok (.iload 6, 2) := by decide +kernel
theorem dX11_freer_4 : decode cX11_freer 4 = .ok (.iload_n 2, 1) := by decide +kernel
theorem dX11_freer_5 : decode cX11_freer 5 = .ok (.invokevirtual 239, 3) := by decide +kernel
theorem dX11_freer_8 : decode cX11_freer 8 = .ok (.ifCond .eq 14, 3) := by decide +kernel
theorem dX11_freer_11 : decode cX11_freer 11 = .ok (.iload_n 3, 1) := by decide +kernel
theorem dX11_freer_12 : decode cX11_freer 12 = .ok (.iload 4, 2) := by decide +kernel
theorem dX11_freer_14 : decode cX11_freer 14 = .ok (.iload 5, 2) := by decide +kernel
theorem dX11_freer_16 : decode cX11_freer 16 = .ok (.invokestatic 294, 3) := by decide +kernel
theorem dX11_freer_19 : decode cX11_freer 19 = .ok (.ifCond .ne 5, 3) := by decide +kernel
theorem dX11_freer_22 : decode cX11_freer 22 = .ok (.iconst (-1), 1) := by decide +kernel
theorem dX11_freer_23 : decode cX11_freer 23 = .ok (.ireturn, 1) := by decide +kernel
theorem dX11_freer_24 : decode cX11_freer 24 = .ok (.aload_n 0, 1) := by decide +kernel
theorem dX11_freer_25 : decode cX11_freer 25 = .ok (.iload 6, 2) := by decide +kernel
theorem dX11_freer_27 : decode cX11_freer 27 = .ok (.iload_n 2, 1) := by decide +kernel
theorem dX11_freer_28 : decode cX11_freer 28 = .ok (.iconst (-1), 1) := by decide +kernel
theorem dX11_freer_29 : decode cX11_freer 29 = .ok (.invokevirtual 243, 3) := by decide +kernel
theorem dX11_freer_32 : decode cX11_freer 32 = .ok (.aload_n 0, 1) := by decide +kernel
theorem dX11_freer_33 : decode cX11_freer 33 = .ok (.iload_n 1, 1) := by decide +kernel
theorem dX11_freer_34 : decode cX11_freer 34 = .ok (.invokevirtual 288, 3) := by decide +kernel
theorem dX11_freer_37 : decode cX11_freer 37 = .ok (.istore 7, 2) := by decide +kernel
theorem dX11_freer_39 : decode cX11_freer 39 = .ok (.iconst 0, 1) := by decide +kernel
theorem dX11_freer_40 : decode cX11_freer 40 = .ok (.istore 8, 2) := by decide +kernel
theorem dX11_freer_42 : decode cX11_freer 42 = .ok (.iconst 0, 1) := by decide +kernel
theorem dX11_freer_43 : decode cX11_freer 43 = .ok (.istore 9, 2) := by decide +kernel
theorem dX11_freer_45 : decode cX11_freer 45 = .ok (.iload 9, 2) := by decide +kernel
theorem dX11_freer_47 : decode cX11_freer 47 = .ok (.iload 5, 2) := by decide +kernel
theorem dX11_freer_49 : decode cX11_freer 49 = .ok (.if_icmp .ge 29, 3) := by decide +kernel
theorem dX11_freer_52 : decode cX11_freer 52 = .ok (.aload_n 0, 1) := by decide +kernel
theorem dX11_freer_53 : decode cX11_freer 53 = .ok (.iload_n 1, 1) := by decide +kernel
theorem dX11_freer_54 : decode cX11_freer 54 = .ok (.iload_n 3, 1) := by decide +kernel
theorem dX11_freer_55 : decode cX11_freer 55 = .ok (.iload 9, 2) := by decide +kernel
theorem dX11_freer_57 : decode cX11_freer 57 = .ok (.iload 4, 2) := by decide +kernel
theorem dX11_freer_59 : decode cX11_freer 59 = .ok (.imul, 1) := by decide +kernel
theorem dX11_freer_60 : decode cX11_freer 60 = .ok (.iadd, 1) := by decide +kernel
theorem dX11_freer_61 : decode cX11_freer 61 = .ok (.invokevirtual 297, 3) := by decide +kernel
theorem dX11_freer_64 : decode cX11_freer 64 = .ok (.iload 7, 2) := by decide +kernel
theorem dX11_freer_66 : decode cX11_freer 66 = .ok (.if_icmp .lt 6, 3) := by decide +kernel
theorem dX11_freer_69 : decode cX11_freer 69 = .ok (.iinc 8 1, 3) := by decide +kernel
theorem dX11_freer_72 : decode cX11_freer 72 = .ok (.iinc 9 1, 3) := by decide +kernel
theorem dX11_freer_75 : decode cX11_freer 75 = .ok (.goto (-30), 3) := by decide +kernel
theorem dX11_freer_78 : decode cX11_freer 78 = .ok (.iload 8, 2) := by decide +kernel
theorem dX11_freer_80 : decode cX11_freer 80 = .ok (.ireturn, 1) := by decide +kernel
theorem dX11_next_0 : decode cX11_next 0 = .ok (.aload_n 0, 1) := by decide +kernel
theorem dX11_next_1 : decode cX11_next 1 = .ok (.iload_n 1, 1) := by decide +kernel
theorem dX11_next_2 : decode cX11_next 2 = .ok (.iload_n 2, 1) := by decide +kernel
theorem dX11_next_3 : decode cX11_next 3 = .ok (.iload_n 3, 1) := by decide +kernel
theorem dX11_next_4 : decode cX11_next 4 = .ok (.invokevirtual 239, 3) := by decide +kernel
theorem dX11_next_7 : decode cX11_next 7 = .ok (.ifCond .ne 5, 3) := by decide +kernel
theorem dX11_next_10 : decode cX11_next 10 = .ok (.iconst (-1), 1) := by decide +kernel
theorem dX11_next_11 : decode cX11_next 11 = .ok (.ireturn, 1) := by decide +kernel
theorem dX11_next_12 : decode cX11_next 12 = .ok (.aload_n 0, 1) := by decide +kernel
theorem dX11_next_13 : decode cX11_next 13 = .ok (.iload_n 2, 1) := by decide +kernel
theorem dX11_next_14 : decode cX11_next 14 = .ok (.iload_n 3, 1) := by decide +kernel
theorem dX11_next_15 : decode cX11_next 15 = .ok (.iconst (-1), 1) := by decide +kernel
theorem dX11_next_16 : decode cX11_next 16 = .ok (.invokevirtual 243, 3) := by decide +kernel
theorem dX11_next_19 : decode cX11_next 19 = .ok (.iconst (-1), 1) := by decide +kernel
theorem dX11_next_20 : decode cX11_next 20 = .ok (.istore 4, 2) := by decide +kernel
theorem dX11_next_22 : decode cX11_next 22 = .ok (.bipush (-2), 2) := by decide +kernel
theorem dX11_next_24 : decode cX11_next 24 = .ok (.istore 5, 2) := by decide +kernel
theorem dX11_next_26 : decode cX11_next 26 = .ok (.iconst 0, 1) := by decide +kernel
theorem dX11_next_27 : decode cX11_next 27 = .ok (.istore 6, 2) := by decide +kernel
theorem dX11_next_29 : decode cX11_next 29 = .ok (.iload 6, 2) := by decide +kernel
theorem dX11_next_31 : decode cX11_next 31 = .ok (.aload_n 0, 1) := by decide +kernel
theorem dX11_next_32 : decode cX11_next 32 = .ok (.getfield 53, 3) := by decide +kernel
theorem dX11_next_35 : decode cX11_next 35 = .ok (.getfield 300, 3) := by decide +kernel
theorem dX11_next_38 : decode cX11_next 38 = .ok (.if_icmp .ge 46, 3) := by decide +kernel
theorem dX11_next_41 : decode cX11_next 41 = .ok (.aload_n 0, 1) := by decide +kernel
theorem dX11_next_42 : decode cX11_next 42 = .ok (.getfield 53, 3) := by decide +kernel
theorem dX11_next_45 : decode cX11_next 45 = .ok (.getfield 171, 3) := by decide +kernel
theorem dX11_next_48 : decode cX11_next 48 = .ok (.iload 6, 2) := by decide +kernel
theorem dX11_next_50 : decode cX11_next 50 = .ok (.baload, 1) := by decide +kernel
theorem dX11_next_51 : decode cX11_next 51 = .ok (.ifCond .ne 27, 3) := by decide +kernel
theorem dX11_next_54 : decode cX11_next 54 = .ok (.aload_n 0, 1) := by decide +kernel
theorem dX11_next_55 : decode cX11_next 55 = .ok (.iload 6, 2) := by decide +kernel
theorem dX11_next_57 : decode cX11_next 57 = .ok (.iload_n 1, 1) := by decide +kernel
theorem dX11_next_58 : decode cX11_next 58 = .ok (.invokevirtual 303, 3) := by decide +kernel
theorem dX11_next_61 : decode cX11_next 61 = .ok (.istore 7, 2) := by decide +kernel
theorem dX11_next_63 : decode cX11_next 63 = .ok (.iload 7, 2) := by decide +kernel
theorem dX11_next_65 : decode cX11_next 65 = .ok (.iload 4, 2) := by decide +kernel
theorem dX11_next_67 : decode cX11_next 67 = .ok (.if_icmp .le 11, 3) := by decide +kernel
theorem dX11_next_70 : decode cX11_next 70 = .ok (.iload 7, 2) := by decide +kernel
theorem dX11_next_72 : decode cX11_next 72 = .ok (.istore 4, 2) := by decide +kernel
theorem dX11_next_74 : decode cX11_next 74 = .ok (.iload 6, 2) := by decide +kernel
theorem dX11_next_76 : decode cX11_next 76 = .ok (.istore 5, 2) := by decide +kernel
theorem dX11_next_78 : decode cX11_next 78 = .ok (.iinc 6 1, 3) := by decide +kernel
theorem dX11_next_81 : decode cX11_next 81 = .ok (.goto (-52), 3) := by decide +kernel
theorem dX11_next_84 : decode cX11_next 84 = .ok (.iload 5, 2) := by decide +kernel
theorem dX11_next_86 : decode cX11_next 86 = .ok (.ireturn, 1) := by decide +kernel
theorem dX11_site_0 : decode cX11_site 0 = .ok (.aload_n 0, 1) := by decide +kernel
theorem dX11_site_1 : decode cX11_site 1 = .ok (.getfield 85, 3) := by decide +kernel
theorem dX11_site_4 : decode cX11_site 4 = .ok (.bipush 6, 2) := by decide +kernel
theorem dX11_site_6 : decode cX11_site 6 = .ok (.if_icmp .ge 17, 3) := by decide +kernel
theorem dX11_site_9 : decode cX11_site 9 = .ok (.iload_n 1, 1) := by decide +kernel
theorem dX11_site_10 : decode cX11_site 10 = .ok (.invokestatic 180, 3) := by decide +kernel
theorem dX11_site_13 : decode cX11_site 13 = .ok (.ifCond .eq 10, 3) := by decide +kernel
theorem dX11_site_16 : decode cX11_site 16 = .ok (.iload_n 2, 1) := by decide +kernel
theorem dX11_site_17 : decode cX11_site 17 = .ok (.invokestatic 180, 3) := by decide +kernel
theorem dX11_site_20 : decode cX11_site 20 = .ok (.ifCond .ne 5, 3) := by decide +kernel
theorem dX11_site_23 : decode cX11_site 23 = .ok (.iconst (-1), 1) := by decide +kernel
