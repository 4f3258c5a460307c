theorem dX6_rising_15 : decode cX6_rising 15 = .ok (.getfield 25, 3) := by decide +kernel
theorem dX6_rising_18 : decode cX6_rising 18 = .ok (.iload_n 2, 1) := by decide +kernel
theorem dX6_rising_19 : decode cX6_rising 19 = .ok (.aload_n 0, 1) := by decide +kernel
theorem dX6_rising_20 : decode cX6_rising 20 = .ok (.getfield 22, 3) := by decide +kernel
theorem dX6_rising_23 : decode cX6_rising 23 = .ok (.invokevirtual 31, 3) := by decide +kernel
theorem dX6_rising_26 : decode cX6_rising 26 = .ok (.sipush 360, 3) := by decide +kernel
theorem dX6_rising_29 : decode cX6_rising 29 = .ok (.invokestatic 37, 3) := by decide +kernel
theorem dX6_rising_32 : decode cX6_rising 32 = .ok (.istore 4, 2) := by decide +kernel
theorem dX6_rising_34 : decode cX6_rising 34 = .ok (.aload_n 0, 1) := by decide +kernel
theorem dX6_rising_35 : decode cX6_rising 35 = .ok (.getfield 22, 3) := by decide +kernel
theorem dX6_rising_38 : decode cX6_rising 38 = .ok (.iconst 1, 1) := by decide +kernel
theorem dX6_rising_39 : decode cX6_rising 39 = .ok (.aload_n 1, 1) := by decide +kernel
theorem dX6_rising_40 : decode cX6_rising 40 = .ok (.iload 4, 2) := by decide +kernel
theorem dX6_rising_42 : decode cX6_rising 42 = .ok (.invokevirtual 43, 3) := by decide +kernel
theorem dX6_rising_45 : decode cX6_rising 45 = .ok (.iastore, 1) := by decide +kernel
theorem dX6_rising_46 : decode cX6_rising 46 = .ok (.aload_n 1, 1) := by decide +kernel
theorem dX6_rising_47 : decode cX6_rising 47 = .ok (.getfield 25, 3) := by decide +kernel
theorem dX6_rising_50 : decode cX6_rising 50 = .ok (.iload_n 2, 1) := by decide +kernel
theorem dX6_rising_51 : decode cX6_rising 51 = .ok (.aload_n 0, 1) := by decide +kernel
theorem dX6_rising_52 : decode cX6_rising 52 = .ok (.getfield 22, 3) := by decide +kernel
theorem dX6_rising_55 : decode cX6_rising 55 = .ok (.invokevirtual 31, 3) := by decide +kernel
theorem dX6_rising_58 : decode cX6_rising 58 = .ok (.sipush 360, 3) := by decide +kernel
theorem dX6_rising_61 : decode cX6_rising 61 = .ok (.invokestatic 37, 3) := by decide +kernel
theorem dX6_rising_64 : decode cX6_rising 64 = .ok (.ireturn, 1) := by decide +kernel
theorem dX6_watch_0 : decode cX6_watch 0 = .ok (.aload_n 0, 1) := by decide +kernel
theorem dX6_watch_1 : decode cX6_watch 1 = .ok (.aload_n 1, 1) := by decide +kernel
theorem dX6_watch_2 : decode cX6_watch 2 = .ok (.getfield 47, 3) := by decide +kernel
theorem dX6_watch_5 : decode cX6_watch 5 = .ok (.putfield 9, 3) := by decide +kernel
theorem dX6_watch_8 : decode cX6_watch 8 = .ok (.iconst 0, 1) := by decide +kernel
theorem dX6_watch_9 : decode cX6_watch 9 = .ok (.istore_n 3, 1) := by decide +kernel
theorem dX6_watch_10 : decode cX6_watch 10 = .ok (.iload_n 3, 1) := by decide +kernel
theorem dX6_watch_11 : decode cX6_watch 11 = .ok (.aload_n 0, 1) := by decide +kernel
theorem dX6_watch_12 : decode cX6_watch 12 = .ok (.getfield 9, 3) := by decide +kernel
theorem dX6_watch_15 : decode cX6_watch 15 = .ok (.if_icmp .ge 34, 3) := by decide +kernel
theorem dX6_watch_18 : decode cX6_watch 18 = .ok (.aload_n 0, 1) := by decide +kernel
theorem dX6_watch_19 : decode cX6_watch 19 = .ok (.getfield 15, 3) := by decide +kernel
theorem dX6_watch_22 : decode cX6_watch 22 = .ok (.iload_n 3, 1) := by decide +kernel
theorem dX6_watch_23 : decode cX6_watch 23 = .ok (.aload_n 0, 1) := by decide +kernel
theorem dX6_watch_24 : decode cX6_watch 24 = .ok (.aload_n 1, 1) := by decide +kernel
theorem dX6_watch_25 : decode cX6_watch 25 = .ok (.iload_n 3, 1) := by decide +kernel
theorem dX6_watch_26 : decode cX6_watch 26 = .ok (.iload_n 2, 1) := by decide +kernel
theorem dX6_watch_27 : decode cX6_watch 27 = .ok (.invokevirtual 48, 3) := by decide +kernel
theorem dX6_watch_30 : decode cX6_watch 30 = .ok (.iastore, 1) := by decide +kernel
theorem dX6_watch_31 : decode cX6_watch 31 = .ok (.aload_n 0, 1) := by decide +kernel
theorem dX6_watch_32 : decode cX6_watch 32 = .ok (.getfield 19, 3) := by decide +kernel
theorem dX6_watch_35 : decode cX6_watch 35 = .ok (.iload_n 3, 1) := by decide +kernel
theorem dX6_watch_36 : decode cX6_watch 36 = .ok (.aload_n 1, 1) := by decide +kernel
theorem dX6_watch_37 : decode cX6_watch 37 = .ok (.getfield 52, 3) := by decide +kernel
theorem dX6_watch_40 : decode cX6_watch 40 = .ok (.iload_n 3, 1) := by decide +kernel
theorem dX6_watch_41 : decode cX6_watch 41 = .ok (.iaload, 1) := by decide +kernel
theorem dX6_watch_42 : decode cX6_watch 42 = .ok (.iastore, 1) := by decide +kernel
theorem dX6_watch_43 : decode cX6_watch 43 = .ok (.iinc 3 1, 3) := by decide +kernel
theorem dX6_watch_46 : decode cX6_watch 46 = .ok (.goto (-36), 3) := by decide +kernel
theorem dX6_watch_49 : decode cX6_watch 49 = .ok (.return_, 1) := by decide +kernel
theorem dX6_struck_0 : decode cX6_struck 0 = .ok (.iconst 0, 1) := by decide +kernel
theorem dX6_struck_1 : decode cX6_struck 1 = .ok (.istore 4, 2) := by decide +kernel
theorem dX6_struck_3 : decode cX6_struck 3 = .ok (.iconst 0, 1) := by decide +kernel
theorem dX6_struck_4 : decode cX6_struck 4 = .ok (.istore 5, 2) := by decide +kernel
theorem dX6_struck_6 : decode cX6_struck 6 = .ok (.iload 5, 2) := by decide +kernel
theorem dX6_struck_8 : decode cX6_struck 8 = .ok (.aload_n 0, 1) := by decide +kernel
theorem dX6_struck_9 : decode cX6_struck 9 = .ok (.getfield 9, 3) := by decide +kernel
theorem dX6_struck_12 : decode cX6_struck 12 = .ok (.if_icmp .ge 61, 3) := by decide +kernel
theorem dX6_struck_15 : decode cX6_struck 15 = .ok (.iload_n 3, 1) := by decide +kernel
theorem dX6_struck_16 : decode cX6_struck 16 = .ok (.ifCond .eq 15, 3) := by decide +kernel
theorem dX6_struck_19 : decode cX6_struck 19 = .ok (.iload_n 2, 1) := by decide +kernel
theorem dX6_struck_20 : decode cX6_struck 20 = .ok (.aload_n 0, 1) := by decide +kernel
theorem dX6_struck_21 : decode cX6_struck 21 = .ok (.getfield 19, 3) := by decide +kernel
theorem dX6_struck_24 : decode cX6_struck 24 = .ok (.iload 5, 2) := by decide +kernel
theorem dX6_struck_26 : decode cX6_struck 26 = .ok (.iaload, 1) := by decide +kernel
theorem dX6_struck_27 : decode cX6_struck 27 = .ok (.isub, 1) := by decide +kernel
theorem dX6_struck_28 : decode cX6_struck 28 = .ok (.goto 12, 3) := by decide +kernel
theorem dX6_struck_31 : decode cX6_struck 31 = .ok (.iload_n 2, 1) := by decide +kernel
theorem dX6_struck_32 : decode cX6_struck 32 = .ok (.aload_n 0, 1) := by decide +kernel
theorem dX6_struck_33 : decode cX6_struck 33 = .ok (.getfield 19, 3) := by decide +kernel
theorem dX6_struck_36 : decode cX6_struck 36 = .ok (.iload 5, 2) := by decide +kernel
theorem dX6_struck_38 : decode cX6_struck 38 = .ok (.iaload, 1) := by decide +kernel
theorem dX6_struck_39 : decode cX6_struck 39 = .ok (.iadd, 1) := by decide +kernel
theorem dX6_struck_40 : decode cX6_struck 40 = .ok (.istore 6, 2) := by decide +kernel
theorem dX6_struck_42 : decode cX6_struck 42 = .ok (.iload_n 1, 1) := by decide +kernel
theorem dX6_struck_43 : decode cX6_struck 43 = .ok (.aload_n 0, 1) := by decide +kernel
theorem dX6_struck_44 : decode cX6_struck 44 = .ok (.getfield 15, 3) := by decide +kernel
theorem dX6_struck_47 : decode cX6_struck 47 = .ok (.iload 5, 2) := by decide +kernel
theorem dX6_struck_49 : decode cX6_struck 49 = .ok (.iaload, 1) := by decide +kernel
theorem dX6_struck_50 : decode cX6_struck 50 = .ok (.invokestatic 53, 3) := by decide +kernel
theorem dX6_struck_53 : decode cX6_struck 53 = .ok (.iload 6, 2) := by decide +kernel
theorem dX6_struck_55 : decode cX6_struck 55 = .ok (.if_icmp .gt 12, 3) := by decide +kernel
theorem dX6_struck_58 : decode cX6_struck 58 = .ok (.iload 4, 2) := by decide +kernel
theorem dX6_struck_60 : decode cX6_struck 60 = .ok (.iconst 1, 1) := by decide +kernel
theorem dX6_struck_61 : decode cX6_struck 61 = .ok (.iload 5, 2) := by decide +kernel
theorem dX6_struck_63 : decode cX6_struck 63 = .ok (.ishl, 1) := by decide +kernel
theorem dX6_struck_64 : decode cX6_struck 64 = .ok (.ior, 1) := by decide +kernel
theorem dX6_struck_65 : decode cX6_struck 65 = .ok (.istore 4, 2) := by decide +kernel
theorem dX6_struck_67 : decode cX6_struck 67 = .ok (.iinc 5 1, 3) := by decide +kernel
theorem dX6_struck_70 : decode cX6_struck 70 = .ok (.goto (-64), 3) := by decide +kernel
theorem dX6_struck_73 : decode cX6_struck 73 = .ok (.iload 4, 2) := by decide +kernel
theorem dX6_struck_75 : decode cX6_struck 75 = .ok (.ireturn, 1) := by decide +kernel
theorem dX7_init_0 : decode cX7_init 0 = .ok (.aload_n 0, 1) := by decide +kernel
theorem dX7_init_1 : decode cX7_init 1 = .ok (.invokespecial 3, 3) := by decide +kernel
theorem dX7_init_4 : decode cX7_init 4 = .ok (.aload_n 0, 1) := by decide +kernel
theorem dX7_init_5 : decode cX7_init 5 = .ok (.iconst 0, 1) := by decide +kernel
theorem dX7_init_6 : decode cX7_init 6 = .ok (.putfield 9, 3) := by decide +kernel
theorem dX7_init_9 : decode cX7_init 9 = .ok (.aload_n 0, 1) := by decide +kernel
theorem dX7_init_10 : decode cX7_init 10 = .ok (.iconst 0, 1) := by decide +kernel
theorem dX7_init_11 : decode cX7_init 11 = .ok (.putfield 15, 3) := by decide +kernel
theorem dX7_init_14 : decode cX7_init 14 = .ok (.aload_n 0, 1) := by decide +kernel
theorem dX7_init_15 : decode cX7_init 15 = .ok (.bipush 60, 2) := by decide +kernel
theorem dX7_init_17 : decode cX7_init 17 = .ok (.newarray .int, 2) := by decide +kernel
theorem dX7_init_19 : decode cX7_init 19 = .ok (.putfield 18, 3) := by decide +kernel
theorem dX7_init_22 : decode cX7_init 22 = .ok (.aload_n 0, 1) := by decide +kernel
theorem dX7_init_23 : decode cX7_init 23 = .ok (.bipush 60, 2) := by decide +kernel
theorem dX7_init_25 : decode cX7_init 25 = .ok (.newarray .int, 2) := by decide +kernel
theorem dX7_init_27 : decode cX7_init 27 = .ok (.putfield 22, 3) := by decide +kernel
theorem dX7_init_30 : decode cX7_init 30 = .ok (.aload_n 0, 1) := by decide +kernel
theorem dX7_init_31 : decode cX7_init 31 = .ok (.bipush 60, 2) := by decide +kernel
theorem dX7_init_33 : decode cX7_init 33 = .ok (.newarray .int, 2) := by decide +kernel
theorem dX7_init_35 : decode cX7_init 35 = .ok (.putfield 25, 3) := by decide +kernel
theorem dX7_init_38 : decode cX7_init 38 = .ok (.aload_n 0, 1) := by decide +kernel
theorem dX7_init_39 : decode cX7_init 39 = .ok (.bipush 60, 2) := by decide +kernel
theorem dX7_init_41 : decode cX7_init 41 = .ok (.newarray .int, 2) := by decide +kernel
theorem dX7_init_43 : decode cX7_init 43 = .ok (.putfield 28, 3) := by decide +kernel
theorem dX7_init_46 : decode cX7_init 46 = .ok (.aload_n 0, 1) := by decide +kernel
theorem dX7_init_47 : decode cX7_init 47 = .ok (.bipush 60, 2) := by decide +kernel
theorem dX7_init_49 : decode cX7_init 49 = .ok (.newarray .int, 2) := by decide +kernel
theorem dX7_init_51 : decode cX7_init 51 = .ok (.putfield 31, 3) := by decide +kernel
theorem dX7_init_54 : decode cX7_init 54 = .ok (.return_, 1) := by decide +kernel
theorem dX7_forget_0 : decode cX7_forget 0 = .ok (.aload_n 0, 1) := by decide +kernel
theorem dX7_forget_1 : decode cX7_forget 1 = .ok (.iconst 0, 1) := by decide +kernel
theorem dX7_forget_2 : decode cX7_forget 2 = .ok (.putfield 9, 3) := by decide +kernel
theorem dX7_forget_5 : decode cX7_forget 5 = .ok (.aload_n 0, 1) := by decide +kernel
theorem dX7_forget_6 : decode cX7_forget 6 = .ok (.iconst 0, 1) := by decide +kernel
theorem dX7_forget_7 : decode cX7_forget 7 = .ok (.putfield 15, 3) := by decide +kernel
theorem dX7_forget_10 : decode cX7_forget 10 = .ok (.return_, 1) := by decide +kernel
theorem dX7_copy_0 : decode cX7_copy 0 = .ok (.aload_n 1, 1) := by decide +kernel
theorem dX7_copy_1 : decode cX7_copy 1 = .ok (.ifnonnull 4, 3) := by decide +kernel
theorem dX7_copy_4 : decode cX7_copy 4 = .ok (.return_, 1) := by decide +kernel
theorem dX7_copy_5 : decode cX7_copy 5 = .ok (.aload_n 0, 1) := by decide +kernel
theorem dX7_copy_6 : decode cX7_copy 6 = .ok (.aload_n 1, 1) := by decide +kernel
theorem dX7_copy_7 : decode cX7_copy 7 = .ok (.getfield 9, 3) := by decide +kernel
theorem dX7_copy_10 : decode cX7_copy 10 = .ok (.putfield 9, 3) := by decide +kernel
theorem dX7_copy_13 : decode cX7_copy 13 = .ok (.aload_n 0, 1) := by decide +kernel
theorem dX7_copy_14 : decode cX7_copy 14 = .ok (.aload_n 1, 1) := by decide +kernel
theorem dX7_copy_15 : decode cX7_copy 15 = .ok (.getfield 15, 3) := by decide +kernel
theorem dX7_copy_18 : decode cX7_copy 18 = .ok (.putfield 15, 3) := by decide +kernel
theorem dX7_copy_21 : decode cX7_copy 21 = .ok (.aload_n 1, 1) := by decide +kernel
theorem dX7_copy_22 : decode cX7_copy 22 = .ok (.getfield 18, 3) := by decide +kernel
theorem dX7_copy_25 : decode cX7_copy 25 = .ok (.iconst 0, 1) := by decide +kernel
theorem dX7_copy_26 : decode cX7_copy 26 = .ok (.aload_n 0, 1) := by decide +kernel
theorem dX7_copy_27 : decode cX7_copy 27 = .ok (.getfield 18, 3) := by decide +kernel
theorem dX7_copy_30 : decode cX7_copy 30 = .ok (.iconst 0, 1) := by decide +kernel
theorem dX7_copy_31 : decode cX7_copy 31 = .ok (.bipush 60, 2) := by decide +kernel
theorem dX7_copy_33 : decode cX7_copy 33 = .ok (.invokestatic 34, 3) := by decide +kernel
theorem dX7_copy_36 : decode cX7_copy 36 = .ok (.aload_n 1, 1) := by decide +kernel
theorem dX7_copy_37 : decode cX7_copy 37 = .ok (.getfield 22, 3) := by decide +kernel
theorem dX7_copy_40 : decode cX7_copy 40 = .ok (.iconst 0, 1) := by decide +kernel
theorem dX7_copy_41 : decode cX7_copy 41 = .ok (.aload_n 0, 1) := by decide +kernel
theorem dX7_copy_42 : decode cX7_copy 42 = .ok (.getfield 22, 3) := by decide +kernel
theorem dX7_copy_45 : decode cX7_copy 45 = .ok (.iconst 0, 1) := by decide +kernel
theorem dX7_copy_46 : decode cX7_copy 46 = .ok (.bipush 60, 2) := by decide +kernel
theorem dX7_copy_48 : decode cX7_copy 48 = .ok (.invokestatic 34, 3) := by decide +kernel
theorem dX7_copy_51 : decode cX7_copy 51 = .ok (.aload_n 1, 1) := by decide +kernel
theorem dX7_copy_52 : decode cX7_copy 52 = .ok (.getfield 25, 3) := by decide +kernel
theorem dX7_copy_55 : decode cX7_copy 55 = .ok (.iconst 0, 1) := by decide +kernel
theorem dX7_copy_56 : decode cX7_copy 56 = .ok (.aload_n 0, 1) := by decide +kernel
theorem dX7_copy_57 : decode cX7_copy 57 = .ok (.getfield 25, 3) := by decide +kernel
theorem dX7_copy_60 : decode cX7_copy 60 = .ok (.iconst 0, 1) := by decide +kernel
theorem dX7_copy_61 : decode cX7_copy 61 = .ok (.bipush 60, 2) := by decide +kernel
theorem dX7_copy_63 : decode cX7_copy 63 = .ok (.invokestatic 34, 3) := by decide +kernel
theorem dX7_copy_66 : decode cX7_copy 66 = .ok (.aload_n 1, 1) := by decide +kernel
theorem dX7_copy_67 : decode cX7_copy 67 = .ok (.getfield 28, 3) := by decide +kernel
theorem dX7_copy_70 : decode cX7_copy 70 = .ok (.iconst 0, 1) := by decide +kernel
theorem dX7_copy_71 : decode cX7_copy 71 = .ok (.aload_n 0, 1) := by decide +kernel
theorem dX7_copy_72 : decode cX7_copy 72 = .ok (.getfield 28, 3) := by decide +kernel
theorem dX7_copy_75 : decode cX7_copy 75 = .ok (.iconst 0, 1) := by decide +kernel
theorem dX7_copy_76 : decode cX7_copy 76 = .ok (.bipush 60, 2) := by decide +kernel
theorem dX7_copy_78 : decode cX7_copy 78 = .ok (.invokestatic 34, 3) := by decide +kernel
theorem dX7_copy_81 : decode cX7_copy 81 = .ok (.aload_n 1, 1) := by decide +kernel
theorem dX7_copy_82 : decode cX7_copy 82 = .ok (.getfield 31, 3) := by decide +kernel
theorem dX7_copy_85 : decode cX7_copy 85 = .ok (.iconst 0, 1) := by decide +kernel
theorem dX7_copy_86 : decode cX7_copy 86 = .ok (.aload_n 0, 1) := by decide +kernel
theorem dX7_copy_87 : decode cX7_copy 87 = .ok (.getfield 31, 3) := by decide +kernel
theorem dX7_copy_90 : decode cX7_copy 90 = .ok (.iconst 0, 1) := by decide +kernel
theorem dX7_copy_91 : decode cX7_copy 91 = .ok (.bipush 60, 2) := by decide +kernel
theorem dX7_copy_93 : decode cX7_copy 93 = .ok (.invokestatic 34, 3) := by decide +kernel
theorem dX7_copy_96 : decode cX7_copy 96 = .ok (.return_, 1) := by decide +kernel
theorem dX7_note_0 : decode cX7_note 0 = .ok (.aload_n 0, 1) := by decide +kernel
theorem dX7_note_1 : decode cX7_note 1 = .ok (.getfield 9, 3) := by decide +kernel
theorem dX7_note_4 : decode cX7_note 4 = .ok (.bipush 60, 2) := by decide +kernel
theorem dX7_note_6 : decode cX7_note 6 = .ok (.if_icmp .lt 5, 3) := by decide +kernel
theorem dX7_note_9 : decode cX7_note 9 = .ok (.iconst (-1), 1) := by decide +kernel
theorem dX7_note_10 : decode cX7_note 10 = .ok (.ireturn, 1) := by decide +kernel
theorem dX7_note_11 : decode cX7_note 11 = .ok (.aload_n 0, 1) := by decide +kernel
theorem dX7_note_12 : decode cX7_note 12 = .ok (.getfield 18, 3) := by decide +kernel
theorem dX7_note_15 : decode cX7_note 15 = .ok (.aload_n 0, 1) := by decide +kernel
theorem dX7_note_16 : decode cX7_note 16 = .ok (.getfield 9, 3) := by decide +kernel
theorem dX7_note_19 : decode cX7_note 19 = .ok (.iload_n 1, 1) := by decide +kernel
theorem dX7_note_20 : decode cX7_note 20 = .ok (.iastore, 1) := by decide +kernel
theorem dX7_note_21 : decode cX7_note 21 = .ok (.aload_n 0, 1) := by decide +kernel
theorem dX7_note_22 : decode cX7_note 22 = .ok (.getfield 22, 3) := by decide +kernel
theorem dX7_note_25 : decode cX7_note 25 = .ok (.aload_n 0, 1) := by decide +kernel
theorem dX7_note_26 : decode cX7_note 26 = .ok (.getfield 9, 3) := by decide +kernel
theorem dX7_note_29 : decode cX7_note 29 = .ok (.iload_n 2, 1) := by decide +kernel
theorem dX7_note_30 : decode cX7_note 30 = .ok (.iastore, 1) := by decide +kernel
theorem dX7_note_31 : decode cX7_note 31 = .ok (.aload_n 0, 1) := by decide +kernel
theorem dX7_note_32 : decode cX7_note 32 = .ok (.getfield 25, 3) := by decide +kernel
theorem dX7_note_35 : decode cX7_note 35 = .ok (.aload_n 0, 1) := by decide +kernel
theorem dX7_note_36 : decode cX7_note 36 = .ok (.getfield 9, 3) := by decide +kernel
theorem dX7_note_39 : decode cX7_note 39 = .ok (.iload_n 3, 1) := by decide +kernel
theorem dX7_note_40 : decode cX7_note 40 = .ok (.iastore, 1) := by decide +kernel
theorem dX7_note_41 : decode cX7_note 41 = .ok (.aload_n 0, 1) := by decide +kernel
theorem dX7_note_42 : decode cX7_note 42 = .ok (.getfield 28, 3) := by decide +kernel
theorem dX7_note_45 : decode cX7_note 45 = .ok (.aload_n 0, 1) := by decide +kernel
theorem dX7_note_46 : decode cX7_note 46 = .ok (.getfield 9, 3) := by decide +kernel
theorem dX7_note_49 : decode cX7_note 49 = .ok (.iload 4, 2) := by decide +kernel
theorem dX7_note_51 : decode cX7_note 51 = .ok (.iastore, 1) := by decide +kernel
theorem dX7_note_52 : decode cX7_note 52 = .ok (.aload_n 0, 1) := by decide +kernel
theorem dX7_note_53 : decode cX7_note 53 = .ok (.getfield 31, 3) := by decide +kernel
theorem dX7_note_56 : decode cX7_note 56 = .ok (.aload_n 0, 1) := by decide +kernel
theorem dX7_note_57 : decode cX7_note 57 = .ok (.getfield 9, 3) := by decide +kernel
theorem dX7_note_60 : decode cX7_note 60 = .ok (.iload 5, 2) := by decide +kernel
theorem dX7_note_62 : decode cX7_note 62 = .ok (.iastore, 1) := by decide +kernel
theorem dX7_note_63 : decode cX7_note 63 = .ok (.aload_n 0, 1) := by decide +kernel
theorem dX7_note_64 : decode cX7_note 64 = .ok (.dup, 1) := by decide +kernel
theorem dX7_note_65 : decode cX7_note 65 = .ok (.getfield 9, 3) := by decide +kernel
theorem dX7_note_68 : decode cX7_note 68 = .ok (.iconst 1, 1) := by decide +kernel
theorem dX7_note_69 : decode cX7_note 69 = .ok (.iadd, 1) := by decide +kernel
theorem dX7_note_70 : decode cX7_note 70 = .ok (.putfield 9, 3) := by decide +kernel
theorem dX7_note_73 : decode cX7_note 73 = .ok (.aload_n 0, 1) := by decide +kernel
theorem dX7_note_74 : decode cX7_note 74 = .ok (.getfield 9, 3) := by decide +kernel
theorem dX7_note_77 : decode cX7_note 77 = .ok (.iconst 1, 1) := by decide +kernel
theorem dX7_note_78 : decode cX7_note 78 = .ok (.isub, 1) := by decide +kernel
theorem dX7_note_79 : decode cX7_note 79 = .ok (.ireturn, 1) := by decide +kernel
theorem dX8_init_0 : decode cX8_init 0 = .ok (.aload_n 0, 1) := by decide +kernel
theorem dX8_init_1 : decode cX8_init 1 = .ok (.invokespecial 3, 3) := by decide +kernel
theorem dX8_init_4 : decode cX8_init 4 = .ok (.aload_n 0, 1) := by decide +kernel
theorem dX8_init_5 : decode cX8_init 5 = .ok (.iconst 0, 1) := by decide +kernel
theorem dX8_init_6 : decode cX8_init 6 = .ok (.putfield 9, 3) := by decide +kernel
theorem dX8_init_9 : decode cX8_init 9 = .ok (.aload_n 0, 1) := by decide +kernel
theorem dX8_init_10 : decode cX8_init 10 = .ok (.sipush 2000, 3) := by decide +kernel
theorem dX8_init_13 : decode cX8_init 13 = .ok (.newarray .byte, 2) := by decide +kernel
theorem dX8_init_15 : decode cX8_init 15 = .ok (.putfield 15, 3) := by decide +kernel
theorem dX8_init_18 : decode cX8_init 18 = .ok (.aload_n 0, 1) := by decide +kernel
theorem dX8_init_19 : decode cX8_init 19 = .ok (.iconst 0, 1) := by decide +kernel
theorem dX8_init_20 : decode cX8_init 20 = .ok (.putfield 19, 3) := by decide +kernel
theorem dX8_init_23 : decode cX8_init 23 = .ok (.aload_n 0, 1) := by decide +kernel
theorem dX8_init_24 : decode cX8_init 24 = .ok (.sipush 402, 3) := by decide +kernel
theorem dX8_init_27 : decode cX8_init 27 = .ok (.newarray .int, 2) := by decide +kernel
theorem dX8_init_29 : decode cX8_init 29 = .ok (.putfield 22, 3) := by decide +kernel
theorem dX8_init_32 : decode cX8_init 32 = .ok (.aload_n 0, 1) := by decide +kernel
theorem dX8_init_33 : decode cX8_init 33 = .ok (.sipush 402, 3) := by decide +kernel
theorem dX8_init_36 : decode cX8_init 36 = .ok (.newarray .int, 2) := by decide +kernel
theorem dX8_init_38 : decode cX8_init 38 = .ok (.putfield 26, 3) := by decide +kernel
theorem dX8_init_41 : decode cX8_init 41 = .ok (.aload_n 0, 1) := by decide +kernel
theorem dX8_init_42 : decode cX8_init 42 = .ok (.sipush 402, 3) := by decide +kernel
theorem dX8_init_45 : decode cX8_init 45 = .ok (.newarray .int, 2) := by decide +kernel
theorem dX8_init_47 : decode cX8_init 47 = .ok (.putfield 29, 3) := by decide +kernel
theorem dX8_init_50 : decode cX8_init 50 = .ok (.aload_n 0, 1) := by decide +kernel
theorem dX8_init_51 : decode cX8_init 51 = .ok (.sipush 402, 3) := by decide +kernel
theorem dX8_init_54 : decode cX8_init 54 = .ok (.newarray .long, 2) := by decide +kernel
theorem dX8_init_56 : decode cX8_init 56 = .ok (.putfield 32, 3) := by decide +kernel
theorem dX8_init_59 : decode cX8_init 59 = .ok (.return_, 1) := by decide +kernel
theorem dX8_append_0 : decode cX8_append 0 = .ok (.bipush 24, 2) := by decide +kernel
theorem dX8_append_2 : decode cX8_append 2 = .ok (.istore_n 2, 1) := by decide +kernel
theorem dX8_append_3 : decode cX8_append 3 = .ok (.iload_n 2, 1) := by decide +kernel
theorem dX8_append_4 : decode cX8_append 4 = .ok (.ifCond .lt 42, 3) := by decide +kernel
theorem dX8_append_7 : decode cX8_append 7 = .ok (.aload_n 0, 1) := by decide +kernel
theorem dX8_append_8 : decode cX8_append 8 = .ok (.getfield 9, 3) := by decide +kernel
theorem dX8_append_11 : decode cX8_append 11 = .ok (.sipush 2000, 3) := by decide +kernel
theorem dX8_append_14 : decode cX8_append 14 = .ok (.if_icmp .ge 32, 3) := by decide +kernel
theorem dX8_append_17 : decode cX8_append 17 = .ok (.aload_n 0, 1) := by decide +kernel
theorem dX8_append_18 : decode cX8_append 18 = .ok (.getfield 15, 3) := by decide +kernel
theorem dX8_append_21 : decode cX8_append 21 = .ok (.aload_n 0, 1) := by decide +kernel
theorem dX8_append_22 : decode cX8_append 22 = .ok (.getfield 9, 3) := by decide +kernel
theorem dX8_append_25 : decode cX8_append 25 = .ok (.iload_n 1, 1) := by decide +kernel
theorem dX8_append_26 : decode cX8_append 26 = .ok (.iload_n 2, 1) := by decide +kernel
theorem dX8_append_27 : decode cX8_append 27 = .ok (.ishr, 1) := by decide +kernel
theorem dX8_append_28 : decode cX8_append 28 = .ok (.i2b, 1) := by decide +kernel
theorem dX8_append_29 : decode cX8_append 29 = .ok (.bastore, 1) := by decide +kernel
theorem dX8_append_30 : decode cX8_append 30 = .ok (.aload_n 0, 1) := by decide +kernel
theorem dX8_append_31 : decode cX8_append 31 = .ok (.dup, 1) := by decide +kernel
theorem dX8_append_32 : decode cX8_append 32 = .ok (.getfield 9, 3) := by decide +kernel
theorem dX8_append_35 : decode cX8_append 35 = .ok (.iconst 1, 1) := by decide +kernel
theorem dX8_append_36 : decode cX8_append 36 = .ok (.iadd, 1) := by decide +kernel
theorem dX8_append_37 : decode cX8_append 37 = .ok (.putfield 9, 3) := by decide +kernel
theorem dX8_append_40 : decode cX8_append 40 = .ok (.iinc 2 (-8), 3) := by decide +kernel
theorem dX8_append_43 : decode cX8_append 43 = .ok (.goto (-40), 3) := by decide +kernel
theorem dX8_append_46 : decode cX8_append 46 = .ok (.return_, 1) := by decide +kernel
theorem dX8_cut_0 : decode cX8_cut 0 = .ok (.aload_n 0, 1) := by decide +kernel
theorem dX8_cut_1 : decode cX8_cut 1 = .ok (.iconst 0, 1) := by decide +kernel
theorem dX8_cut_2 : decode cX8_cut 2 = .ok (.putfield 19, 3) := by decide +kernel
theorem dX8_cut_5 : decode cX8_cut 5 = .ok (.iconst 0, 1) := by decide +kernel
theorem dX8_cut_6 : decode cX8_cut 6 = .ok (.istore_n 1, 1) := by decide +kernel
theorem dX8_cut_7 : decode cX8_cut 7 = .ok (.iconst 0, 1) := by decide +kernel
theorem dX8_cut_8 : decode cX8_cut 8 = .ok (.istore_n 2, 1) := by decide +kernel
theorem dX8_cut_9 : decode cX8_cut 9 = .ok (.iload_n 2, 1) := by decide +kernel
theorem dX8_cut_10 : decode cX8_cut 10 = .ok (.sipush 400, 3) := by decide +kernel
theorem dX8_cut_13 : decode cX8_cut 13 = .ok (.if_icmp .gt 52, 3) := by decide +kernel
theorem dX8_cut_16 : decode cX8_cut 16 = .ok (.aload_n 0, 1) := by decide +kernel
theorem dX8_cut_17 : decode cX8_cut 17 = .ok (.iload_n 1, 1) := by decide +kernel
theorem dX8_cut_18 : decode cX8_cut 18 = .ok (.invokevirtual 36, 3) := by decide +kernel
theorem dX8_cut_21 : decode cX8_cut 21 = .ok (.istore_n 1, 1) := by decide +kernel
theorem dX8_cut_22 : decode cX8_cut 22 = .ok (.iload_n 1, 1) := by decide +kernel
theorem dX8_cut_23 : decode cX8_cut 23 = .ok (.aload_n 0, 1) := by decide +kernel
theorem dX8_cut_24 : decode cX8_cut 24 = .ok (.getfield 9, 3) := by decide +kernel
theorem dX8_cut_27 : decode cX8_cut 27 = .ok (.if_icmp .lt 6, 3) := by decide +kernel
theorem dX8_cut_30 : decode cX8_cut 30 = .ok (.goto 35, 3) := by decide +kernel
theorem dX8_cut_33 : decode cX8_cut 33 = .ok (.aload_n 0, 1) := by decide +kernel
theorem dX8_cut_34 : decode cX8_cut 34 = .ok (.getfield 26, 3) := by decide +kernel
theorem dX8_cut_37 : decode cX8_cut 37 = .ok (.aload_n 0, 1) := by decide +kernel
theorem dX8_cut_38 : decode cX8_cut 38 = .ok (.getfield 19, 3) := by decide +kernel
theorem dX8_cut_41 : decode cX8_cut 41 = .ok (.iload_n 1, 1) := by decide +kernel
theorem dX8_cut_42 : decode cX8_cut 42 = .ok (.iastore, 1) := by decide +kernel
theorem dX8_cut_43 : decode cX8_cut 43 = .ok (.aload_n 0, 1) := by decide +kernel
theorem dX8_cut_44 : decode cX8_cut 44 = .ok (.iload_n 1, 1) := by decide +kernel
theorem dX8_cut_45 : decode cX8_cut 45 = .ok (.invokevirtual 40, 3) := by decide +kernel
theorem dX8_cut_48 : decode cX8_cut 48 = .ok (.istore_n 1, 1) := by decide +kernel
theorem dX8_cut_49 : decode cX8_cut 49 = .ok (.aload_n 0, 1) := by decide +kernel
theorem dX8_cut_50 : decode cX8_cut 50 = .ok (.dup, 1) := by decide +kernel
theorem dX8_cut_51 : decode cX8_cut 51 = .ok (.getfield 19, 3) := by decide +kernel
theorem dX8_cut_54 : decode cX8_cut 54 = .ok (.iconst 1, 1) := by decide +kernel
theorem dX8_cut_55 : decode cX8_cut 55 = .ok (.iadd, 1) := by decide +kernel
theorem dX8_cut_56 : decode cX8_cut 56 = .ok (.putfield 19, 3) := by decide +kernel
theorem dX8_cut_59 : decode cX8_cut 59 = .ok (.iinc 2 1, 3) := by decide +kernel
theorem dX8_cut_62 : decode cX8_cut 62 = .ok (.goto (-53), 3) := by decide +kernel
theorem dX8_cut_65 : decode cX8_cut 65 = .ok (.aload_n 0, 1) := by decide +kernel
theorem dX8_cut_66 : decode cX8_cut 66 = .ok (.getfield 22, 3) := by decide +kernel
theorem dX8_cut_69 : decode cX8_cut 69 = .ok (.aload_n 0, 1) := by decide +kernel
theorem dX8_cut_70 : decode cX8_cut 70 = .ok (.getfield 19, 3) := by decide +kernel
theorem dX8_cut_73 : decode cX8_cut 73 = .ok (.iconst 0, 1) := by decide +kernel
theorem dX8_cut_74 : decode cX8_cut 74 = .ok (.iastore, 1) := by decide +kernel
theorem dX8_cut_75 : decode cX8_cut 75 = .ok (.aload_n 0, 1) := by decide +kernel
theorem dX8_cut_76 : decode cX8_cut 76 = .ok (.getfield 26, 3) := by decide +kernel
theorem dX8_cut_79 : decode cX8_cut 79 = .ok (.aload_n 0, 1) := by decide +kernel
theorem dX8_cut_80 : decode cX8_cut 80 = .ok (.getfield 19, 3) := by decide +kernel
theorem dX8_cut_83 : decode cX8_cut 83 = .ok (.aload_n 0, 1) := by decide +kernel
theorem dX8_cut_84 : decode cX8_cut 84 = .ok (.getfield 9, 3) := by decide +kernel
theorem dX8_cut_87 : decode cX8_cut 87 = .ok (.iastore, 1) := by decide +kernel
theorem dX8_cut_88 : decode cX8_cut 88 = .ok (.return_, 1) := by decide +kernel
theorem dX8_sign_0 : decode cX8_sign 0 = .ok (.iload_n 1, 1) := by decide +kernel
theorem dX8_sign_1 : decode cX8_sign 1 = .ok (.ifCond .lt 24, 3) := by decide +kernel
theorem dX8_sign_4 : decode cX8_sign 4 = .ok (.iload_n 1, 1) := by decide +kernel
theorem dX8_sign_5 : decode cX8_sign 5 = .ok (.aload_n 0, 1) := by decide +kernel
theorem dX8_sign_6 : decode cX8_sign 6 = .ok (.getfield 9, 3) := by decide +kernel
theorem dX8_sign_9 : decode cX8_sign 9 = .ok (.if_icmp .ge 16, 3) := by decide +kernel
theorem dX8_sign_12 : decode cX8_sign 12 = .ok (.aload_n 0, 1) := by decide +kernel
theorem dX8_sign_13 : decode cX8_sign 13 = .ok (.getfield 15, 3) := by decide +kernel
theorem dX8_sign_16 : decode cX8_sign 16 = .ok (.iload_n 1, 1) := by decide +kernel
theorem dX8_sign_17 : decode cX8_sign 17 = .ok (.baload, 1) := by decide +kernel
theorem dX8_sign_18 : decode cX8_sign 18 = .ok (.sipush 255, 3) := by decide +kernel
theorem dX8_sign_21 : decode cX8_sign 21 = .ok (.iand, 1) := by decide +kernel
theorem dX8_sign_22 : decode cX8_sign 22 = .ok (.goto 4, 3) := by decide +kernel
theorem dX8_sign_25 : decode cX8_sign 25 = .ok (.iconst 0, 1) := by decide +kernel
theorem dX8_sign_26 : decode cX8_sign 26 = .ok (.ireturn, 1) := by decide +kernel
theorem dX8_isLetter_0 : decode cX8_isLetter 0 = .ok (.iload_n 0, 1) := by decide +kernel
theorem dX8_isLetter_1 : decode cX8_isLetter 1 = .ok (.bipush 97, 2) := by decide +kernel
theorem dX8_isLetter_3 : decode cX8_isLetter 3 = .ok (.if_icmp .lt 13, 3) := by decide +kernel
theorem dX8_isLetter_6 : decode cX8_isLetter 6 = .ok (.iload_n 0, 1) := by decide +kernel
theorem dX8_isLetter_7 : decode cX8_isLetter 7 = .ok (.bipush 122, 2) := by decide +kernel
theorem dX8_isLetter_9 : decode cX8_isLetter 9 = .ok (.if_icmp .gt 7, 3) := by decide +kernel
theorem dX8_isLetter_12 : decode cX8_isLetter 12 = .ok (.iconst 1, 1) := by decide +kernel
theorem dX8_isLetter_13 : decode cX8_isLetter 13 = .ok (.goto 4, 3) := by decide +kernel
theorem dX8_isLetter_16 : decode cX8_isLetter 16 = .ok (.iconst 0, 1) := by decide +kernel
theorem dX8_isLetter_17 : decode cX8_isLetter 17 = .ok (.ireturn, 1) := by decide +kernel
theorem dX8_isDigit_0 : decode cX8_isDigit 0 = .ok (.iload_n 0, 1) := by decide +kernel
theorem dX8_isDigit_1 : decode cX8_isDigit 1 = .ok (.bipush 48, 2) := by decide +kernel
theorem dX8_isDigit_3 : decode cX8_isDigit 3 = .ok (.if_icmp .lt 13, 3) := by decide +kernel
theorem dX8_isDigit_6 : decode cX8_isDigit 6 = .ok (.iload_n 0, 1) := by decide +kernel
theorem dX8_isDigit_7 : decode cX8_isDigit 7 = .ok (.bipush 57, 2) := by decide +kernel
theorem dX8_isDigit_9 : decode cX8_isDigit 9 = .ok (.if_icmp .gt 7, 3) := by decide +kernel
theorem dX8_isDigit_12 : decode cX8_isDigit 12 = .ok (.iconst 1, 1) := by decide +kernel
theorem dX8_isDigit_13 : decode cX8_isDigit 13 = .ok (.goto 4, 3) := by decide +kernel
theorem dX8_isDigit_16 : decode cX8_isDigit 16 = .ok (.iconst 0, 1) := by decide +kernel
theorem dX8_isDigit_17 : decode cX8_isDigit 17 = .ok (.ireturn, 1) := by decide +kernel
theorem dX8_behindBlanks_0 : decode cX8_behindBlanks 0 = .ok (.iload_n 1, 1) := by decide +kernel
theorem dX8_behindBlanks_1 : decode cX8_behindBlanks 1 = .ok (.istore_n 2, 1) := by decide +kernel
theorem dX8_behindBlanks_2 : decode cX8_behindBlanks 2 = .ok (.iload_n 2, 1) := by decide +kernel
theorem dX8_behindBlanks_3 : decode cX8_behindBlanks 3 = .ok (.aload_n 0, 1) := by decide +kernel
theorem dX8_behindBlanks_4 : decode cX8_behindBlanks 4 = .ok (.getfield 9, 3) := by decide +kernel
theorem dX8_behindBlanks_7 : decode cX8_behindBlanks 7 = .ok (.if_icmp .ge 41, 3) := by decide +kernel
theorem dX8_behindBlanks_10 : decode cX8_behindBlanks 10 = .ok (.aload_n 0, 1) := by decide +kernel
theorem dX8_behindBlanks_11 : decode cX8_behindBlanks 11 = .ok (.iload_n 2, 1) := by decide +kernel
theorem dX8_behindBlanks_12 : decode cX8_behindBlanks 12 = .ok (.invokevirtual 43, 3) := by decide +kernel
theorem dX8_behindBlanks_15 : decode cX8_behindBlanks 15 = .ok (.istore_n 3, 1) := by decide +kernel
theorem dX8_behindBlanks_16 : decode cX8_behindBlanks 16 = .ok (.iload_n 3, 1) := by decide +kernel
theorem dX8_behindBlanks_17 : decode cX8_behindBlanks 17 = .ok (.bipush 9, 2) := by decide +kernel
theorem dX8_behindBlanks_19 : decode cX8_behindBlanks 19 = .ok (.if_icmp .eq 23, 3) := by decide +kernel
theorem dX8_behindBlanks_22 : decode cX8_behindBlanks 22 = .ok (.iload_n 3, 1) := by decide +kernel
theorem dX8_behindBlanks_23 : decode cX8_behindBlanks 23 = .ok (.bipush 10, 2) := by decide +kernel
theorem dX8_behindBlanks_25 : decode cX8_behindBlanks 25 = .ok (.if_icmp .eq 17, 3) := by decide +kernel
theorem dX8_behindBlanks_28 : decode cX8_behindBlanks 28 = .ok (.iload_n 3, 1) := by decide +kernel
theorem dX8_behindBlanks_29 : decode cX8_behindBlanks 29 = .ok (.bipush 13, 2) := by decide +kernel
theorem dX8_behindBlanks_31 : decode cX8_behindBlanks 31 = .ok (.if_icmp .eq 11, 3) := by decide +kernel
theorem dX8_behindBlanks_34 : decode cX8_behindBlanks 34 = .ok (.iload_n 3, 1) := by decide +kernel
theorem dX8_behindBlanks_35 : decode cX8_behindBlanks 35 = .ok (.bipush 32, 2) := by decide +kernel
theorem dX8_behindBlanks_37 : decode cX8_behindBlanks 37 = .ok (.if_icmp .eq 5, 3) := by decide +kernel
theorem dX8_behindBlanks_40 : decode cX8_behindBlanks 40 = .ok (.iload_n 2, 1) := by decide +kernel
theorem dX8_behindBlanks_41 : decode cX8_behindBlanks 41 = .ok (.ireturn, 1) := by decide +kernel
theorem dX8_behindBlanks_42 : decode cX8_behindBlanks 42 = .ok (.iinc 2 1, 3) := by decide +kernel
theorem dX8_behindBlanks_45 : decode cX8_behindBlanks 45 = .ok (.goto (-43), 3) := by decide +kernel
theorem dX8_behindBlanks_48 : decode cX8_behindBlanks 48 = .ok (.aload_n 0, 1) := by decide +kernel
theorem dX8_behindBlanks_49 : decode cX8_behindBlanks 49 = .ok (.getfield 9, 3) := by decide +kernel
theorem dX8_behindBlanks_52 : decode cX8_behindBlanks 52 = .ok (.ireturn, 1) := by decide +kernel
theorem dX8_cutOne_0 : decode cX8_cutOne 0 = .ok (.aload_n 0, 1) := by decide +kernel
theorem dX8_cutOne_1 : decode cX8_cutOne 1 = .ok (.iload_n 1, 1) := by decide +kernel
theorem dX8_cutOne_2 : decode cX8_cutOne 2 = .ok (.invokevirtual 43, 3) := by decide +kernel
theorem dX8_cutOne_5 : decode cX8_cutOne 5 = .ok (.invokestatic 46, 3) := by decide +kernel
theorem dX8_cutOne_8 : decode cX8_cutOne 8 = .ok (.ifCond .eq 9, 3) := by decide +kernel
theorem dX8_cutOne_11 : decode cX8_cutOne 11 = .ok (.aload_n 0, 1) := by decide +kernel
theorem dX8_cutOne_12 : decode cX8_cutOne 12 = .ok (.iload_n 1, 1) := by decide +kernel
theorem dX8_cutOne_13 : decode cX8_cutOne 13 = .ok (.invokevirtual 50, 3) := by decide +kernel
theorem dX8_cutOne_16 : decode cX8_cutOne 16 = .ok (.ireturn, 1) := by decide +kernel
theorem dX8_cutOne_17 : decode cX8_cutOne 17 = .ok (.aload_n 0, 1) := by decide +kernel
theorem dX8_cutOne_18 : decode cX8_cutOne 18 = .ok (.iload_n 1, 1) := by decide +kernel
theorem dX8_cutOne_19 : decode cX8_cutOne 19 = .ok (.invokevirtual 43, 3) := by decide +kernel
theorem dX8_cutOne_22 : decode cX8_cutOne 22 = .ok (.invokestatic 53, 3) := by decide +kernel
theorem dX8_cutOne_25 : decode cX8_cutOne 25 = .ok (.ifCond .eq 9, 3) := by decide +kernel
theorem dX8_cutOne_28 : decode cX8_cutOne 28 = .ok (.aload_n 0, 1) := by decide +kernel
theorem dX8_cutOne_29 : decode cX8_cutOne 29 = .ok (.iload_n 1, 1) := by decide +kernel
theorem dX8_cutOne_30 : decode cX8_cutOne 30 = .ok (.invokevirtual 56, 3) := by decide +kernel
theorem dX8_cutOne_33 : decode cX8_cutOne 33 = .ok (.ireturn, 1) := by decide +kernel
theorem dX8_cutOne_34 : decode cX8_cutOne 34 = .ok (.aload_n 0, 1) := by decide +kernel
theorem dX8_cutOne_35 : decode cX8_cutOne 35 = .ok (.getfield 22, 3) := by decide +kernel
theorem dX8_cutOne_38 : decode cX8_cutOne 38 = .ok (.aload_n 0, 1) := by decide +kernel
theorem dX8_cutOne_39 : decode cX8_cutOne 39 = .ok (.getfield 19, 3) := by decide +kernel
theorem dX8_cutOne_42 : decode cX8_cutOne 42 = .ok (.aload_n 0, 1) := by decide +kernel
theorem dX8_cutOne_43 : decode cX8_cutOne 43 = .ok (.iload_n 1, 1) := by decide +kernel
theorem dX8_cutOne_44 : decode cX8_cutOne 44 = .ok (.invokevirtual 43, 3) := by decide +kernel
theorem dX8_cutOne_47 : decode cX8_cutOne 47 = .ok (.aload_n 0, 1) := by decide +kernel
theorem dX8_cutOne_48 : decode cX8_cutOne 48 = .ok (.iload_n 1, 1) := by decide +kernel
theorem dX8_cutOne_49 : decode cX8_cutOne 49 = .ok (.iconst 1, 1) := by decide +kernel
theorem dX8_cutOne_50 : decode cX8_cutOne 50 = .ok (.iadd, 1) := by decide +kernel
theorem dX8_cutOne_51 : decode cX8_cutOne 51 = .ok (.invokevirtual 43, 3) := by decide +kernel
theorem dX8_cutOne_54 : decode cX8_cutOne 54 = .ok (.bipush 61, 2) := by decide +kernel
theorem dX8_cutOne_56 : decode cX8_cutOne 56 = .ok (.if_icmp .ne 7, 3) := by decide +kernel
theorem dX8_cutOne_59 : decode cX8_cutOne 59 = .ok (.iconst 1, 1) := by decide +kernel
theorem dX8_cutOne_60 : decode cX8_cutOne 60 = .ok (.goto 4, 3) := by decide +kernel
theorem dX8_cutOne_63 : decode cX8_cutOne 63 = .ok (.iconst 0, 1) := by decide +kernel
theorem dX8_cutOne_64 : decode cX8_cutOne 64 = .ok (.invokestatic 59, 3) := by decide +kernel
theorem dX8_cutOne_67 : decode cX8_cutOne 67 = .ok (.iastore, 1) := by decide +kernel
theorem dX8_cutOne_68 : decode cX8_cutOne 68 = .ok (.aload_n 0, 1) := by decide +kernel
theorem dX8_cutOne_69 : decode cX8_cutOne 69 = .ok (.getfield 22, 3) := by decide +kernel
theorem dX8_cutOne_72 : decode cX8_cutOne 72 = .ok (.aload_n 0, 1) := by decide +kernel
theorem dX8_cutOne_73 : decode cX8_cutOne 73 = .ok (.getfield 19, 3) := by decide +kernel
theorem dX8_cutOne_76 : decode cX8_cutOne 76 = .ok (.iaload, 1) := by decide +kernel
theorem dX8_cutOne_77 : decode cX8_cutOne 77 = .ok (.bipush 10, 2) := by decide +kernel
theorem dX8_cutOne_79 : decode cX8_cutOne 79 = .ok (.if_icmp .eq 31, 3) := by decide +kernel
theorem dX8_cutOne_82 : decode cX8_cutOne 82 = .ok (.aload_n 0, 1) := by decide +kernel
theorem dX8_cutOne_83 : decode cX8_cutOne 83 = .ok (.getfield 22, 3) := by decide +kernel
theorem dX8_cutOne_86 : decode cX8_cutOne 86 = .ok (.aload_n 0, 1) := by decide +kernel
theorem dX8_cutOne_87 : decode cX8_cutOne 87 = .ok (.getfield 19, 3) := by decide +kernel
theorem dX8_cutOne_90 : decode cX8_cutOne 90 = .ok (.iaload, 1) := by decide +kernel
theorem dX8_cutOne_91 : decode cX8_cutOne 91 = .ok (.bipush 11, 2) := by decide +kernel
theorem dX8_cutOne_93 : decode cX8_cutOne 93 = .ok (.if_icmp .eq 17, 3) := by decide +kernel
theorem dX8_cutOne_96 : decode cX8_cutOne 96 = .ok (.aload_n 0, 1) := by decide +kernel
theorem dX8_cutOne_97 : decode cX8_cutOne 97 = .ok (.getfield 22, 3) := by decide +kernel
theorem dX8_cutOne_100 : decode cX8_cutOne 100 = .ok (.aload_n 0, 1) := by decide +kernel
theorem dX8_cutOne_101 : decode cX8_cutOne 101 = .ok (.getfield 19, 3) := by decide +kernel
theorem dX8_cutOne_104 : decode cX8_cutOne 104 = .ok (.iaload, 1) := by decide +kernel
theorem dX8_cutOne_105 : decode cX8_cutOne 105 = .ok (.bipush 13, 2) := by decide +kernel
theorem dX8_cutOne_107 : decode cX8_cutOne 107 = .ok (.if_icmp .ne 7, 3) := by decide +kernel
theorem dX8_cutOne_110 : decode cX8_cutOne 110 = .ok (.iconst 1, 1) := by decide +kernel
theorem dX8_cutOne_111 : decode cX8_cutOne 111 = .ok (.goto 4, 3) := by decide +kernel
theorem dX8_cutOne_114 : decode cX8_cutOne 114 = .ok (.iconst 0, 1) := by decide +kernel
theorem dX8_cutOne_115 : decode cX8_cutOne 115 = .ok (.istore_n 2, 1) := by decide +kernel
theorem dX8_cutOne_116 : decode cX8_cutOne 116 = .ok (.iload_n 2, 1) := by decide +kernel
theorem dX8_cutOne_117 : decode cX8_cutOne 117 = .ok (.ifCond .eq 9, 3) := by decide +kernel
theorem dX8_cutOne_120 : decode cX8_cutOne 120 = .ok (.iload_n 1, 1) := by decide +kernel
theorem dX8_cutOne_121 : decode cX8_cutOne 121 = .ok (.iconst 2, 1) := by decide +kernel
theorem dX8_cutOne_122 : decode cX8_cutOne 122 = .ok (.iadd, 1) := by decide +kernel
theorem dX8_cutOne_123 : decode cX8_cutOne 123 = .ok (.goto 6, 3) := by decide +kernel
theorem dX8_cutOne_126 : decode cX8_cutOne 126 = .ok (.iload_n 1, 1) := by decide +kernel
theorem dX8_cutOne_127 : decode cX8_cutOne 127 = .ok (.iconst 1, 1) := by decide +kernel
theorem dX8_cutOne_128 : decode cX8_cutOne 128 = .ok (.iadd, 1) := by decide +kernel
theorem dX8_cutOne_129 : decode cX8_cutOne 129 = .ok (.ireturn, 1) := by decide +kernel
theorem dX8_signKind_0 : decode cX8_signKind 0 = .ok (.iload_n 0, 1) := by decide +kernel
theorem dX8_signKind_1 : decode cX8_signKind 1 = .ok (.tableswitch 185 33 61 #[156, 185, 185, 185, 185, 185, 185, 179, 182, 150, 144, 185, 147, 185, 153, 185, 185, 185, 185, 185, 185, 185, 185, 185, 185, 185, 131, 167, 133], 131) := by decide +kernel
theorem dX8_signKind_132 : decode cX8_signKind 132 = .ok (.iconst 4, 1) := by decide +kernel
theorem dX8_signKind_133 : decode cX8_signKind 133 = .ok (.ireturn, 1) := by decide +kernel
theorem dX8_signKind_134 : decode cX8_signKind 134 = .ok (.iload_n 1, 1) := by decide +kernel
theorem dX8_signKind_135 : decode cX8_signKind 135 = .ok (.ifCond .eq 8, 3) := by decide +kernel
theorem dX8_signKind_138 : decode cX8_signKind 138 = .ok (.bipush 10, 2) := by decide +kernel
theorem dX8_signKind_140 : decode cX8_signKind 140 = .ok (.goto 4, 3) := by decide +kernel
theorem dX8_signKind_143 : decode cX8_signKind 143 = .ok (.iconst 5, 1) := by decide +kernel
theorem dX8_signKind_144 : decode cX8_signKind 144 = .ok (.ireturn, 1) := by decide +kernel
theorem dX8_signKind_145 : decode cX8_signKind 145 = .ok (.bipush 6, 2) := by decide +kernel
theorem dX8_signKind_147 : decode cX8_signKind 147 = .ok (.ireturn, 1) := by decide +kernel
theorem dX8_signKind_148 : decode cX8_signKind 148 = .ok (.bipush 7, 2) := by decide +kernel
theorem dX8_signKind_150 : decode cX8_signKind 150 = .ok (.ireturn, 1) := by decide +kernel
theorem dX8_signKind_151 : decode cX8_signKind 151 = .ok (.bipush 8, 2) := by decide +kernel
theorem dX8_signKind_153 : decode cX8_signKind 153 = .ok (.ireturn, 1) := by decide +kernel
theorem dX8_signKind_154 : decode cX8_signKind 154 = .ok (.bipush 9, 2) := by decide +kernel
theorem dX8_signKind_156 : decode cX8_signKind 156 = .ok (.ireturn, 1) := by decide +kernel
theorem dX8_signKind_157 : decode cX8_signKind 157 = .ok (.iload_n 1, 1) := by decide +kernel
theorem dX8_signKind_158 : decode cX8_signKind 158 = .ok (.ifCond .eq 8, 3) := by decide +kernel
theorem dX8_signKind_161 : decode cX8_signKind 161 = .ok (.bipush 11, 2) := by decide +kernel
theorem dX8_signKind_163 : decode cX8_signKind 163 = .ok (.goto 4, 3) := by decide +kernel
theorem dX8_signKind_166 : decode cX8_signKind 166 = .ok (.iconst 1, 1) := by decide +kernel
theorem dX8_signKind_167 : decode cX8_signKind 167 = .ok (.ireturn, 1) := by decide +kernel
theorem dX8_signKind_168 : decode cX8_signKind 168 = .ok (.iload_n 1, 1) := by decide +kernel
theorem dX8_signKind_169 : decode cX8_signKind 169 = .ok (.ifCond .eq 8, 3) := by decide +kernel
theorem dX8_signKind_172 : decode cX8_signKind 172 = .ok (.bipush 13, 2) := by decide +kernel
theorem dX8_signKind_174 : decode cX8_signKind 174 = .ok (.goto 5, 3) := by decide +kernel
theorem dX8_signKind_177 : decode cX8_signKind 177 = .ok (.bipush 12, 2) := by decide +kernel
theorem dX8_signKind_179 : decode cX8_signKind 179 = .ok (.ireturn, 1) := by decide +kernel
theorem dX8_signKind_180 : decode cX8_signKind 180 = .ok (.bipush 14, 2) := by decide +kernel
theorem dX8_signKind_182 : decode cX8_signKind 182 = .ok (.ireturn, 1) := by decide +kernel
theorem dX8_signKind_183 : decode cX8_signKind 183 = .ok (.bipush 15, 2) := by decide +kernel
theorem dX8_signKind_185 : decode cX8_signKind 185 = .ok (.ireturn, 1) := by decide +kernel
theorem dX8_signKind_186 : decode cX8_signKind 186 = .ok (.iconst 1, 1) := by decide +kernel
theorem dX8_signKind_187 : decode cX8_signKind 187 = .ok (.ireturn, 1) := by decide +kernel
theorem dX8_cutNumber_0 : decode cX8_cutNumber 0 = .ok (.iconst 0, 1) := by decide +kernel
theorem dX8_cutNumber_1 : decode cX8_cutNumber 1 = .ok (.istore_n 2, 1) := by decide +kernel
theorem dX8_cutNumber_2 : decode cX8_cutNumber 2 = .ok (.iload_n 1, 1) := by decide +kernel
theorem dX8_cutNumber_3 : decode cX8_cutNumber 3 = .ok (.istore_n 3, 1) := by decide +kernel
theorem dX8_cutNumber_4 : decode cX8_cutNumber 4 = .ok (.iload_n 3, 1) := by decide +kernel
theorem dX8_cutNumber_5 : decode cX8_cutNumber 5 = .ok (.aload_n 0, 1) := by decide +kernel
theorem dX8_cutNumber_6 : decode cX8_cutNumber 6 = .ok (.getfield 9, 3) := by decide +kernel
theorem dX8_cutNumber_9 : decode cX8_cutNumber 9 = .ok (.if_icmp .ge 41, 3) := by decide +kernel
theorem dX8_cutNumber_12 : decode cX8_cutNumber 12 = .ok (.aload_n 0, 1) := by decide +kernel
theorem dX8_cutNumber_13 : decode cX8_cutNumber 13 = .ok (.iload_n 3, 1) := by decide +kernel
theorem dX8_cutNumber_14 : decode cX8_cutNumber 14 = .ok (.invokevirtual 43, 3) := by decide +kernel
theorem dX8_cutNumber_17 : decode cX8_cutNumber 17 = .ok (.invokestatic 53, 3) := by decide +kernel
theorem dX8_cutNumber_20 : decode cX8_cutNumber 20 = .ok (.ifCond .eq 30, 3) := by decide +kernel
theorem dX8_cutNumber_23 : decode cX8_cutNumber 23 = .ok (.iload_n 3, 1) := by decide +kernel
theorem dX8_cutNumber_24 : decode cX8_cutNumber 24 = .ok (.iload_n 1, 1) := by decide +kernel
theorem dX8_cutNumber_25 : decode cX8_cutNumber 25 = .ok (.isub, 1) := by decide +kernel
theorem dX8_cutNumber_26 : decode cX8_cutNumber 26 = .ok (.iconst 4, 1) := by decide +kernel
theorem dX8_cutNumber_27 : decode cX8_cutNumber 27 = .ok (.if_icmp .ge 17, 3) := by decide +kernel
theorem dX8_cutNumber_30 : decode cX8_cutNumber 30 = .ok (.bipush 10, 2) := by decide +kernel
theorem dX8_cutNumber_32 : decode cX8_cutNumber 32 = .ok (.iload_n 2, 1) := by decide +kernel
theorem dX8_cutNumber_33 : decode cX8_cutNumber 33 = .ok (.imul, 1) := by decide +kernel
theorem dX8_cutNumber_34 : decode cX8_cutNumber 34 = .ok (.aload_n 0, 1) := by decide +kernel
theorem dX8_cutNumber_35 : decode cX8_cutNumber 35 = .ok (.iload_n 3, 1) := by decide +kernel
theorem dX8_cutNumber_36 : decode cX8_cutNumber 36 = .ok (.invokevirtual 43, 3) := by decide +kernel
theorem dX8_cutNumber_39 : decode cX8_cutNumber 39 = .ok (.iadd, 1) := by decide +kernel
theorem dX8_cutNumber_40 : decode cX8_cutNumber 40 = .ok (.bipush 48, 2) := by decide +kernel
theorem dX8_cutNumber_42 : decode cX8_cutNumber 42 = .ok (.isub, 1) := by decide +kernel
theorem dX8_cutNumber_43 : decode cX8_cutNumber 43 = .ok (.istore_n 2, 1) := by decide +kernel
theorem dX8_cutNumber_44 : decode cX8_cutNumber 44 = .ok (.iinc 3 1, 3) := by decide +kernel
theorem dX8_cutNumber_47 : decode cX8_cutNumber 47 = .ok (.goto (-43), 3) := by decide +kernel
theorem dX8_cutNumber_50 : decode cX8_cutNumber 50 = .ok (.aload_n 0, 1) := by decide +kernel
theorem dX8_cutNumber_51 : decode cX8_cutNumber 51 = .ok (.getfield 22, 3) := by decide +kernel
theorem dX8_cutNumber_54 : decode cX8_cutNumber 54 = .ok (.aload_n 0, 1) := by decide +kernel
theorem dX8_cutNumber_55 : decode cX8_cutNumber 55 = .ok (.getfield 19, 3) := by decide +kernel
theorem dX8_cutNumber_58 : decode cX8_cutNumber 58 = .ok (.iload_n 3, 1) := by decide +kernel
theorem dX8_cutNumber_59 : decode cX8_cutNumber 59 = .ok (.iload_n 1, 1) := by decide +kernel
theorem dX8_cutNumber_60 : decode cX8_cutNumber 60 = .ok (.isub, 1) := by decide +kernel
theorem dX8_cutNumber_61 : decode cX8_cutNumber 61 = .ok (.iconst 4, 1) := by decide +kernel
theorem dX8_cutNumber_62 : decode cX8_cutNumber 62 = .ok (.if_icmp .gt 7, 3) := by decide +kernel
theorem dX8_cutNumber_65 : decode cX8_cutNumber 65 = .ok (.iconst 3, 1) := by decide +kernel
theorem dX8_cutNumber_66 : decode cX8_cutNumber 66 = .ok (.goto 4, 3) := by decide +kernel
theorem dX8_cutNumber_69 : decode cX8_cutNumber 69 = .ok (.iconst 1, 1) := by decide +kernel
theorem dX8_cutNumber_70 : decode cX8_cutNumber 70 = .ok (.iastore, 1) := by decide +kernel
theorem dX8_cutNumber_71 : decode cX8_cutNumber 71 = .ok (.aload_n 0, 1) := by decide +kernel
theorem dX8_cutNumber_72 : decode cX8_cutNumber 72 = .ok (.getfield 29, 3) := by decide +kernel
theorem dX8_cutNumber_75 : decode cX8_cutNumber 75 = .ok (.aload_n 0, 1) := by decide +kernel
theorem dX8_cutNumber_76 : decode cX8_cutNumber 76 = .ok (.getfield 19, 3) := by decide +kernel
theorem dX8_cutNumber_79 : decode cX8_cutNumber 79 = .ok (.iload_n 2, 1) := by decide +kernel
theorem dX8_cutNumber_80 : decode cX8_cutNumber 80 = .ok (.iastore, 1) := by decide +kernel
theorem dX8_cutNumber_81 : decode cX8_cutNumber 81 = .ok (.iload_n 3, 1) := by decide +kernel
theorem dX8_cutNumber_82 : decode cX8_cutNumber 82 = .ok (.ireturn, 1) := by decide +kernel
theorem dX8_cutWord_0 : decode cX8_cutWord 0 = .ok (.lconst 0, 1) := by decide +kernel
theorem dX8_cutWord_1 : decode cX8_cutWord 1 = .ok (.lstore_n 2, 1) := by decide +kernel
theorem dX8_cutWord_2 : decode cX8_cutWord 2 = .ok (.iload_n 1, 1) := by decide +kernel
theorem dX8_cutWord_3 : decode cX8_cutWord 3 = .ok (.istore 4, 2) := by decide +kernel
theorem dX8_cutWord_5 : decode cX8_cutWord 5 = .ok (.iload 4, 2) := by decide +kernel
theorem dX8_cutWord_7 : decode cX8_cutWord 7 = .ok (.aload_n 0, 1) := by decide +kernel
theorem dX8_cutWord_8 : decode cX8_cutWord 8 = .ok (.getfield 9, 3) := by decide +kernel
theorem dX8_cutWord_11 : decode cX8_cutWord 11 = .ok (.if_icmp .ge 50, 3) := by decide +kernel
theorem dX8_cutWord_14 : decode cX8_cutWord 14 = .ok (.aload_n 0, 1) := by decide +kernel
theorem dX8_cutWord_15 : decode cX8_cutWord 15 = .ok (.iload 4, 2) := by decide +kernel
theorem dX8_cutWord_17 : decode cX8_cutWord 17 = .ok (.invokevirtual 43, 3) := by decide +kernel
theorem dX8_cutWord_20 : decode cX8_cutWord 20 = .ok (.invokestatic 46, 3) := by decide +kernel
theorem dX8_cutWord_23 : decode cX8_cutWord 23 = .ok (.ifCond .eq 38, 3) := by decide +kernel
theorem dX8_cutWord_26 : decode cX8_cutWord 26 = .ok (.iload 4, 2) := by decide +kernel
theorem dX8_cutWord_28 : decode cX8_cutWord 28 = .ok (.iload_n 1, 1) := by decide +kernel
theorem dX8_cutWord_29 : decode cX8_cutWord 29 = .ok (.isub, 1) := by decide +kernel
theorem dX8_cutWord_30 : decode cX8_cutWord 30 = .ok (.bipush 8, 2) := by decide +kernel
theorem dX8_cutWord_32 : decode cX8_cutWord 32 = .ok (.if_icmp .ge 23, 3) := by decide +kernel
theorem dX8_cutWord_35 : decode cX8_cutWord 35 = .ok (.ldc2_w 63, 3) := by decide +kernel
theorem dX8_cutWord_38 : decode cX8_cutWord 38 = .ok (.lload_n 2, 1) := by decide +kernel
theorem dX8_cutWord_39 : decode cX8_cutWord 39 = .ok (.lmul, 1) := by decide +kernel
theorem dX8_cutWord_40 : decode cX8_cutWord 40 = .ok (.aload_n 0, 1) := by decide +kernel
theorem dX8_cutWord_41 : decode cX8_cutWord 41 = .ok (.iload 4, 2) := by decide +kernel
theorem dX8_cutWord_43 : decode cX8_cutWord 43 = .ok (.invokevirtual 43, 3) := by decide +kernel
theorem dX8_cutWord_46 : decode cX8_cutWord 46 = .ok (.i2l, 1) := by decide +kernel
theorem dX8_cutWord_47 : decode cX8_cutWord 47 = .ok (.ladd, 1) := by decide +kernel
theorem dX8_cutWord_48 : decode cX8_cutWord 48 = .ok (.ldc2_w 65, 3) := by decide +kernel
theorem dX8_cutWord_51 : decode cX8_cutWord 51 = .ok (.lsub, 1) := by decide +kernel
theorem dX8_cutWord_52 : decode cX8_cutWord 52 = .ok (.lconst 1, 1) := by decide +kernel
theorem dX8_cutWord_53 : decode cX8_cutWord 53 = .ok (.ladd, 1) := by decide +kernel
theorem dX8_cutWord_54 : decode cX8_cutWord 54 = .ok (.lstore_n 2, 1) := by decide +kernel
theorem dX8_cutWord_55 : decode cX8_cutWord 55 = .ok (.iinc 4 1, 3) := by decide +kernel
theorem dX8_cutWord_58 : decode cX8_cutWord 58 = .ok (.goto (-53), 3) := by decide +kernel
theorem dX8_cutWord_61 : decode cX8_cutWord 61 = .ok (.aload_n 0, 1) := by decide +kernel
theorem dX8_cutWord_62 : decode cX8_cutWord 62 = .ok (.getfield 22, 3) := by decide +kernel
theorem dX8_cutWord_65 : decode cX8_cutWord 65 = .ok (.aload_n 0, 1) := by decide +kernel
theorem dX8_cutWord_66 : decode cX8_cutWord 66 = .ok (.getfield 19, 3) := by decide +kernel
theorem dX8_cutWord_69 : decode cX8_cutWord 69 = .ok (.iload 4, 2) := by decide +kernel
theorem dX8_cutWord_71 : decode cX8_cutWord 71 = .ok (.iload_n 1, 1) := by decide +kernel
theorem dX8_cutWord_72 : decode cX8_cutWord 72 = .ok (.isub, 1) := by decide +kernel
theorem dX8_cutWord_73 : decode cX8_cutWord 73 = .ok (.bipush 8, 2) := by decide +kernel
theorem dX8_cutWord_75 : decode cX8_cutWord 75 = .ok (.if_icmp .gt 15, 3) := by decide +kernel
theorem dX8_cutWord_78 : decode cX8_cutWord 78 = .ok (.aload_n 0, 1) := by decide +kernel
theorem dX8_cutWord_79 : decode cX8_cutWord 79 = .ok (.iload_n 1, 1) := by decide +kernel
theorem dX8_cutWord_80 : decode cX8_cutWord 80 = .ok (.iload 4, 2) := by decide +kernel
theorem dX8_cutWord_82 : decode cX8_cutWord 82 = .ok (.iload_n 1, 1) := by decide +kernel
theorem dX8_cutWord_83 : decode cX8_cutWord 83 = .ok (.isub, 1) := by decide +kernel
theorem dX8_cutWord_84 : decode cX8_cutWord 84 = .ok (.invokevirtual 67, 3) := by decide +kernel
theorem dX8_cutWord_87 : decode cX8_cutWord 87 = .ok (.goto 4, 3) := by decide +kernel
theorem dX8_cutWord_90 : decode cX8_cutWord 90 = .ok (.iconst 1, 1) := by decide +kernel
theorem dX8_cutWord_91 : decode cX8_cutWord 91 = .ok (.iastore, 1) := by decide +kernel
theorem dX8_cutWord_92 : decode cX8_cutWord 92 = .ok (.aload_n 0, 1) := by decide +kernel
theorem dX8_cutWord_93 : decode cX8_cutWord 93 = .ok (.getfield 32, 3) := by decide +kernel
theorem dX8_cutWord_96 : decode cX8_cutWord 96 = .ok (.aload_n 0, 1) := by decide +kernel
theorem dX8_cutWord_97 : decode cX8_cutWord 97 = .ok (.getfield 19, 3) := by decide +kernel
theorem dX8_cutWord_100 : decode cX8_cutWord 100 = .ok (.lload_n 2, 1) := by decide +kernel
theorem dX8_cutWord_101 : decode cX8_cutWord 101 = .ok (.lastore, 1) := by decide +kernel
theorem dX8_cutWord_102 : decode cX8_cutWord 102 = .ok (.iload 4, 2) := by decide +kernel
theorem dX8_cutWord_104 : decode cX8_cutWord 104 = .ok (.ireturn, 1) := by decide +kernel
theorem dX8_wordKind_0 : decode cX8_wordKind 0 = .ok (.iconst 0, 1) := by decide +kernel
theorem dX8_wordKind_1 : decode cX8_wordKind 1 = .ok (.istore_n 3, 1) := by decide +kernel
theorem dX8_wordKind_2 : decode cX8_wordKind 2 = .ok (.iload_n 3, 1) := by decide +kernel
theorem dX8_wordKind_3 : decode cX8_wordKind 3 = .ok (.bipush 21, 2) := by decide +kernel
theorem dX8_wordKind_5 : decode cX8_wordKind 5 = .ok (.if_icmp .ge 30, 3) := by decide +kernel
theorem dX8_wordKind_8 : decode cX8_wordKind 8 = .ok (.iload_n 2, 1) := by decide +kernel
theorem dX8_wordKind_9 : decode cX8_wordKind 9 = .ok (.bipush 6, 2) := by decide +kernel
theorem dX8_wordKind_11 : decode cX8_wordKind 11 = .ok (.if_icmp .gt 24, 3) := by decide +kernel
theorem dX8_wordKind_14 : decode cX8_wordKind 14 = .ok (.aload_n 0, 1) := by decide +kernel
theorem dX8_wordKind_15 : decode cX8_wordKind 15 = .ok (.iload_n 3, 1) := by decide +kernel
theorem dX8_wordKind_16 : decode cX8_wordKind 16 = .ok (.iload_n 1, 1) := by decide +kernel
theorem dX8_wordKind_17 : decode cX8_wordKind 17 = .ok (.iload_n 2, 1) := by decide +kernel
theorem dX8_wordKind_18 : decode cX8_wordKind 18 = .ok (.invokevirtual 71, 3) := by decide +kernel
theorem dX8_wordKind_21 : decode cX8_wordKind 21 = .ok (.ifCond .eq 8, 3) := by decide +kernel
theorem dX8_wordKind_24 : decode cX8_wordKind 24 = .ok (.bipush 16, 2) := by decide +kernel
theorem dX8_wordKind_26 : decode cX8_wordKind 26 = .ok (.iload_n 3, 1) := by decide +kernel
theorem dX8_wordKind_27 : decode cX8_wordKind 27 = .ok (.iadd, 1) := by decide +kernel
theorem dX8_wordKind_28 : decode cX8_wordKind 28 = .ok (.ireturn, 1) := by decide +kernel
theorem dX8_wordKind_29 : decode cX8_wordKind 29 = .ok (.iinc 3 1, 3) := by decide +kernel
theorem dX8_wordKind_32 : decode cX8_wordKind 32 = .ok (.goto (-30), 3) := by decide +kernel
theorem dX8_wordKind_35 : decode cX8_wordKind 35 = .ok (.iconst 2, 1) := by decide +kernel
theorem dX8_wordKind_36 : decode cX8_wordKind 36 = .ok (.ireturn, 1) := by decide +kernel
theorem dX8_isWord_0 : decode cX8_isWord 0 = .ok (.iconst 0, 1) := by decide +kernel
theorem dX8_isWord_1 : decode cX8_isWord 1 = .ok (.istore 4, 2) := by decide +kernel
theorem dX8_isWord_3 : decode cX8_isWord 3 = .ok (.iload 4, 2) := by decide +kernel
theorem dX8_isWord_5 : decode cX8_isWord 5 = .ok (.bipush 6, 2) := by decide +kernel
theorem dX8_isWord_7 : decode cX8_isWord 7 = .ok (.if_icmp .ge 63, 3) := by decide +kernel
theorem dX8_isWord_10 : decode cX8_isWord 10 = .ok (.iload 4, 2) := by decide +kernel
theorem dX8_isWord_12 : decode cX8_isWord 12 = .ok (.iload_n 3, 1) := by decide +kernel
theorem dX8_isWord_13 : decode cX8_isWord 13 = .ok (.if_icmp .ge 14, 3) := by decide +kernel
theorem dX8_isWord_16 : decode cX8_isWord 16 = .ok (.aload_n 0, 1) := by decide +kernel
theorem dX8_isWord_17 : decode cX8_isWord 17 = .ok (.iload_n 2, 1) := by decide +kernel
theorem dX8_isWord_18 : decode cX8_isWord 18 = .ok (.iload 4, 2) := by decide +kernel
theorem dX8_isWord_20 : decode cX8_isWord 20 = .ok (.iadd, 1) := by decide +kernel
theorem dX8_isWord_21 : decode cX8_isWord 21 = .ok (.invokevirtual 43, 3) := by decide +kernel
theorem dX8_isWord_24 : decode cX8_isWord 24 = .ok (.goto 5, 3) := by decide +kernel
theorem dX8_isWord_27 : decode cX8_isWord 27 = .ok (.bipush 32, 2) := by decide +kernel
theorem dX8_isWord_29 : decode cX8_isWord 29 = .ok (.istore 5, 2) := by decide +kernel
theorem dX8_isWord_31 : decode cX8_isWord 31 = .ok (.iload_n 1, 1) := by decide +kernel
theorem dX8_isWord_32 : decode cX8_isWord 32 = .ok (.bipush 6, 2) := by decide +kernel
theorem dX8_isWord_34 : decode cX8_isWord 34 = .ok (.imul, 1) := by decide +kernel
theorem dX8_isWord_35 : decode cX8_isWord 35 = .ok (.iload 4, 2) := by decide +kernel
theorem dX8_isWord_37 : decode cX8_isWord 37 = .ok (.iadd, 1) := by decide +kernel
theorem dX8_isWord_38 : decode cX8_isWord 38 = .ok (.istore 6, 2) := by decide +kernel
theorem dX8_isWord_40 : decode cX8_isWord 40 = .ok (.iload 6, 2) := by decide +kernel
theorem dX8_isWord_42 : decode cX8_isWord 42 = .ok (.ldc 75, 2) := by decide +kernel
theorem dX8_isWord_44 : decode cX8_isWord 44 = .ok (.invokevirtual 77, 3) := by decide +kernel
theorem dX8_isWord_47 : decode cX8_isWord 47 = .ok (.if_icmp .ge 15, 3) := by decide +kernel
theorem dX8_isWord_50 : decode cX8_isWord 50 = .ok (.ldc 75, 2) := by decide +kernel
theorem dX8_isWord_52 : decode cX8_isWord 52 = .ok (.iload 6, 2) := by decide +kernel
theorem dX8_isWord_54 : decode cX8_isWord 54 = .ok (.invokevirtual 83, 3) := by decide +kernel
theorem dX8_isWord_57 : decode cX8_isWord 57 = .ok (.iload 5, 2) := by decide +kernel
theorem dX8_isWord_59 : decode cX8_isWord 59 = .ok (.if_icmp .eq 5, 3) := by decide +kernel
theorem dX8_isWord_62 : decode cX8_isWord 62 = .ok (.iconst 0, 1) := by decide +kernel
theorem dX8_isWord_63 : decode cX8_isWord 63 = .ok (.ireturn, 1) := by decide +kernel
theorem dX8_isWord_64 : decode cX8_isWord 64 = .ok (.iinc 4 1, 3) := by decide +kernel
theorem dX8_isWord_67 : decode cX8_isWord 67 = .ok (.goto (-64), 3) := by decide +kernel
theorem dX8_isWord_70 : decode cX8_isWord 70 = .ok (.iconst 1, 1) := by decide +kernel
theorem dX8_isWord_71 : decode cX8_isWord 71 = .ok (.ireturn, 1) := by decide +kernel
theorem dX9_init_0 : decode cX9_init 0 = .ok (.aload_n 0, 1) := by decide +kernel
theorem dX9_init_1 : decode cX9_init 1 = .ok (.invokespecial 3, 3) := by decide +kernel
theorem dX9_init_4 : decode cX9_init 4 = .ok (.aload_n 0, 1) := by decide +kernel
theorem dX9_init_5 : decode cX9_init 5 = .ok (.iconst 2, 1) := by decide +kernel
theorem dX9_init_6 : decode cX9_init 6 = .ok (.putfield 9, 3) := by decide +kernel
theorem dX9_init_9 : decode cX9_init 9 = .ok (.aload_n 0, 1) := by decide +kernel
theorem dX9_init_10 : decode cX9_init 10 = .ok (.iconst 0, 1) := by decide +kernel
theorem dX9_init_11 : decode cX9_init 11 = .ok (.putfield 15, 3) := by decide +kernel
theorem dX9_init_14 : decode cX9_init 14 = .ok (.aload_n 0, 1) := by decide +kernel
theorem dX9_init_15 : decode cX9_init 15 = .ok (.bipush 14, 2) := by decide +kernel
theorem dX9_init_17 : decode cX9_init 17 = .ok (.newarray .int, 2) := by decide +kernel
theorem dX9_init_19 : decode cX9_init 19 = .ok (.putfield 18, 3) := by decide +kernel
theorem dX9_init_22 : decode cX9_init 22 = .ok (.aload_n 0, 1) := by decide +kernel
theorem dX9_init_23 : decode cX9_init 23 = .ok (.bipush 14, 2) := by decide +kernel
theorem dX9_init_25 : decode cX9_init 25 = .ok (.newarray .int, 2) := by decide +kernel
theorem dX9_init_27 : decode cX9_init 27 = .ok (.putfield 22, 3) := by decide +kernel
theorem dX9_init_30 : decode cX9_init 30 = .ok (.aload_n 0, 1) := by decide +kernel
theorem dX9_init_31 : decode cX9_init 31 = .ok (.bipush 14, 2) := by decide +kernel
theorem dX9_init_33 : decode cX9_init 33 = .ok (.newarray .int, 2) := by decide +kernel
theorem dX9_init_35 : decode cX9_init 35 = .ok (.putfield 25, 3) := by decide +kernel
theorem dX9_init_38 : decode cX9_init 38 = .ok (.aload_n 0, 1) := by decide +kernel
theorem dX9_init_39 : decode cX9_init 39 = .ok (.bipush 14, 2) := by decide +kernel
theorem dX9_init_41 : decode cX9_init 41 = .ok (.newarray .int, 2) := by decide +kernel
theorem dX9_init_43 : decode cX9_init 43 = .ok (.putfield 28, 3) := by decide +kernel
theorem dX9_init_46 : decode cX9_init 46 = .ok (.aload_n 0, 1) := by decide +kernel
theorem dX9_init_47 : decode cX9_init 47 = .ok (.iconst 0, 1) := by decide +kernel
theorem dX9_init_48 : decode cX9_init 48 = .ok (.putfield 31, 3) := by decide +kernel
theorem dX9_init_51 : decode cX9_init 51 = .ok (.aload_n 0, 1) := by decide +kernel
theorem dX9_init_52 : decode cX9_init 52 = .ok (.bipush 14, 2) := by decide +kernel
theorem dX9_init_54 : decode cX9_init 54 = .ok (.newarray .int, 2) := by decide +kernel
theorem dX9_init_56 : decode cX9_init 56 = .ok (.putfield 34, 3) := by decide +kernel
theorem dX9_init_59 : decode cX9_init 59 = .ok (.aload_n 0, 1) := by decide +kernel
theorem dX9_init_60 : decode cX9_init 60 = .ok (.iconst 0, 1) := by decide +kernel
theorem dX9_init_61 : decode cX9_init 61 = .ok (.putfield 37, 3) := by decide +kernel
theorem dX9_init_64 : decode cX9_init 64 = .ok (.aload_n 0, 1) := by decide +kernel
theorem dX9_init_65 : decode cX9_init 65 = .ok (.bipush 12, 2) := by decide +kernel
theorem dX9_init_67 : decode cX9_init 67 = .ok (.newarray .int, 2) := by decide +kernel
theorem dX9_init_69 : decode cX9_init 69 = .ok (.putfield 40, 3) := by decide +kernel
theorem dX9_init_72 : decode cX9_init 72 = .ok (.aload_n 0, 1) := by decide +kernel
theorem dX9_init_73 : decode cX9_init 73 = .ok (.bipush 12, 2) := by decide +kernel
theorem dX9_init_75 : decode cX9_init 75 = .ok (.newarray .int, 2) := by decide +kernel
theorem dX9_init_77 : decode cX9_init 77 = .ok (.putfield 43, 3) := by decide +kernel
theorem dX9_init_80 : decode cX9_init 80 = .ok (.aload_n 0, 1) := by decide +kernel
theorem dX9_init_81 : decode cX9_init 81 = .ok (.bipush 12, 2) := by decide +kernel
theorem dX9_init_83 : decode cX9_init 83 = .ok (.newarray .int, 2) := by decide +kernel
theorem dX9_init_85 : decode cX9_init 85 = .ok (.putfield 46, 3) := by decide +kernel
theorem dX9_init_88 : decode cX9_init 88 = .ok (.aload_n 0, 1) := by decide +kernel
theorem dX9_init_89 : decode cX9_init 89 = .ok (.iconst 0, 1) := by decide +kernel
theorem dX9_init_90 : decode cX9_init 90 = .ok (.putfield 49, 3) := by decide +kernel
theorem dX9_init_93 : decode cX9_init 93 = .ok (.aload_n 0, 1) := by decide +kernel
theorem dX9_init_94 : decode cX9_init 94 = .ok (.iconst 5, 1) := by decide +kernel
theorem dX9_init_95 : decode cX9_init 95 = .ok (.newarray .int, 2) := by decide +kernel
theorem dX9_init_97 : decode cX9_init 97 = .ok (.putfield 52, 3) := by decide +kernel
theorem dX9_init_100 : decode cX9_init 100 = .ok (.aload_n 0, 1) := by decide +kernel
theorem dX9_init_101 : decode cX9_init 101 = .ok (.iconst 0, 1) := by decide +kernel
theorem dX9_init_102 : decode cX9_init 102 = .ok (.putfield 55, 3) := by decide +kernel
theorem dX9_init_105 : decode cX9_init 105 = .ok (.aload_n 0, 1) := by decide +kernel
theorem dX9_init_106 : decode cX9_init 106 = .ok (.new 58, 3) := by decide +kernel
theorem dX9_init_109 : decode cX9_init 109 = .ok (.dup, 1) := by decide +kernel
theorem dX9_init_110 : decode cX9_init 110 = .ok (.invokespecial 60, 3) := by decide +kernel
theorem dX9_init_113 : decode cX9_init 113 = .ok (.putfield 61, 3) := by decide +kernel
theorem dX9_init_116 : decode cX9_init 116 = .ok (.return_, 1) := by decide +kernel
theorem dX9_forget_0 : decode cX9_forget 0 = .ok (.aload_n 0, 1) := by decide +kernel
theorem dX9_forget_1 : decode cX9_forget 1 = .ok (.iconst 2, 1) := by decide +kernel
theorem dX9_forget_2 : decode cX9_forget 2 = .ok (.putfield 9, 3) := by decide +kernel
theorem dX9_forget_5 : decode cX9_forget 5 = .ok (.aload_n 0, 1) := by decide +kernel
theorem dX9_forget_6 : decode cX9_forget 6 = .ok (.iconst 0, 1) := by decide +kernel
theorem dX9_forget_7 : decode cX9_forget 7 = .ok (.putfield 15, 3) := by decide +kernel
theorem dX9_forget_10 : decode cX9_forget 10 = .ok (.aload_n 0, 1) := by decide +kernel
theorem dX9_forget_11 : decode cX9_forget 11 = .ok (.iconst 0, 1) := by decide +kernel
theorem dX9_forget_12 : decode cX9_forget 12 = .ok (.putfield 31, 3) := by decide +kernel
theorem dX9_forget_15 : decode cX9_forget 15 = .ok (.aload_n 0, 1) := by decide +kernel
theorem dX9_forget_16 : decode cX9_forget 16 = .ok (.iconst 0, 1) := by decide +kernel
theorem dX9_forget_17 : decode cX9_forget 17 = .ok (.putfield 37, 3) := by decide +kernel
theorem dX9_forget_20 : decode cX9_forget 20 = .ok (.aload_n 0, 1) := by decide +kernel
theorem dX9_forget_21 : decode cX9_forget 21 = .ok (.iconst 0, 1) := by decide +kernel
theorem dX9_forget_22 : decode cX9_forget 22 = .ok (.putfield 49, 3) := by decide +kernel
theorem dX9_forget_25 : decode cX9_forget 25 = .ok (.aload_n 0, 1) := by decide +kernel
theorem dX9_forget_26 : decode cX9_forget 26 = .ok (.iconst 0, 1) := by decide +kernel
theorem dX9_forget_27 : decode cX9_forget 27 = .ok (.putfield 55, 3) := by decide +kernel
theorem dX9_forget_30 : decode cX9_forget 30 = .ok (.aload_n 0, 1) := by decide +kernel
theorem dX9_forget_31 : decode cX9_forget 31 = .ok (.getfield 34, 3) := by decide +kernel
theorem dX9_forget_34 : decode cX9_forget 34 = .ok (.iconst 0, 1) := by decide +kernel
theorem dX9_forget_35 : decode cX9_forget 35 = .ok (.invokestatic 65, 3) := by decide +kernel
theorem dX9_forget_38 : decode cX9_forget 38 = .ok (.aload_n 0, 1) := by decide +kernel
theorem dX9_forget_39 : decode cX9_forget 39 = .ok (.getfield 61, 3) := by decide +kernel
theorem dX9_forget_42 : decode cX9_forget 42 = .ok (.invokevirtual 71, 3) := by decide +kernel
theorem dX9_forget_45 : decode cX9_forget 45 = .ok (.return_, 1) := by decide +kernel
theorem dX9_copy_0 : decode cX9_copy 0 = .ok (.aload_n 1, 1) := by decide +kernel
theorem dX9_copy_1 : decode cX9_copy 1 = .ok (.ifnonnull 4, 3) := by decide +kernel
theorem dX9_copy_4 : decode cX9_copy 4 = .ok (.return_, 1) := by decide +kernel
theorem dX9_copy_5 : decode cX9_copy 5 = .ok (.aload_n 0, 1) := by decide +kernel
theorem dX9_copy_6 : decode cX9_copy 6 = .ok (.aload_n 1, 1) := by decide +kernel
theorem dX9_copy_7 : decode cX9_copy 7 = .ok (.getfield 9, 3) := by decide +kernel
theorem dX9_copy_10 : decode cX9_copy 10 = .ok (.putfield 9, 3) := by decide +kernel
theorem dX9_copy_13 : decode cX9_copy 13 = .ok (.aload_n 0, 1) := by decide +kernel
theorem dX9_copy_14 : decode cX9_copy 14 = .ok (.aload_n 1, 1) := by decide +kernel
theorem dX9_copy_15 : decode cX9_copy 15 = .ok (.getfield 15, 3) := by decide +kernel
theorem dX9_copy_18 : decode cX9_copy 18 = .ok (.putfield 15, 3) := by decide +kernel
theorem dX9_copy_21 : decode cX9_copy 21 = .ok (.aload_n 0, 1) := by decide +kernel
theorem dX9_copy_22 : decode cX9_copy 22 = .ok (.aload_n 1, 1) := by decide +kernel
theorem dX9_copy_23 : decode cX9_copy 23 = .ok (.getfield 31, 3) := by decide +kernel
theorem dX9_copy_26 : decode cX9_copy 26 = .ok (.putfield 31, 3) := by decide +kernel
theorem dX9_copy_29 : decode cX9_copy 29 = .ok (.aload_n 0, 1) := by decide +kernel
theorem dX9_copy_30 : decode cX9_copy 30 = .ok (.aload_n 1, 1) := by decide +kernel
theorem dX9_copy_31 : decode cX9_copy 31 = .ok (.getfield 37, 3) := by decide +kernel
theorem dX9_copy_34 : decode cX9_copy 34 = .ok (.putfield 37, 3) := by decide +kernel
theorem dX9_copy_37 : decode cX9_copy 37 = .ok (.aload_n 0, 1) := by decide +kernel
theorem dX9_copy_38 : decode cX9_copy 38 = .ok (.aload_n 1, 1) := by decide +kernel
theorem dX9_copy_39 : decode cX9_copy 39 = .ok (.getfield 49, 3) := by decide +kernel
theorem dX9_copy_42 : decode cX9_copy 42 = .ok (.putfield 49, 3) := by decide +kernel
theorem dX9_copy_45 : decode cX9_copy 45 = .ok (.aload_n 0, 1) := by decide +kernel
theorem dX9_copy_46 : decode cX9_copy 46 = .ok (.aload_n 1, 1) := by decide +kernel
theorem dX9_copy_47 : decode cX9_copy 47 = .ok (.getfield 55, 3) := by decide +kernel
theorem dX9_copy_50 : decode cX9_copy 50 = .ok (.putfield 55, 3) := by decide +kernel
theorem dX9_copy_53 : decode cX9_copy 53 = .ok (.aload_n 1, 1) := by decide +kernel
theorem dX9_copy_54 : decode cX9_copy 54 = .ok (.getfield 18, 3) := by decide +kernel
theorem dX9_copy_57 : decode cX9_copy 57 = .ok (.iconst 0, 1) := by decide +kernel
theorem dX9_copy_58 : decode cX9_copy 58 = .ok (.aload_n 0, 1) := by decide +kernel
theorem dX9_copy_59 : decode cX9_copy 59 = .ok (.getfield 18, 3) := by decide +kernel
theorem dX9_copy_62 : decode cX9_copy 62 = .ok (.iconst 0, 1) := by decide +kernel
theorem dX9_copy_63 : decode cX9_copy 63 = .ok (.bipush 14, 2) := by decide +kernel
theorem dX9_copy_65 : decode cX9_copy 65 = .ok (.invokestatic 74, 3) := by decide +kernel
theorem dX9_copy_68 : decode cX9_copy 68 = .ok (.aload_n 1, 1) := by decide +kernel
theorem dX9_copy_69 : decode cX9_copy 69 = .ok (.getfield 22, 3) := by decide +kernel
theorem dX9_copy_72 : decode cX9_copy 72 = .ok (.iconst 0, 1) := by decide +kernel
theorem dX9_copy_73 : decode cX9_copy 73 = .ok (.aload_n 0, 1) := by decide +kernel
theorem dX9_copy_74 : decode cX9_copy 74 = .ok (.getfield 22, 3) := by decide +kernel
theorem dX9_copy_77 : decode cX9_copy 77 = .ok (.iconst 0, 1) := by decide +kernel
theorem dX9_copy_78 : decode cX9_copy 78 = .ok (.bipush 14, 2) := by decide +kernel
theorem dX9_copy_80 : decode cX9_copy 80 = .ok (.invokestatic 74, 3) := by decide +kernel
theorem dX9_copy_83 : decode cX9_copy 83 = .ok (.aload_n 1, 1) := by decide +kernel
theorem dX9_copy_84 : decode cX9_copy 84 = .ok (.getfield 25, 3) := by decide +kernel
theorem dX9_copy_87 : decode cX9_copy 87 = .ok (.iconst 0, 1) := by decide +kernel
theorem dX9_copy_88 : decode cX9_copy 88 = .ok (.aload_n 0, 1) := by decide +kernel
theorem dX9_copy_89 : decode cX9_copy 89 = .ok (.getfield 25, 3) := by decide +kernel
theorem dX9_copy_92 : decode cX9_copy 92 = .ok (.iconst 0, 1) := by decide +kernel
theorem dX9_copy_93 : decode cX9_copy 93 = .ok (.bipush 14, 2) := by decide +kernel
theorem dX9_copy_95 : decode cX9_copy 95 = .ok (.invokestatic 74, 3) := by decide +kernel
theorem dX9_copy_98 : decode cX9_copy 98 = .ok (.aload_n 1, 1) := by decide +kernel
theorem dX9_copy_99 : decode cX9_copy 99 = .ok (.getfield 28, 3) := by decide +kernel
theorem dX9_copy_102 : decode cX9_copy 102 = .ok (.iconst 0, 1) := by decide +kernel
theorem dX9_copy_103 : decode cX9_copy 103 = .ok (.aload_n 0, 1) := by decide +kernel
theorem dX9_copy_104 : decode cX9_copy 104 = .ok (.getfield 28, 3) := by decide +kernel
theorem dX9_copy_107 : decode cX9_copy 107 = .ok (.iconst 0, 1) := by decide +kernel
theorem dX9_copy_108 : decode cX9_copy 108 = .ok (.bipush 14, 2) := by decide +kernel
theorem dX9_copy_110 : decode cX9_copy 110 = .ok (.invokestatic 74, 3) := by decide +kernel
theorem dX9_copy_113 : decode cX9_copy 113 = .ok (.aload_n 1, 1) := by decide +kernel
theorem dX9_copy_114 : decode cX9_copy 114 = .ok (.getfield 34, 3) := by decide +kernel
theorem dX9_copy_117 : decode cX9_copy 117 = .ok (.iconst 0, 1) := by decide +kernel
theorem dX9_copy_118 : decode cX9_copy 118 = .ok (.aload_n 0, 1) := by decide +kernel
theorem dX9_copy_119 : decode cX9_copy 119 = .ok (.getfield 34, 3) := by decide +kernel
theorem dX9_copy_122 : decode cX9_copy 122 = .ok (.iconst 0, 1) := by decide +kernel
theorem dX9_copy_123 : decode cX9_copy 123 = .ok (.bipush 14, 2) := by decide +kernel
theorem dX9_copy_125 : decode cX9_copy 125 = .ok (.invokestatic 74, 3) := by decide +kernel
theorem dX9_copy_128 : decode cX9_copy 128 = .ok (.aload_n 1, 1) := by decide +kernel
theorem dX9_copy_129 : decode cX9_copy 129 = .ok (.getfield 40, 3) := by decide +kernel
theorem dX9_copy_132 : decode cX9_copy 132 = .ok (.iconst 0, 1) := by decide +kernel
theorem dX9_copy_133 : decode cX9_copy 133 = .ok (.aload_n 0, 1) := by decide +kernel
theorem dX9_copy_134 : decode cX9_copy 134 = .ok (.getfield 40, 3) := by decide +kernel
theorem dX9_copy_137 : decode cX9_copy 137 = .ok (.iconst 0, 1) := by decide +kernel
theorem dX9_copy_138 : decode cX9_copy 138 = .ok (.bipush 12, 2) := by decide +kernel
theorem dX9_copy_140 : decode cX9_copy 140 = .ok (.invokestatic 74, 3) := by decide +kernel
theorem dX9_copy_143 : decode cX9_copy 143 = .ok (.aload_n 1, 1) := by decide +kernel
theorem dX9_copy_144 : decode cX9_copy 144 = .ok (.getfield 43, 3) := by decide +kernel
theorem dX9_copy_147 : decode cX9_copy 147 = .ok (.iconst 0, 1) := by decide +kernel
theorem dX9_copy_148 : decode cX9_copy 148 = .ok (.aload_n 0, 1) := by decide +kernel
theorem dX9_copy_149 : decode cX9_copy 149 = .ok (.getfield 43, 3) := by decide +kernel
theorem dX9_copy_152 : decode cX9_copy 152 = .ok (.iconst 0, 1) := by decide +kernel
theorem dX9_copy_153 : decode cX9_copy 153 = .ok (.bipush 12, 2) := by decide +kernel
theorem dX9_copy_155 : decode cX9_copy 155 = .ok (.invokestatic 74, 3) := by decide +kernel
theorem dX9_copy_158 : decode cX9_copy 158 = .ok (.aload_n 1, 1) := by decide +kernel
theorem dX9_copy_159 : decode cX9_copy 159 = .ok (.getfield 46, 3) := by decide +kernel
theorem dX9_copy_162 : decode cX9_copy 162 = .ok (.iconst 0, 1) := by decide +kernel
theorem dX9_copy_163 : decode cX9_copy 163 = .ok (.aload_n 0, 1) := by decide +kernel
theorem dX9_copy_164 : decode cX9_copy 164 = .ok (.getfield 46, 3) := by decide +kernel
theorem dX9_copy_167 : decode cX9_copy 167 = .ok (.iconst 0, 1) := by decide +kernel
theorem dX9_copy_168 : decode cX9_copy 168 = .ok (.bipush 12, 2) := by decide +kernel
theorem dX9_copy_170 : decode cX9_copy 170 = .ok (.invokestatic 74, 3) := by decide +kernel
theorem dX9_copy_173 : decode cX9_copy 173 = .ok (.aload_n 1, 1) := by decide +kernel
theorem dX9_copy_174 : decode cX9_copy 174 = .ok (.getfield 52, 3) := by decide +kernel
theorem dX9_copy_177 : decode cX9_copy 177 = .ok (.iconst 0, 1) := by decide +kernel
theorem dX9_copy_178 : decode cX9_copy 178 = .ok (.aload_n 0, 1) := by decide +kernel
theorem dX9_copy_179 : decode cX9_copy 179 = .ok (.getfield 52, 3) := by decide +kernel
theorem dX9_copy_182 : decode cX9_copy 182 = .ok (.iconst 0, 1) := by decide +kernel
theorem dX9_copy_183 : decode cX9_copy 183 = .ok (.iconst 5, 1) := by decide +kernel
theorem dX9_copy_184 : decode cX9_copy 184 = .ok (.invokestatic 74, 3) := by decide +kernel
theorem dX9_copy_187 : decode cX9_copy 187 = .ok (.aload_n 0, 1) := by decide +kernel
theorem dX9_copy_188 : decode cX9_copy 188 = .ok (.getfield 61, 3) := by decide +kernel
theorem dX9_copy_191 : decode cX9_copy 191 = .ok (.aload_n 1, 1) := by decide +kernel
theorem dX9_copy_192 : decode cX9_copy 192 = .ok (.getfield 61, 3) := by decide +kernel
theorem dX9_copy_195 : decode cX9_copy 195 = .ok (.invokevirtual 80, 3) := by decide +kernel
theorem dX9_copy_198 : decode cX9_copy 198 = .ok (.return_, 1) := by decide +kernel
theorem dX9_isTaken_0 : decode cX9_isTaken 0 = .ok (.iconst 0, 1) := by decide +kernel
theorem dX9_isTaken_1 : decode cX9_isTaken 1 = .ok (.istore_n 3, 1) := by decide +kernel
theorem dX9_isTaken_2 : decode cX9_isTaken 2 = .ok (.iload_n 3, 1) := by decide +kernel
theorem dX9_isTaken_3 : decode cX9_isTaken 3 = .ok (.aload_n 0, 1) := by decide +kernel
theorem dX9_isTaken_4 : decode cX9_isTaken 4 = .ok (.getfield 15, 3) := by decide +kernel
theorem dX9_isTaken_7 : decode cX9_isTaken 7 = .ok (.if_icmp .ge 31, 3) := by decide +kernel
theorem dX9_isTaken_10 : decode cX9_isTaken 10 = .ok (.aload_n 0, 1) := by decide +kernel
theorem dX9_isTaken_11 : decode cX9_isTaken 11 = .ok (.getfield 18, 3) := by decide +kernel
theorem dX9_isTaken_14 : decode cX9_isTaken 14 = .ok (.iload_n 3, 1) := by decide +kernel
theorem dX9_isTaken_15 : decode cX9_isTaken 15 = .ok (.iaload, 1) := by decide +kernel
theorem dX9_isTaken_16 : decode cX9_isTaken 16 = .ok (.iload_n 1, 1) := by decide +kernel
theorem dX9_isTaken_17 : decode cX9_isTaken 17 = .ok (.if_icmp .ne 15, 3) := by decide +kernel
theorem dX9_isTaken_20 : decode cX9_isTaken 20 = .ok (.aload_n 0, 1) := by decide +kernel
theorem dX9_isTaken_21 : decode cX9_isTaken 21 = .ok (.getfield 22, 3) := by decide +kernel
theorem dX9_isTaken_24 : decode cX9_isTaken 24 = .ok (.iload_n 3, 1) := by decide +kernel
theorem dX9_isTaken_25 : decode cX9_isTaken 25 = .ok (.iaload, 1) := by decide +kernel
theorem dX9_isTaken_26 : decode cX9_isTaken 26 = .ok (.iload_n 2, 1) := by decide +kernel
theorem dX9_isTaken_27 : decode cX9_isTaken 27 = .ok (.if_icmp .ne 5, 3) := by decide +kernel
theorem dX9_isTaken_30 : decode cX9_isTaken 30 = .ok (.iconst 1, 1) := by decide +kernel
theorem dX9_isTaken_31 : decode cX9_isTaken 31 = .ok (.ireturn, 1) := by decide +kernel
theorem dX9_isTaken_32 : decode cX9_isTaken 32 = .ok (.iinc 3 1, 3) := by decide +kernel
theorem dX9_isTaken_35 : decode cX9_isTaken 35 = .ok (.goto (-33), 3) := by decide +kernel
theorem dX9_isTaken_38 : decode cX9_isTaken 38 = .ok (.iconst 0, 1) := by decide +kernel
theorem dX9_isTaken_39 : decode cX9_isTaken 39 = .ok (.ireturn, 1) := by decide +kernel
theorem dX9_hillOver_0 : decode cX9_hillOver 0 = .ok (.aload_n 0, 1) := by decide +kernel
theorem dX9_hillOver_1 : decode cX9_hillOver 1 = .ok (.getfield 37, 3) := by decide +kernel
theorem dX9_hillOver_4 : decode cX9_hillOver 4 = .ok (.iconst 1, 1) := by decide +kernel
theorem dX9_hillOver_5 : decode cX9_hillOver 5 = .ok (.isub, 1) := by decide +kernel
theorem dX9_hillOver_6 : decode cX9_hillOver 6 = .ok (.istore_n 2, 1) := by decide +kernel
theorem dX9_hillOver_7 : decode cX9_hillOver 7 = .ok (.iload_n 2, 1) := by decide +kernel
theorem dX9_hillOver_8 : decode cX9_hillOver 8 = .ok (.ifCond .lt 102, 3) := by decide +kernel
theorem dX9_hillOver_11 : decode cX9_hillOver 11 = .ok (.iload_n 1, 1) := by decide +kernel
theorem dX9_hillOver_12 : decode cX9_hillOver 12 = .ok (.aload_n 0, 1) := by decide +kernel
theorem dX9_hillOver_13 : decode cX9_hillOver 13 = .ok (.getfield 40, 3) := by decide +kernel
theorem dX9_hillOver_16 : decode cX9_hillOver 16 = .ok (.iload_n 2, 1) := by decide +kernel
theorem dX9_hillOver_17 : decode cX9_hillOver 17 = .ok (.iaload, 1) := by decide +kernel
theorem dX9_hillOver_18 : decode cX9_hillOver 18 = .ok (.if_icmp .lt 7, 3) := by decide +kernel
theorem dX9_hillOver_21 : decode cX9_hillOver 21 = .ok (.iconst 1, 1) := by decide +kernel
theorem dX9_hillOver_22 : decode cX9_hillOver 22 = .ok (.goto 4, 3) := by decide +kernel
theorem dX9_hillOver_25 : decode cX9_hillOver 25 = .ok (.iconst 0, 1) := by decide +kernel
theorem dX9_hillOver_26 : decode cX9_hillOver 26 = .ok (.istore_n 3, 1) := by decide +kernel
theorem dX9_hillOver_27 : decode cX9_hillOver 27 = .ok (.iload_n 1, 1) := by decide +kernel
theorem dX9_hillOver_28 : decode cX9_hillOver 28 = .ok (.aload_n 0, 1) := by decide +kernel
theorem dX9_hillOver_29 : decode cX9_hillOver 29 = .ok (.getfield 43, 3) := by decide +kernel
theorem dX9_hillOver_32 : decode cX9_hillOver 32 = .ok (.iload_n 2, 1) := by decide +kernel
theorem dX9_hillOver_33 : decode cX9_hillOver 33 = .ok (.iaload, 1) := by decide +kernel
theorem dX9_hillOver_34 : decode cX9_hillOver 34 = .ok (.if_icmp .gt 7, 3) := by decide +kernel
theorem dX9_hillOver_37 : decode cX9_hillOver 37 = .ok (.iconst 1, 1) := by decide +kernel
theorem dX9_hillOver_38 : decode cX9_hillOver 38 = .ok (.goto 4, 3) := by decide +kernel
theorem dX9_hillOver_41 : decode cX9_hillOver 41 = .ok (.iconst 0, 1) := by decide +kernel
theorem dX9_hillOver_42 : decode cX9_hillOver 42 = .ok (.istore 4, 2) := by decide +kernel
theorem dX9_hillOver_44 : decode cX9_hillOver 44 = .ok (.aload_n 0, 1) := by decide +kernel
theorem dX9_hillOver_45 : decode cX9_hillOver 45 = .ok (.getfield 40, 3) := by decide +kernel
theorem dX9_hillOver_48 : decode cX9_hillOver 48 = .ok (.iload_n 2, 1) := by decide +kernel
theorem dX9_hillOver_49 : decode cX9_hillOver 49 = .ok (.iaload, 1) := by decide +kernel
theorem dX9_hillOver_50 : decode cX9_hillOver 50 = .ok (.aload_n 0, 1) := by decide +kernel
theorem dX9_hillOver_51 : decode cX9_hillOver 51 = .ok (.getfield 43, 3) := by decide +kernel
theorem dX9_hillOver_54 : decode cX9_hillOver 54 = .ok (.iload_n 2, 1) := by decide +kernel
theorem dX9_hillOver_55 : decode cX9_hillOver 55 = .ok (.iaload, 1) := by decide +kernel
theorem dX9_hillOver_56 : decode cX9_hillOver 56 = .ok (.if_icmp .gt 20, 3) := by decide +kernel
theorem dX9_hillOver_59 : decode cX9_hillOver 59 = .ok (.iload_n 3, 1) := by decide +kernel
theorem dX9_hillOver_60 : decode cX9_hillOver 60 = .ok (.ifCond .eq 12, 3) := by decide +kernel
theorem dX9_hillOver_63 : decode cX9_hillOver 63 = .ok (.iload 4, 2) := by decide +kernel
theorem dX9_hillOver_65 : decode cX9_hillOver 65 = .ok (.ifCond .eq 7, 3) := by decide +kernel
theorem dX9_hillOver_68 : decode cX9_hillOver 68 = .ok (.iconst 1, 1) := by decide +kernel
theorem dX9_hillOver_69 : decode cX9_hillOver 69 = .ok (.goto 21, 3) := by decide +kernel
theorem dX9_hillOver_72 : decode cX9_hillOver 72 = .ok (.iconst 0, 1) := by decide +kernel
theorem dX9_hillOver_73 : decode cX9_hillOver 73 = .ok (.goto 17, 3) := by decide +kernel
theorem dX9_hillOver_76 : decode cX9_hillOver 76 = .ok (.iload_n 3, 1) := by decide +kernel
theorem dX9_hillOver_77 : decode cX9_hillOver 77 = .ok (.ifCond .ne 8, 3) := by decide +kernel
theorem dX9_hillOver_80 : decode cX9_hillOver 80 = .ok (.iload 4, 2) := by decide +kernel
theorem dX9_hillOver_82 : decode cX9_hillOver 82 = .ok (.ifCond .eq 7, 3) := by decide +kernel
theorem dX9_hillOver_85 : decode cX9_hillOver 85 = .ok (.iconst 1, 1) := by decide +kernel
theorem dX9_hillOver_86 : decode cX9_hillOver 86 = .ok (.goto 4, 3) := by decide +kernel
theorem dX9_hillOver_89 : decode cX9_hillOver 89 = .ok (.iconst 0, 1) := by decide +kernel
theorem dX9_hillOver_90 : decode cX9_hillOver 90 = .ok (.istore 5, 2) := by decide +kernel
theorem dX9_hillOver_92 : decode cX9_hillOver 92 = .ok (.iload 5, 2) := by decide +kernel
theorem dX9_hillOver_94 : decode cX9_hillOver 94 = .ok (.ifCond .eq 10, 3) := by decide +kernel
theorem dX9_hillOver_97 : decode cX9_hillOver 97 = .ok (.aload_n 0, 1) := by decide +kernel
theorem dX9_hillOver_98 : decode cX9_hillOver 98 = .ok (.getfield 46, 3) := by decide +kernel
theorem dX9_hillOver_101 : decode cX9_hillOver 101 = .ok (.iload_n 2, 1) := by decide +kernel
theorem dX9_hillOver_102 : decode cX9_hillOver 102 = .ok (.iaload, 1) := by decide +kernel
theorem dX9_hillOver_103 : decode cX9_hillOver 103 = .ok (.ireturn, 1) := by decide +kernel
theorem dX9_hillOver_104 : decode cX9_hillOver 104 = .ok (.iinc 2 (-1), 3) := by decide +kernel
theorem dX9_hillOver_107 : decode cX9_hillOver 107 = .ok (.goto (-100), 3) := by decide +kernel
theorem dX9_hillOver_110 : decode cX9_hillOver 110 = .ok (.iconst 0, 1) := by decide +kernel
theorem dX9_hillOver_111 : decode cX9_hillOver 111 = .ok (.ireturn, 1) := by decide +kernel
theorem dX10_init_0 : decode cX10_init 0 = .ok (.aload_n 0, 1) := by decide +kernel
theorem dX10_init_1 : decode cX10_init 1 = .ok (.invokespecial 3, 3) := by decide +kernel
theorem dX10_init_4 : decode cX10_init 4 = .ok (.aload_n 0, 1) := by decide +kernel
theorem dX10_init_5 : decode cX10_init 5 = .ok (.sipush 360, 3) := by decide +kernel
theorem dX10_init_8 : decode cX10_init 8 = .ok (.newarray .int, 2) := by decide +kernel
theorem dX10_init_10 : decode cX10_init 10 = .ok (.putfield 9, 3) := by decide +kernel
theorem dX10_init_13 : decode cX10_init 13 = .ok (.aload_n 0, 1) := by decide +kernel
theorem dX10_init_14 : decode cX10_init 14 = .ok (.sipush 360, 3) := by decide +kernel
theorem dX10_init_17 : decode cX10_init 17 = .ok (.newarray .int, 2) := by decide +kernel
theorem dX10_init_19 : decode cX10_init 19 = .ok (.putfield 15, 3) := by decide +kernel
theorem dX10_init_22 : decode cX10_init 22 = .ok (.aload_n 0, 1) := by decide +kernel
theorem dX10_init_23 : decode cX10_init 23 = .ok (.sipush 360, 3) := by decide +kernel
theorem dX10_init_26 : decode cX10_init 26 = .ok (.newarray .int, 2) := by decide +kernel
theorem dX10_init_28 : decode cX10_init 28 = .ok (.putfield 18, 3) := by decide +kernel
theorem dX10_init_31 : decode cX10_init 31 = .ok (.aload_n 0, 1) := by decide +kernel
theorem dX10_init_32 : decode cX10_init 32 = .ok (.sipush 360, 3) := by decide +kernel
theorem dX10_init_35 : decode cX10_init 35 = .ok (.newarray .int, 2) := by decide +kernel
theorem dX10_init_37 : decode cX10_init 37 = .ok (.putfield 21, 3) := by decide +kernel
theorem dX10_init_40 : decode cX10_init 40 = .ok (.aload_n 0, 1) := by decide +kernel
theorem dX10_init_41 : decode cX10_init 41 = .ok (.sipush 184, 3) := by decide +kernel
theorem dX10_init_44 : decode cX10_init 44 = .ok (.newarray .int, 2) := by decide +kernel
theorem dX10_init_46 : decode cX10_init 46 = .ok (.putfield 24, 3) := by decide +kernel
theorem dX10_init_49 : decode cX10_init 49 = .ok (.aload_n 0, 1) := by decide +kernel
theorem dX10_init_50 : decode cX10_init 50 = .ok (.iconst 0, 1) := by decide +kernel
theorem dX10_init_51 : decode cX10_init 51 = .ok (.putfield 27, 3) := by decide +kernel
theorem dX10_init_54 : decode cX10_init 54 = .ok (.aload_n 0, 1) := by decide +kernel
theorem dX10_init_55 : decode cX10_init 55 = .ok (.sipush 360, 3) := by decide +kernel
theorem dX10_init_58 : decode cX10_init 58 = .ok (.newarray .int, 2) := by decide +kernel
theorem dX10_init_60 : decode cX10_init 60 = .ok (.putfield 31, 3) := by decide +kernel
theorem dX10_init_63 : decode cX10_init 63 = .ok (.aload_n 0, 1) := by decide +kernel
theorem dX10_init_64 : decode cX10_init 64 = .ok (.sipush 360, 3) := by decide +kernel
theorem dX10_init_67 : decode cX10_init 67 = .ok (.newarray .int, 2) := by decide +kernel
theorem dX10_init_69 : decode cX10_init 69 = .ok (.putfield 34, 3) := by decide +kernel
theorem dX10_init_72 : decode cX10_init 72 = .ok (.return_, 1) := by decide +kernel
theorem dX10_gather_0 : decode cX10_gather 0 = .ok (.aload_n 0, 1) := by decide +kernel
theorem dX10_gather_1 : decode cX10_gather 1 = .ok (.getfield 9, 3) := by decide +kernel
theorem dX10_gather_4 : decode cX10_gather 4 = .ok (.iconst 0, 1) := by decide +kernel
theorem dX10_gather_5 : decode cX10_gather 5 = .ok (.invokestatic 37, 3) := by decide +kernel
theorem dX10_gather_8 : decode cX10_gather 8 = .ok (.iconst 0, 1) := by decide +kernel
theorem dX10_gather_9 : decode cX10_gather 9 = .ok (.istore_n 2, 1) := by decide +kernel
theorem dX10_gather_10 : decode cX10_gather 10 = .ok (.iload_n 2, 1) := by decide +kernel
theorem dX10_gather_11 : decode cX10_gather 11 = .ok (.aload_n 1, 1) := by decide +kernel
theorem dX10_gather_12 : decode cX10_gather 12 = .ok (.getfield 43, 3) := by decide +kernel
theorem dX10_gather_15 : decode cX10_gather 15 = .ok (.if_icmp .ge 24, 3) := by decide +kernel
theorem dX10_gather_18 : decode cX10_gather 18 = .ok (.aload_n 0, 1) := by decide +kernel
theorem dX10_gather_19 : decode cX10_gather 19 = .ok (.getfield 9, 3) := by decide +kernel
theorem dX10_gather_22 : decode cX10_gather 22 = .ok (.aload_n 1, 1) := by decide +kernel
theorem dX10_gather_23 : decode cX10_gather 23 = .ok (.getfield 48, 3) := by decide +kernel
theorem dX10_gather_26 : decode cX10_gather 26 = .ok (.iload_n 2, 1) := by decide +kernel
theorem dX10_gather_27 : decode cX10_gather 27 = .ok (.iaload, 1) := by decide +kernel
theorem dX10_gather_28 : decode cX10_gather 28 = .ok (.dup2, 1) := by decide +kernel
theorem dX10_gather_29 : decode cX10_gather 29 = .ok (.iaload, 1) := by decide +kernel
theorem dX10_gather_30 : decode cX10_gather 30 = .ok (.iconst 1, 1) := by decide +kernel
theorem dX10_gather_31 : decode cX10_gather 31 = .ok (.iadd, 1) := by decide +kernel
theorem dX10_gather_32 : decode cX10_gather 32 = .ok (.iastore, 1) := by decide +kernel
theorem dX10_gather_33 : decode cX10_gather 33 = .ok (.iinc 2 1, 3) := by decide +kernel
theorem dX10_gather_36 : decode cX10_gather 36 = .ok (.goto (-26), 3) := by decide +kernel
theorem dX10_gather_39 : decode cX10_gather 39 = .ok (.return_, 1) := by decide +kernel
theorem dX10_cover_0 : decode cX10_cover 0 = .ok (.iconst 0, 1) := by decide +kernel
theorem dX10_cover_1 : decode cX10_cover 1 = .ok (.istore_n 3, 1) := by decide +kernel
theorem dX10_cover_2 : decode cX10_cover 2 = .ok (.iload_n 3, 1) := by decide +kernel
theorem dX10_cover_3 : decode cX10_cover 3 = .ok (.sipush 360, 3) := by decide +kernel
theorem dX10_cover_6 : decode cX10_cover 6 = .ok (.if_icmp .ge 22, 3) := by decide +kernel
theorem dX10_cover_9 : decode cX10_cover 9 = .ok (.aload_n 0, 1) := by decide +kernel
theorem dX10_cover_10 : decode cX10_cover 10 = .ok (.getfield 15, 3) := by decide +kernel
theorem dX10_cover_13 : decode cX10_cover 13 = .ok (.iload_n 3, 1) := by decide +kernel
theorem dX10_cover_14 : decode cX10_cover 14 = .ok (.aload_n 1, 1) := by decide +kernel
theorem dX10_cover_15 : decode cX10_cover 15 = .ok (.iload_n 3, 1) := by decide +kernel
theorem dX10_cover_16 : decode cX10_cover 16 = .ok (.iload_n 2, 1) := by decide +kernel
theorem dX10_cover_17 : decode cX10_cover 17 = .ok (.iconst 0, 1) := by decide +kernel
theorem dX10_cover_18 : decode cX10_cover 18 = .ok (.invokevirtual 51, 3) := by decide +kernel
theorem dX10_cover_21 : decode cX10_cover 21 = .ok (.iastore, 1) := by decide +kernel
theorem dX10_cover_22 : decode cX10_cover 22 = .ok (.iinc 3 1, 3) := by decide +kernel
theorem dX10_cover_25 : decode cX10_cover 25 = .ok (.goto (-23), 3) := by decide +kernel
theorem dX10_cover_28 : decode cX10_cover 28 = .ok (.return_, 1) := by decide +kernel
theorem dX10_spin_0 : decode cX10_spin 0 = .ok (.aload_n 0, 1) := by decide +kernel
theorem dX10_spin_1 : decode cX10_spin 1 = .ok (.iload_n 1, 1) := by decide +kernel
theorem dX10_spin_2 : decode cX10_spin 2 = .ok (.invokevirtual 56, 3) := by decide +kernel
theorem dX10_spin_5 : decode cX10_spin 5 = .ok (.istore_n 2, 1) := by decide +kernel
theorem dX10_spin_6 : decode cX10_spin 6 = .ok (.iconst 0, 1) := by decide +kernel
theorem dX10_spin_7 : decode cX10_spin 7 = .ok (.istore_n 3, 1) := by decide +kernel
theorem dX10_spin_8 : decode cX10_spin 8 = .ok (.iload_n 3, 1) := by decide +kernel
theorem dX10_spin_9 : decode cX10_spin 9 = .ok (.sipush 360, 3) := by decide +kernel
theorem dX10_spin_12 : decode cX10_spin 12 = .ok (.if_icmp .ge 77, 3) := by decide +kernel
theorem dX10_spin_15 : decode cX10_spin 15 = .ok (.aload_n 0, 1) := by decide +kernel
theorem dX10_spin_16 : decode cX10_spin 16 = .ok (.getfield 18, 3) := by decide +kernel
theorem dX10_spin_19 : decode cX10_spin 19 = .ok (.iload_n 3, 1) := by decide +kernel
theorem dX10_spin_20 : decode cX10_spin 20 = .ok (.iload_n 2, 1) := by decide +kernel
theorem dX10_spin_21 : decode cX10_spin 21 = .ok (.iastore, 1) := by decide +kernel
theorem dX10_spin_22 : decode cX10_spin 22 = .ok (.iconst 0, 1) := by decide +kernel
theorem dX10_spin_23 : decode cX10_spin 23 = .ok (.istore 4, 2) := by decide +kernel
theorem dX10_spin_25 : decode cX10_spin 25 = .ok (.iload 4, 2) := by decide +kernel
theorem dX10_spin_27 : decode cX10_spin 27 = .ok (.aload_n 0, 1) := by decide +kernel
theorem dX10_spin_28 : decode cX10_spin 28 = .ok (.getfield 27, 3) := by decide +kernel
theorem dX10_spin_31 : decode cX10_spin 31 = .ok (.if_icmp .ge 52, 3) := by decide +kernel
theorem dX10_spin_34 : decode cX10_spin 34 = .ok (.aload_n 0, 1) := by decide +kernel
theorem dX10_spin_35 : decode cX10_spin 35 = .ok (.getfield 31, 3) := by decide +kernel
theorem dX10_spin_38 : decode cX10_spin 38 = .ok (.iload 4, 2) := by decide +kernel
theorem dX10_spin_40 : decode cX10_spin 40 = .ok (.iaload, 1) := by decide +kernel
theorem dX10_spin_41 : decode cX10_spin 41 = .ok (.iload_n 3, 1) := by decide +kernel
theorem dX10_spin_42 : decode cX10_spin 42 = .ok (.isub, 1) := by decide +kernel
theorem dX10_spin_43 : decode cX10_spin 43 = .ok (.istore 5, 2) := by decide +kernel
theorem dX10_spin_45 : decode cX10_spin 45 = .ok (.iload_n 2, 1) := by decide +kernel
theorem dX10_spin_46 : decode cX10_spin 46 = .ok (.aload_n 0, 1) := by decide +kernel
theorem dX10_spin_47 : decode cX10_spin 47 = .ok (.getfield 34, 3) := by decide +kernel
theorem dX10_spin_50 : decode cX10_spin 50 = .ok (.iload 4, 2) := by decide +kernel
theorem dX10_spin_52 : decode cX10_spin 52 = .ok (.iaload, 1) := by decide +kernel
theorem dX10_spin_53 : decode cX10_spin 53 = .ok (.aload_n 0, 1) := by decide +kernel
theorem dX10_spin_54 : decode cX10_spin 54 = .ok (.getfield 9, 3) := by decide +kernel
theorem dX10_spin_57 : decode cX10_spin 57 = .ok (.iload 5, 2) := by decide +kernel
theorem dX10_spin_59 : decode cX10_spin 59 = .ok (.ifCond .ge 12, 3) := by decide +kernel
theorem dX10_spin_62 : decode cX10_spin 62 = .ok (.iload 5, 2) := by decide +kernel
theorem dX10_spin_64 : decode cX10_spin 64 = .ok (.sipush 360, 3) := by decide +kernel
theorem dX10_spin_67 : decode cX10_spin 67 = .ok (.iadd, 1) := by decide +kernel
theorem dX10_spin_68 : decode cX10_spin 68 = .ok (.goto 5, 3) := by decide +kernel
theorem dX10_spin_71 : decode cX10_spin 71 = .ok (.iload 5, 2) := by decide +kernel
theorem dX10_spin_73 : decode cX10_spin 73 = .ok (.iaload, 1) := by decide +kernel
theorem dX10_spin_74 : decode cX10_spin 74 = .ok (.imul, 1) := by decide +kernel
theorem dX10_spin_75 : decode cX10_spin 75 = .ok (.iadd, 1) := by decide +kernel
theorem dX10_spin_76 : decode cX10_spin 76 = .ok (.istore_n 2, 1) := by decide +kernel
theorem dX10_spin_77 : decode cX10_spin 77 = .ok (.iinc 4 1, 3) := by decide +kernel
theorem dX10_spin_80 : decode cX10_spin 80 = .ok (.goto (-55), 3) := by decide +kernel
theorem dX10_spin_83 : decode cX10_spin 83 = .ok (.iinc 3 1, 3) := by decide +kernel
theorem dX10_spin_86 : decode cX10_spin 86 = .ok (.goto (-78), 3) := by decide +kernel
theorem dX10_spin_89 : decode cX10_spin 89 = .ok (.return_, 1) := by decide +kernel
theorem dX10_findEdges_0 : decode cX10_findEdges 0 = .ok (.iconst 0, 1) := by decide +kernel
theorem dX10_findEdges_1 : decode cX10_findEdges 1 = .ok (.istore_n 2, 1) := by decide +kernel
theorem dX10_findEdges_2 : decode cX10_findEdges 2 = .ok (.aload_n 0, 1) := by decide +kernel
theorem dX10_findEdges_3 : decode cX10_findEdges 3 = .ok (.iconst 0, 1) := by decide +kernel
theorem dX10_findEdges_4 : decode cX10_findEdges 4 = .ok (.putfield 27, 3) := by decide +kernel
theorem dX10_findEdges_7 : decode cX10_findEdges 7 = .ok (.aload_n 0, 1) := by decide +kernel
theorem dX10_findEdges_8 : decode cX10_findEdges 8 = .ok (.getfield 15, 3) := by decide +kernel
theorem dX10_findEdges_11 : decode cX10_findEdges 11 = .ok (.iconst 0, 1) := by decide +kernel
theorem dX10_findEdges_12 : decode cX10_findEdges 12 = .ok (.iaload, 1) := by decide +kernel
theorem dX10_findEdges_13 : decode cX10_findEdges 13 = .ok (.iload_n 1, 1) := by decide +kernel
theorem dX10_findEdges_14 : decode cX10_findEdges 14 = .ok (.iand, 1) := by decide +kernel
theorem dX10_findEdges_15 : decode cX10_findEdges 15 = .ok (.ifCond .eq 7, 3) := by decide +kernel
theorem dX10_findEdges_18 : decode cX10_findEdges 18 = .ok (.iconst 1, 1) := by decide +kernel
theorem dX10_findEdges_19 : decode cX10_findEdges 19 = .ok (.goto 4, 3) := by decide +kernel
theorem dX10_findEdges_22 : decode cX10_findEdges 22 = .ok (.iconst 0, 1) := by decide +kernel
theorem dX10_findEdges_23 : decode cX10_findEdges 23 = .ok (.istore_n 3, 1) := by decide +kernel
theorem dX10_findEdges_24 : decode cX10_findEdges 24 = .ok (.iconst 0, 1) := by decide +kernel
theorem dX10_findEdges_25 : decode cX10_findEdges 25 = .ok (.istore 4, 2) := by decide +kernel
theorem dX10_findEdges_27 : decode cX10_findEdges 27 = .ok (.iload 4, 2) := by decide +kernel
theorem dX10_findEdges_29 : decode cX10_findEdges 29 = .ok (.sipush 360, 3) := by decide +kernel
theorem dX10_findEdges_32 : decode cX10_findEdges 32 = .ok (.if_icmp .ge 107, 3) := by decide +kernel
theorem dX10_findEdges_35 : decode cX10_findEdges 35 = .ok (.aload_n 0, 1) := by decide +kernel
theorem dX10_findEdges_36 : decode cX10_findEdges 36 = .ok (.getfield 15, 3) := by decide +kernel
theorem dX10_findEdges_39 : decode cX10_findEdges 39 = .ok (.iload 4, 2) := by decide +kernel
theorem dX10_findEdges_41 : decode cX10_findEdges 41 = .ok (.iconst 1, 1) := by decide +kernel
theorem dX10_findEdges_42 : decode cX10_findEdges 42 = .ok (.iadd, 1) := by decide +kernel
theorem dX10_findEdges_43 : decode cX10_findEdges 43 = .ok (.sipush 360, 3) := by decide +kernel
theorem dX10_findEdges_46 : decode cX10_findEdges 46 = .ok (.if_icmp .ge 10, 3) := by decide +kernel
theorem dX10_findEdges_49 : decode cX10_findEdges 49 = .ok (.iload 4, 2) := by decide +kernel
theorem dX10_findEdges_51 : decode cX10_findEdges 51 = .ok (.iconst 1, 1) := by decide +kernel
theorem dX10_findEdges_52 : decode cX10_findEdges 52 = .ok (.iadd, 1) := by decide +kernel
theorem dX10_findEdges_53 : decode cX10_findEdges 53 = .ok (.goto 4, 3) := by decide +kernel
theorem dX10_findEdges_56 : decode cX10_findEdges 56 = .ok (.iconst 0, 1) := by decide +kernel
theorem dX10_findEdges_57 : decode cX10_findEdges 57 = .ok (.iaload, 1) := by decide +kernel
theorem dX10_findEdges_58 : decode cX10_findEdges 58 = .ok (.iload_n 1, 1) := by decide +kernel
theorem dX10_findEdges_59 : decode cX10_findEdges 59 = .ok (.iand, 1) := by decide +kernel
theorem dX10_findEdges_60 : decode cX10_findEdges 60 = .ok (.ifCond .eq 7, 3) := by decide +kernel
theorem dX10_findEdges_63 : decode cX10_findEdges 63 = .ok (.iconst 1, 1) := by decide +kernel
theorem dX10_findEdges_64 : decode cX10_findEdges 64 = .ok (.goto 4, 3) := by decide +kernel
theorem dX10_findEdges_67 : decode cX10_findEdges 67 = .ok (.iconst 0, 1) := by decide +kernel
theorem dX10_findEdges_68 : decode cX10_findEdges 68 = .ok (.istore 5, 2) := by decide +kernel
theorem dX10_findEdges_70 : decode cX10_findEdges 70 = .ok (.iload_n 3, 1) := by decide +kernel
theorem dX10_findEdges_71 : decode cX10_findEdges 71 = .ok (.ifCond .eq 13, 3) := by decide +kernel
theorem dX10_findEdges_74 : decode cX10_findEdges 74 = .ok (.iload_n 2, 1) := by decide +kernel
theorem dX10_findEdges_75 : decode cX10_findEdges 75 = .ok (.aload_n 0, 1) := by decide +kernel
theorem dX10_findEdges_76 : decode cX10_findEdges 76 = .ok (.getfield 9, 3) := by decide +kernel
theorem dX10_findEdges_79 : decode cX10_findEdges 79 = .ok (.iload 4, 2) := by decide +kernel
theorem dX10_findEdges_81 : decode cX10_findEdges 81 = .ok (.iaload, 1) := by decide +kernel
theorem dX10_findEdges_82 : decode cX10_findEdges 82 = .ok (.iadd, 1) := by decide +kernel
theorem dX10_findEdges_83 : decode cX10_findEdges 83 = .ok (.istore_n 2, 1) := by decide +kernel
theorem dX10_findEdges_84 : decode cX10_findEdges 84 = .ok (.iload_n 3, 1) := by decide +kernel
theorem dX10_findEdges_85 : decode cX10_findEdges 85 = .ok (.iload 5, 2) := by decide +kernel
theorem dX10_findEdges_87 : decode cX10_findEdges 87 = .ok (.if_icmp .eq 43, 3) := by decide +kernel
theorem dX10_findEdges_90 : decode cX10_findEdges 90 = .ok (.aload_n 0, 1) := by decide +kernel
theorem dX10_findEdges_91 : decode cX10_findEdges 91 = .ok (.getfield 31, 3) := by decide +kernel
theorem dX10_findEdges_94 : decode cX10_findEdges 94 = .ok (.aload_n 0, 1) := by decide +kernel
theorem dX10_findEdges_95 : decode cX10_findEdges 95 = .ok (.getfield 27, 3) := by decide +kernel
theorem dX10_findEdges_98 : decode cX10_findEdges 98 = .ok (.iload 4, 2) := by decide +kernel
theorem dX10_findEdges_100 : decode cX10_findEdges 100 = .ok (.iastore, 1) := by decide +kernel
theorem dX10_findEdges_101 : decode cX10_findEdges 101 = .ok (.aload_n 0, 1) := by decide +kernel
theorem dX10_findEdges_102 : decode cX10_findEdges 102 = .ok (.getfield 34, 3) := by decide +kernel
theorem dX10_findEdges_105 : decode cX10_findEdges 105 = .ok (.aload_n 0, 1) := by decide +kernel
theorem dX10_findEdges_106 : decode cX10_findEdges 106 = .ok (.getfield 27, 3) := by decide +kernel
theorem dX10_findEdges_109 : decode cX10_findEdges 109 = .ok (.iload 5, 2) := by decide +kernel
theorem dX10_findEdges_111 : decode cX10_findEdges 111 = .ok (.ifCond .eq 7, 3) := by decide +kernel
theorem dX10_findEdges_114 : decode cX10_findEdges 114 = .ok (.iconst 1, 1) := by decide +kernel
theorem dX10_findEdges_115 : decode cX10_findEdges 115 = .ok (.goto 4, 3) := by decide +kernel
theorem dX10_findEdges_118 : decode cX10_findEdges 118 = .ok (.iconst (-1), 1) := by decide +kernel
theorem dX10_findEdges_119 : decode cX10_findEdges 119 = .ok (.iastore, 1) := by decide +kernel
theorem dX10_findEdges_120 : decode cX10_findEdges 120 = .ok (.aload_n 0, 1) := by decide +kernel
theorem dX10_findEdges_121 : decode cX10_findEdges 121 = .ok (.dup, 1) := by decide +kernel
theorem dX10_findEdges_122 : decode cX10_findEdges 122 = .ok (.getfield 27, 3) := by decide +kernel
theorem dX10_findEdges_125 : decode cX10_findEdges 125 = .ok (.iconst 1, 1) := by decide +kernel
theorem dX10_findEdges_126 : decode cX10_findEdges 126 = .ok (.iadd, 1) := by decide +kernel
theorem dX10_findEdges_127 : decode cX10_findEdges 127 = .ok (.putfield 27, 3) := by decide +kernel
theorem dX10_findEdges_130 : decode cX10_findEdges 130 = .ok (.iload 5, 2) := by decide +kernel
theorem dX10_findEdges_132 : decode cX10_findEdges 132 = .ok (.istore_n 3, 1) := by decide +kernel
theorem dX10_findEdges_133 : decode cX10_findEdges 133 = .ok (.iinc 4 1, 3) := by decide +kernel
theorem dX10_findEdges_136 : decode cX10_findEdges 136 = .ok (.goto (-109), 3) := by decide +kernel
theorem dX10_findEdges_139 : decode cX10_findEdges 139 = .ok (.iload_n 2, 1) := by decide +kernel
theorem dX10_findEdges_140 : decode cX10_findEdges 140 = .ok (.ireturn, 1) := by decide +kernel
theorem dX10_asManyAsUnturned_0 : decode cX10_asManyAsUnturned 0 = .ok (.iconst 0, 1) := by decide +kernel
theorem dX10_asManyAsUnturned_1 : decode cX10_asManyAsUnturned 1 = .ok (.istore_n 1, 1) := by decide +kernel
theorem dX10_asManyAsUnturned_2 : decode cX10_asManyAsUnturned 2 = .ok (.iconst 0, 1) := by decide +kernel
theorem dX10_asManyAsUnturned_3 : decode cX10_asManyAsUnturned 3 = .ok (.istore_n 2, 1) := by decide +kernel
theorem dX10_asManyAsUnturned_4 : decode cX10_asManyAsUnturned 4 = .ok (.iload_n 2, 1) := by decide +kernel
theorem dX10_asManyAsUnturned_5 : decode cX10_asManyAsUnturned 5 = .ok (.sipush 360, 3) := by decide +kernel
theorem dX10_asManyAsUnturned_8 : decode cX10_asManyAsUnturned 8 = .ok (.if_icmp .ge 27, 3) := by decide +kernel
theorem dX10_asManyAsUnturned_11 : decode cX10_asManyAsUnturned 11 = .ok (.aload_n 0, 1) := by decide +kernel
theorem dX10_asManyAsUnturned_12 : decode cX10_asManyAsUnturned 12 = .ok (.getfield 18, 3) := by decide +kernel
theorem dX10_asManyAsUnturned_15 : decode cX10_asManyAsUnturned 15 = .ok (.iload_n 2, 1) := by decide +kernel
theorem dX10_asManyAsUnturned_16 : decode cX10_asManyAsUnturned 16 = .ok (.iaload, 1) := by decide +kernel
theorem dX10_asManyAsUnturned_17 : decode cX10_asManyAsUnturned 17 = .ok (.aload_n 0, 1) := by decide +kernel
theorem dX10_asManyAsUnturned_18 : decode cX10_asManyAsUnturned 18 = .ok (.getfield 18, 3) := by decide +kernel
theorem dX10_asManyAsUnturned_21 : decode cX10_asManyAsUnturned 21 = .ok (.iconst 0, 1) := by decide +kernel
theorem dX10_asManyAsUnturned_22 : decode cX10_asManyAsUnturned 22 = .ok (.iaload, 1) := by decide +kernel
theorem dX10_asManyAsUnturned_23 : decode cX10_asManyAsUnturned 23 = .ok (.if_icmp .lt 6, 3) := by decide +kernel
theorem dX10_asManyAsUnturned_26 : decode cX10_asManyAsUnturned 26 = .ok (.iinc 1 1, 3) := by decide +kernel
theorem dX10_asManyAsUnturned_29 : decode cX10_asManyAsUnturned 29 = .ok (.iinc 2 1, 3) := by decide +kernel
theorem dX10_asManyAsUnturned_32 : decode cX10_asManyAsUnturned 32 = .ok (.goto (-28), 3) := by decide +kernel
theorem dX10_asManyAsUnturned_35 : decode cX10_asManyAsUnturned 35 = .ok (.iload_n 1, 1) := by decide +kernel
theorem dX10_asManyAsUnturned_36 : decode cX10_asManyAsUnturned 36 = .ok (.ireturn, 1) := by decide +kernel
theorem dX10_sum_0 : decode cX10_sum 0 = .ok (.iconst 0, 1) := by decide +kernel
theorem dX10_sum_1 : decode cX10_sum 1 = .ok (.istore_n 1, 1) := by decide +kernel
theorem dX10_sum_2 : decode cX10_sum 2 = .ok (.iconst 0, 1) := by decide +kernel
theorem dX10_sum_3 : decode cX10_sum 3 = .ok (.istore_n 2, 1) := by decide +kernel
theorem dX10_sum_4 : decode cX10_sum 4 = .ok (.iload_n 2, 1) := by decide +kernel
theorem dX10_sum_5 : decode cX10_sum 5 = .ok (.sipush 360, 3) := by decide +kernel
theorem dX10_sum_8 : decode cX10_sum 8 = .ok (.if_icmp .ge 18, 3) := by decide +kernel
theorem dX10_sum_11 : decode cX10_sum 11 = .ok (.iload_n 1, 1) := by decide +kernel
theorem dX10_sum_12 : decode cX10_sum 12 = .ok (.aload_n 0, 1) := by decide +kernel
theorem dX10_sum_13 : decode cX10_sum 13 = .ok (.getfield 18, 3) := by decide +kernel
theorem dX10_sum_16 : decode cX10_sum 16 = .ok (.iload_n 2, 1) := by decide +kernel
theorem dX10_sum_17 : decode cX10_sum 17 = .ok (.iaload, 1) := by decide +kernel
theorem dX10_sum_18 : decode cX10_sum 18 = .ok (.iadd, 1) := by decide +kernel
theorem dX10_sum_19 : decode cX10_sum 19 = .ok (.istore_n 1, 1) := by decide +kernel
theorem dX10_sum_20 : decode cX10_sum 20 = .ok (.iinc 2 1, 3) := by decide +kernel
theorem dX10_sum_23 : decode cX10_sum 23 = .ok (.goto (-19), 3) := by decide +kernel
theorem dX10_sum_26 : decode cX10_sum 26 = .ok (.iload_n 1, 1) := by decide +kernel
theorem dX10_sum_27 : decode cX10_sum 27 = .ok (.ireturn, 1) := by decide +kernel
theorem dX10_tellAfter_0 : decode cX10_tellAfter 0 = .ok (.aload_n 0, 1) := by decide +kernel
theorem dX10_tellAfter_1 : decode cX10_tellAfter 1 = .ok (.getfield 21, 3) := by decide +kernel
theorem dX10_tellAfter_4 : decode cX10_tellAfter 4 = .ok (.sipush 360, 3) := by decide +kernel
theorem dX10_tellAfter_7 : decode cX10_tellAfter 7 = .ok (.invokestatic 37, 3) := by decide +kernel
theorem dX10_tellAfter_10 : decode cX10_tellAfter 10 = .ok (.aload_n 0, 1) := by decide +kernel
theorem dX10_tellAfter_11 : decode cX10_tellAfter 11 = .ok (.aload_n 1, 1) := by decide +kernel
theorem dX10_tellAfter_12 : decode cX10_tellAfter 12 = .ok (.invokevirtual 60, 3) := by decide +kernel
theorem dX10_tellAfter_15 : decode cX10_tellAfter 15 = .ok (.iconst 0, 1) := by decide +kernel
theorem dX10_tellAfter_16 : decode cX10_tellAfter 16 = .ok (.istore_n 3, 1) := by decide +kernel
theorem dX10_tellAfter_17 : decode cX10_tellAfter 17 = .ok (.iload_n 3, 1) := by decide +kernel
theorem dX10_tellAfter_18 : decode cX10_tellAfter 18 = .ok (.iconst 4, 1) := by decide +kernel
theorem dX10_tellAfter_19 : decode cX10_tellAfter 19 = .ok (.if_icmp .gt 45, 3) := by decide +kernel
theorem dX10_tellAfter_22 : decode cX10_tellAfter 22 = .ok (.aload_n 0, 1) := by decide +kernel
theorem dX10_tellAfter_23 : decode cX10_tellAfter 23 = .ok (.aload_n 2, 1) := by decide +kernel
theorem dX10_tellAfter_24 : decode cX10_tellAfter 24 = .ok (.iload_n 3, 1) := by decide +kernel
theorem dX10_tellAfter_25 : decode cX10_tellAfter 25 = .ok (.invokevirtual 64, 3) := by decide +kernel
theorem dX10_tellAfter_28 : decode cX10_tellAfter 28 = .ok (.iconst 1, 1) := by decide +kernel
theorem dX10_tellAfter_29 : decode cX10_tellAfter 29 = .ok (.istore 4, 2) := by decide +kernel
theorem dX10_tellAfter_31 : decode cX10_tellAfter 31 = .ok (.iload 4, 2) := by decide +kernel
theorem dX10_tellAfter_33 : decode cX10_tellAfter 33 = .ok (.iconst 1, 1) := by decide +kernel
theorem dX10_tellAfter_34 : decode cX10_tellAfter 34 = .ok (.aload_n 2, 1) := by decide +kernel
theorem dX10_tellAfter_35 : decode cX10_tellAfter 35 = .ok (.getfield 68, 3) := by decide +kernel
theorem dX10_tellAfter_38 : decode cX10_tellAfter 38 = .ok (.ishl, 1) := by decide +kernel
theorem dX10_tellAfter_39 : decode cX10_tellAfter 39 = .ok (.if_icmp .ge 19, 3) := by decide +kernel
theorem dX10_tellAfter_42 : decode cX10_tellAfter 42 = .ok (.aload_n 0, 1) := by decide +kernel
theorem dX10_tellAfter_43 : decode cX10_tellAfter 43 = .ok (.iload 4, 2) := by decide +kernel
theorem dX10_tellAfter_45 : decode cX10_tellAfter 45 = .ok (.invokevirtual 71, 3) := by decide +kernel
theorem dX10_tellAfter_48 : decode cX10_tellAfter 48 = .ok (.aload_n 0, 1) := by decide +kernel
theorem dX10_tellAfter_49 : decode cX10_tellAfter 49 = .ok (.invokevirtual 75, 3) := by decide +kernel
theorem dX10_tellAfter_52 : decode cX10_tellAfter 52 = .ok (.iinc 4 1, 3) := by decide +kernel
theorem dX10_tellAfter_55 : decode cX10_tellAfter 55 = .ok (.goto (-24), 3) := by decide +kernel
theorem dX10_tellAfter_58 : decode cX10_tellAfter 58 = .ok (.iinc 3 1, 3) := by decide +kernel
theorem dX10_tellAfter_61 : decode cX10_tellAfter 61 = .ok (.goto (-44), 3) := by decide +kernel
theorem dX10_tellAfter_64 : decode cX10_tellAfter 64 = .ok (.return_, 1) := by decide +kernel
theorem dX10_lower_0 : decode cX10_lower 0 = .ok (.aload_n 0, 1) := by decide +kernel
theorem dX10_lower_1 : decode cX10_lower 1 = .ok (.getfield 24, 3) := by decide +kernel
theorem dX10_lower_4 : decode cX10_lower 4 = .ok (.iconst 0, 1) := by decide +kernel
theorem dX10_lower_5 : decode cX10_lower 5 = .ok (.invokestatic 37, 3) := by decide +kernel
theorem dX10_lower_8 : decode cX10_lower 8 = .ok (.iconst 0, 1) := by decide +kernel
theorem dX10_lower_9 : decode cX10_lower 9 = .ok (.istore_n 1, 1) := by decide +kernel
theorem dX10_lower_10 : decode cX10_lower 10 = .ok (.iload_n 1, 1) := by decide +kernel
theorem dX10_lower_11 : decode cX10_lower 11 = .ok (.sipush 360, 3) := by decide +kernel
theorem dX10_lower_14 : decode cX10_lower 14 = .ok (.if_icmp .ge 24, 3) := by decide +kernel
theorem dX10_lower_17 : decode cX10_lower 17 = .ok (.aload_n 0, 1) := by decide +kernel
theorem dX10_lower_18 : decode cX10_lower 18 = .ok (.getfield 24, 3) := by decide +kernel
theorem dX10_lower_21 : decode cX10_lower 21 = .ok (.aload_n 0, 1) := by decide +kernel
theorem dX10_lower_22 : decode cX10_lower 22 = .ok (.getfield 18, 3) := by decide +kernel
theorem dX10_lower_25 : decode cX10_lower 25 = .ok (.iload_n 1, 1) := by decide +kernel
theorem dX10_lower_26 : decode cX10_lower 26 = .ok (.iaload, 1) := by decide +kernel
theorem dX10_lower_27 : decode cX10_lower 27 = .ok (.dup2, 1) := by decide +kernel
theorem dX10_lower_28 : decode cX10_lower 28 = .ok (.iaload, 1) := by decide +kernel
theorem dX10_lower_29 : decode cX10_lower 29 = .ok (.iconst 1, 1) := by decide +kernel
theorem dX10_lower_30 : decode cX10_lower 30 = .ok (.iadd, 1) := by decide +kernel
theorem dX10_lower_31 : decode cX10_lower 31 = .ok (.iastore, 1) := by decide +kernel
theorem dX10_lower_32 : decode cX10_lower 32 = .ok (.iinc 1 1, 3) := by decide +kernel
theorem dX10_lower_35 : decode cX10_lower 35 = .ok (.goto (-25), 3) := by decide +kernel
theorem dX10_lower_38 : decode cX10_lower 38 = .ok (.sipush 182, 3) := by decide +kernel
theorem dX10_lower_41 : decode cX10_lower 41 = .ok (.istore_n 1, 1) := by decide +kernel
theorem dX10_lower_42 : decode cX10_lower 42 = .ok (.iload_n 1, 1) := by decide +kernel
theorem dX10_lower_43 : decode cX10_lower 43 = .ok (.ifCond .lt 26, 3) := by decide +kernel
theorem dX10_lower_46 : decode cX10_lower 46 = .ok (.aload_n 0, 1) := by decide +kernel
theorem dX10_lower_47 : decode cX10_lower 47 = .ok (.getfield 24, 3) := by decide +kernel
theorem dX10_lower_50 : decode cX10_lower 50 = .ok (.iload_n 1, 1) := by decide +kernel
theorem dX10_lower_51 : decode cX10_lower 51 = .ok (.dup2, 1) := by decide +kernel
theorem dX10_lower_52 : decode cX10_lower 52 = .ok (.iaload, 1) := by decide +kernel
theorem dX10_lower_53 : decode cX10_lower 53 = .ok (.aload_n 0, 1) := by decide +kernel
theorem dX10_lower_54 : decode cX10_lower 54 = .ok (.getfield 24, 3) := by decide +kernel
theorem dX10_lower_57 : decode cX10_lower 57 = .ok (.iload_n 1, 1) := by decide +kernel
theorem dX10_lower_58 : decode cX10_lower 58 = .ok (.iconst 1, 1) := by decide +kernel
theorem dX10_lower_59 : decode cX10_lower 59 = .ok (.iadd, 1) := by decide +kernel
theorem dX10_lower_60 : decode cX10_lower 60 = .ok (.iaload, 1) := by decide +kernel
theorem dX10_lower_61 : decode cX10_lower 61 = .ok (.iadd, 1) := by decide +kernel
theorem dX10_lower_62 : decode cX10_lower 62 = .ok (.iastore, 1) := by decide +kernel
theorem dX10_lower_63 : decode cX10_lower 63 = .ok (.iinc 1 (-1), 3) := by decide +kernel
theorem dX10_lower_66 : decode cX10_lower 66 = .ok (.goto (-24), 3) := by decide +kernel
theorem dX10_lower_69 : decode cX10_lower 69 = .ok (.iconst 0, 1) := by decide +kernel
theorem dX10_lower_70 : decode cX10_lower 70 = .ok (.istore_n 1, 1) := by decide +kernel
theorem dX10_lower_71 : decode cX10_lower 71 = .ok (.iload_n 1, 1) := by decide +kernel
theorem dX10_lower_72 : decode cX10_lower 72 = .ok (.sipush 360, 3) := by decide +kernel
theorem dX10_lower_75 : decode cX10_lower 75 = .ok (.if_icmp .ge 35, 3) := by decide +kernel
theorem dX10_lower_78 : decode cX10_lower 78 = .ok (.aload_n 0, 1) := by decide +kernel
theorem dX10_lower_79 : decode cX10_lower 79 = .ok (.getfield 21, 3) := by decide +kernel
theorem dX10_lower_82 : decode cX10_lower 82 = .ok (.iload_n 1, 1) := by decide +kernel
theorem dX10_lower_83 : decode cX10_lower 83 = .ok (.aload_n 0, 1) := by decide +kernel
theorem dX10_lower_84 : decode cX10_lower 84 = .ok (.getfield 21, 3) := by decide +kernel
theorem dX10_lower_87 : decode cX10_lower 87 = .ok (.iload_n 1, 1) := by decide +kernel
theorem dX10_lower_88 : decode cX10_lower 88 = .ok (.iaload, 1) := by decide +kernel
theorem dX10_lower_89 : decode cX10_lower 89 = .ok (.aload_n 0, 1) := by decide +kernel
theorem dX10_lower_90 : decode cX10_lower 90 = .ok (.getfield 24, 3) := by decide +kernel
theorem dX10_lower_93 : decode cX10_lower 93 = .ok (.aload_n 0, 1) := by decide +kernel
theorem dX10_lower_94 : decode cX10_lower 94 = .ok (.getfield 18, 3) := by decide +kernel
theorem dX10_lower_97 : decode cX10_lower 97 = .ok (.iload_n 1, 1) := by decide +kernel
theorem dX10_lower_98 : decode cX10_lower 98 = .ok (.iaload, 1) := by decide +kernel
theorem dX10_lower_99 : decode cX10_lower 99 = .ok (.iaload, 1) := by decide +kernel
theorem dX10_lower_100 : decode cX10_lower 100 = .ok (.invokestatic 78, 3) := by decide +kernel
theorem dX10_lower_103 : decode cX10_lower 103 = .ok (.iastore, 1) := by decide +kernel
theorem dX10_lower_104 : decode cX10_lower 104 = .ok (.iinc 1 1, 3) := by decide +kernel
theorem dX10_lower_107 : decode cX10_lower 107 = .ok (.goto (-36), 3) := by decide +kernel
theorem dX10_lower_110 : decode cX10_lower 110 = .ok (.return_, 1) := by decide +kernel
