theorem dX4_join_42 : decode cX4_join 42 = .ok (.ior, 1) := by decide +kernel
theorem dX4_join_43 : decode cX4_join 43 = .ok (.iastore, 1) := by decide +kernel
theorem dX4_join_44 : decode cX4_join 44 = .ok (.return_, 1) := by decide +kernel
theorem dX4_most_0 : decode cX4_most 0 = .ok (.aload_n 0, 1) := by decide +kernel
theorem dX4_most_1 : decode cX4_most 1 = .ok (.invokevirtual 24, 3) := by decide +kernel
theorem dX4_most_4 : decode cX4_most 4 = .ok (.istore_n 1, 1) := by decide +kernel
theorem dX4_most_5 : decode cX4_most 5 = .ok (.aload_n 0, 1) := by decide +kernel
theorem dX4_most_6 : decode cX4_most 6 = .ok (.getfield 15, 3) := by decide +kernel
theorem dX4_most_9 : decode cX4_most 9 = .ok (.iconst 0, 1) := by decide +kernel
theorem dX4_most_10 : decode cX4_most 10 = .ok (.iconst 0, 1) := by decide +kernel
theorem dX4_most_11 : decode cX4_most 11 = .ok (.iastore, 1) := by decide +kernel
theorem dX4_most_12 : decode cX4_most 12 = .ok (.iconst 0, 1) := by decide +kernel
theorem dX4_most_13 : decode cX4_most 13 = .ok (.istore_n 2, 1) := by decide +kernel
theorem dX4_most_14 : decode cX4_most 14 = .ok (.iload_n 2, 1) := by decide +kernel
theorem dX4_most_15 : decode cX4_most 15 = .ok (.iload_n 1, 1) := by decide +kernel
theorem dX4_most_16 : decode cX4_most 16 = .ok (.if_icmp .ge 39, 3) := by decide +kernel
theorem dX4_most_19 : decode cX4_most 19 = .ok (.iconst 0, 1) := by decide +kernel
theorem dX4_most_20 : decode cX4_most 20 = .ok (.istore_n 3, 1) := by decide +kernel
theorem dX4_most_21 : decode cX4_most 21 = .ok (.iload_n 3, 1) := by decide +kernel
theorem dX4_most_22 : decode cX4_most 22 = .ok (.iconst 1, 1) := by decide +kernel
theorem dX4_most_23 : decode cX4_most 23 = .ok (.iload_n 2, 1) := by decide +kernel
theorem dX4_most_24 : decode cX4_most 24 = .ok (.ishl, 1) := by decide +kernel
theorem dX4_most_25 : decode cX4_most 25 = .ok (.if_icmp .ge 24, 3) := by decide +kernel
theorem dX4_most_28 : decode cX4_most 28 = .ok (.aload_n 0, 1) := by decide +kernel
theorem dX4_most_29 : decode cX4_most 29 = .ok (.iconst 1, 1) := by decide +kernel
theorem dX4_most_30 : decode cX4_most 30 = .ok (.iload_n 2, 1) := by decide +kernel
theorem dX4_most_31 : decode cX4_most 31 = .ok (.ishl, 1) := by decide +kernel
theorem dX4_most_32 : decode cX4_most 32 = .ok (.iload_n 3, 1) := by decide +kernel
theorem dX4_most_33 : decode cX4_most 33 = .ok (.ior, 1) := by decide +kernel
theorem dX4_most_34 : decode cX4_most 34 = .ok (.aload_n 0, 1) := by decide +kernel
theorem dX4_most_35 : decode cX4_most 35 = .ok (.iload_n 2, 1) := by decide +kernel
theorem dX4_most_36 : decode cX4_most 36 = .ok (.iload_n 3, 1) := by decide +kernel
theorem dX4_most_37 : decode cX4_most 37 = .ok (.invokevirtual 28, 3) := by decide +kernel
theorem dX4_most_40 : decode cX4_most 40 = .ok (.invokevirtual 32, 3) := by decide +kernel
theorem dX4_most_43 : decode cX4_most 43 = .ok (.iinc 3 1, 3) := by decide +kernel
theorem dX4_most_46 : decode cX4_most 46 = .ok (.goto (-25), 3) := by decide +kernel
theorem dX4_most_49 : decode cX4_most 49 = .ok (.iinc 2 1, 3) := by decide +kernel
theorem dX4_most_52 : decode cX4_most 52 = .ok (.goto (-38), 3) := by decide +kernel
theorem dX4_most_55 : decode cX4_most 55 = .ok (.aload_n 0, 1) := by decide +kernel
theorem dX4_most_56 : decode cX4_most 56 = .ok (.iconst 1, 1) := by decide +kernel
theorem dX4_most_57 : decode cX4_most 57 = .ok (.iload_n 1, 1) := by decide +kernel
theorem dX4_most_58 : decode cX4_most 58 = .ok (.ishl, 1) := by decide +kernel
theorem dX4_most_59 : decode cX4_most 59 = .ok (.iconst 1, 1) := by decide +kernel
theorem dX4_most_60 : decode cX4_most 60 = .ok (.isub, 1) := by decide +kernel
theorem dX4_most_61 : decode cX4_most 61 = .ok (.invokevirtual 36, 3) := by decide +kernel
theorem dX4_most_64 : decode cX4_most 64 = .ok (.ireturn, 1) := by decide +kernel
theorem dX4_squeeze_0 : decode cX4_squeeze 0 = .ok (.iconst 0, 1) := by decide +kernel
theorem dX4_squeeze_1 : decode cX4_squeeze 1 = .ok (.istore_n 1, 1) := by decide +kernel
theorem dX4_squeeze_2 : decode cX4_squeeze 2 = .ok (.iconst 0, 1) := by decide +kernel
theorem dX4_squeeze_3 : decode cX4_squeeze 3 = .ok (.istore_n 2, 1) := by decide +kernel
theorem dX4_squeeze_4 : decode cX4_squeeze 4 = .ok (.iload_n 2, 1) := by decide +kernel
theorem dX4_squeeze_5 : decode cX4_squeeze 5 = .ok (.bipush 14, 2) := by decide +kernel
theorem dX4_squeeze_7 : decode cX4_squeeze 7 = .ok (.if_icmp .ge 27, 3) := by decide +kernel
theorem dX4_squeeze_10 : decode cX4_squeeze 10 = .ok (.aload_n 0, 1) := by decide +kernel
theorem dX4_squeeze_11 : decode cX4_squeeze 11 = .ok (.getfield 9, 3) := by decide +kernel
theorem dX4_squeeze_14 : decode cX4_squeeze 14 = .ok (.iload_n 2, 1) := by decide +kernel
theorem dX4_squeeze_15 : decode cX4_squeeze 15 = .ok (.iaload, 1) := by decide +kernel
theorem dX4_squeeze_16 : decode cX4_squeeze 16 = .ok (.ifCond .eq 12, 3) := by decide +kernel
theorem dX4_squeeze_19 : decode cX4_squeeze 19 = .ok (.aload_n 0, 1) := by decide +kernel
theorem dX4_squeeze_20 : decode cX4_squeeze 20 = .ok (.iload_n 2, 1) := by decide +kernel
theorem dX4_squeeze_21 : decode cX4_squeeze 21 = .ok (.iload_n 1, 1) := by decide +kernel
theorem dX4_squeeze_22 : decode cX4_squeeze 22 = .ok (.invokevirtual 40, 3) := by decide +kernel
theorem dX4_squeeze_25 : decode cX4_squeeze 25 = .ok (.iinc 1 1, 3) := by decide +kernel
theorem dX4_squeeze_28 : decode cX4_squeeze 28 = .ok (.iinc 2 1, 3) := by decide +kernel
theorem dX4_squeeze_31 : decode cX4_squeeze 31 = .ok (.goto (-27), 3) := by decide +kernel
theorem dX4_squeeze_34 : decode cX4_squeeze 34 = .ok (.iload_n 1, 1) := by decide +kernel
theorem dX4_squeeze_35 : decode cX4_squeeze 35 = .ok (.ireturn, 1) := by decide +kernel
theorem dX4_rename_0 : decode cX4_rename 0 = .ok (.iload_n 1, 1) := by decide +kernel
theorem dX4_rename_1 : decode cX4_rename 1 = .ok (.iload_n 2, 1) := by decide +kernel
theorem dX4_rename_2 : decode cX4_rename 2 = .ok (.if_icmp .ne 4, 3) := by decide +kernel
theorem dX4_rename_5 : decode cX4_rename 5 = .ok (.return_, 1) := by decide +kernel
theorem dX4_rename_6 : decode cX4_rename 6 = .ok (.aload_n 0, 1) := by decide +kernel
theorem dX4_rename_7 : decode cX4_rename 7 = .ok (.getfield 9, 3) := by decide +kernel
theorem dX4_rename_10 : decode cX4_rename 10 = .ok (.iload_n 2, 1) := by decide +kernel
theorem dX4_rename_11 : decode cX4_rename 11 = .ok (.aload_n 0, 1) := by decide +kernel
theorem dX4_rename_12 : decode cX4_rename 12 = .ok (.getfield 9, 3) := by decide +kernel
theorem dX4_rename_15 : decode cX4_rename 15 = .ok (.iload_n 1, 1) := by decide +kernel
theorem dX4_rename_16 : decode cX4_rename 16 = .ok (.iaload, 1) := by decide +kernel
theorem dX4_rename_17 : decode cX4_rename 17 = .ok (.iastore, 1) := by decide +kernel
theorem dX4_rename_18 : decode cX4_rename 18 = .ok (.aload_n 0, 1) := by decide +kernel
theorem dX4_rename_19 : decode cX4_rename 19 = .ok (.getfield 9, 3) := by decide +kernel
theorem dX4_rename_22 : decode cX4_rename 22 = .ok (.iload_n 1, 1) := by decide +kernel
theorem dX4_rename_23 : decode cX4_rename 23 = .ok (.iconst 0, 1) := by decide +kernel
theorem dX4_rename_24 : decode cX4_rename 24 = .ok (.iastore, 1) := by decide +kernel
theorem dX4_rename_25 : decode cX4_rename 25 = .ok (.iconst 0, 1) := by decide +kernel
theorem dX4_rename_26 : decode cX4_rename 26 = .ok (.istore_n 3, 1) := by decide +kernel
theorem dX4_rename_27 : decode cX4_rename 27 = .ok (.iload_n 3, 1) := by decide +kernel
theorem dX4_rename_28 : decode cX4_rename 28 = .ok (.bipush 14, 2) := by decide +kernel
theorem dX4_rename_30 : decode cX4_rename 30 = .ok (.if_icmp .ge 44, 3) := by decide +kernel
theorem dX4_rename_33 : decode cX4_rename 33 = .ok (.aload_n 0, 1) := by decide +kernel
theorem dX4_rename_34 : decode cX4_rename 34 = .ok (.getfield 9, 3) := by decide +kernel
theorem dX4_rename_37 : decode cX4_rename 37 = .ok (.iload_n 3, 1) := by decide +kernel
theorem dX4_rename_38 : decode cX4_rename 38 = .ok (.iaload, 1) := by decide +kernel
theorem dX4_rename_39 : decode cX4_rename 39 = .ok (.iload_n 1, 1) := by decide +kernel
theorem dX4_rename_40 : decode cX4_rename 40 = .ok (.ishr, 1) := by decide +kernel
theorem dX4_rename_41 : decode cX4_rename 41 = .ok (.iconst 1, 1) := by decide +kernel
theorem dX4_rename_42 : decode cX4_rename 42 = .ok (.iand, 1) := by decide +kernel
theorem dX4_rename_43 : decode cX4_rename 43 = .ok (.ifCond .eq 25, 3) := by decide +kernel
theorem dX4_rename_46 : decode cX4_rename 46 = .ok (.aload_n 0, 1) := by decide +kernel
theorem dX4_rename_47 : decode cX4_rename 47 = .ok (.getfield 9, 3) := by decide +kernel
theorem dX4_rename_50 : decode cX4_rename 50 = .ok (.iload_n 3, 1) := by decide +kernel
theorem dX4_rename_51 : decode cX4_rename 51 = .ok (.aload_n 0, 1) := by decide +kernel
theorem dX4_rename_52 : decode cX4_rename 52 = .ok (.getfield 9, 3) := by decide +kernel
theorem dX4_rename_55 : decode cX4_rename 55 = .ok (.iload_n 3, 1) := by decide +kernel
theorem dX4_rename_56 : decode cX4_rename 56 = .ok (.iaload, 1) := by decide +kernel
theorem dX4_rename_57 : decode cX4_rename 57 = .ok (.iconst 1, 1) := by decide +kernel
theorem dX4_rename_58 : decode cX4_rename 58 = .ok (.iload_n 1, 1) := by decide +kernel
theorem dX4_rename_59 : decode cX4_rename 59 = .ok (.ishl, 1) := by decide +kernel
theorem dX4_rename_60 : decode cX4_rename 60 = .ok (.iconst (-1), 1) := by decide +kernel
theorem dX4_rename_61 : decode cX4_rename 61 = .ok (.ixor, 1) := by decide +kernel
theorem dX4_rename_62 : decode cX4_rename 62 = .ok (.iand, 1) := by decide +kernel
theorem dX4_rename_63 : decode cX4_rename 63 = .ok (.iconst 1, 1) := by decide +kernel
theorem dX4_rename_64 : decode cX4_rename 64 = .ok (.iload_n 2, 1) := by decide +kernel
theorem dX4_rename_65 : decode cX4_rename 65 = .ok (.ishl, 1) := by decide +kernel
theorem dX4_rename_66 : decode cX4_rename 66 = .ok (.ior, 1) := by decide +kernel
theorem dX4_rename_67 : decode cX4_rename 67 = .ok (.iastore, 1) := by decide +kernel
theorem dX4_rename_68 : decode cX4_rename 68 = .ok (.iinc 3 1, 3) := by decide +kernel
theorem dX4_rename_71 : decode cX4_rename 71 = .ok (.goto (-44), 3) := by decide +kernel
theorem dX4_rename_74 : decode cX4_rename 74 = .ok (.return_, 1) := by decide +kernel
theorem dX4_bestWith_0 : decode cX4_bestWith 0 = .ok (.aload_n 0, 1) := by decide +kernel
theorem dX4_bestWith_1 : decode cX4_bestWith 1 = .ok (.iload_n 2, 1) := by decide +kernel
theorem dX4_bestWith_2 : decode cX4_bestWith 2 = .ok (.invokevirtual 36, 3) := by decide +kernel
theorem dX4_bestWith_5 : decode cX4_bestWith 5 = .ok (.istore_n 3, 1) := by decide +kernel
theorem dX4_bestWith_6 : decode cX4_bestWith 6 = .ok (.aload_n 0, 1) := by decide +kernel
theorem dX4_bestWith_7 : decode cX4_bestWith 7 = .ok (.getfield 9, 3) := by decide +kernel
theorem dX4_bestWith_10 : decode cX4_bestWith 10 = .ok (.iload_n 1, 1) := by decide +kernel
theorem dX4_bestWith_11 : decode cX4_bestWith 11 = .ok (.iaload, 1) := by decide +kernel
theorem dX4_bestWith_12 : decode cX4_bestWith 12 = .ok (.iload_n 2, 1) := by decide +kernel
theorem dX4_bestWith_13 : decode cX4_bestWith 13 = .ok (.iand, 1) := by decide +kernel
theorem dX4_bestWith_14 : decode cX4_bestWith 14 = .ok (.istore 4, 2) := by decide +kernel
theorem dX4_bestWith_16 : decode cX4_bestWith 16 = .ok (.iconst 0, 1) := by decide +kernel
theorem dX4_bestWith_17 : decode cX4_bestWith 17 = .ok (.istore 5, 2) := by decide +kernel
theorem dX4_bestWith_19 : decode cX4_bestWith 19 = .ok (.iload 5, 2) := by decide +kernel
theorem dX4_bestWith_21 : decode cX4_bestWith 21 = .ok (.iload_n 1, 1) := by decide +kernel
theorem dX4_bestWith_22 : decode cX4_bestWith 22 = .ok (.if_icmp .ge 38, 3) := by decide +kernel
theorem dX4_bestWith_25 : decode cX4_bestWith 25 = .ok (.iload 4, 2) := by decide +kernel
theorem dX4_bestWith_27 : decode cX4_bestWith 27 = .ok (.iload 5, 2) := by decide +kernel
theorem dX4_bestWith_29 : decode cX4_bestWith 29 = .ok (.ishr, 1) := by decide +kernel
theorem dX4_bestWith_30 : decode cX4_bestWith 30 = .ok (.iconst 1, 1) := by decide +kernel
theorem dX4_bestWith_31 : decode cX4_bestWith 31 = .ok (.iand, 1) := by decide +kernel
theorem dX4_bestWith_32 : decode cX4_bestWith 32 = .ok (.ifCond .eq 22, 3) := by decide +kernel
theorem dX4_bestWith_35 : decode cX4_bestWith 35 = .ok (.iload_n 3, 1) := by decide +kernel
theorem dX4_bestWith_36 : decode cX4_bestWith 36 = .ok (.iconst 1, 1) := by decide +kernel
theorem dX4_bestWith_37 : decode cX4_bestWith 37 = .ok (.aload_n 0, 1) := by decide +kernel
theorem dX4_bestWith_38 : decode cX4_bestWith 38 = .ok (.iload_n 2, 1) := by decide +kernel
theorem dX4_bestWith_39 : decode cX4_bestWith 39 = .ok (.iconst 1, 1) := by decide +kernel
theorem dX4_bestWith_40 : decode cX4_bestWith 40 = .ok (.iload 5, 2) := by decide +kernel
theorem dX4_bestWith_42 : decode cX4_bestWith 42 = .ok (.ishl, 1) := by decide +kernel
theorem dX4_bestWith_43 : decode cX4_bestWith 43 = .ok (.iconst (-1), 1) := by decide +kernel
theorem dX4_bestWith_44 : decode cX4_bestWith 44 = .ok (.ixor, 1) := by decide +kernel
theorem dX4_bestWith_45 : decode cX4_bestWith 45 = .ok (.iand, 1) := by decide +kernel
theorem dX4_bestWith_46 : decode cX4_bestWith 46 = .ok (.invokevirtual 36, 3) := by decide +kernel
theorem dX4_bestWith_49 : decode cX4_bestWith 49 = .ok (.iadd, 1) := by decide +kernel
theorem dX4_bestWith_50 : decode cX4_bestWith 50 = .ok (.invokestatic 43, 3) := by decide +kernel
theorem dX4_bestWith_53 : decode cX4_bestWith 53 = .ok (.istore_n 3, 1) := by decide +kernel
theorem dX4_bestWith_54 : decode cX4_bestWith 54 = .ok (.iinc 5 1, 3) := by decide +kernel
theorem dX4_bestWith_57 : decode cX4_bestWith 57 = .ok (.goto (-38), 3) := by decide +kernel
theorem dX4_bestWith_60 : decode cX4_bestWith 60 = .ok (.iload_n 3, 1) := by decide +kernel
theorem dX4_bestWith_61 : decode cX4_bestWith 61 = .ok (.ireturn, 1) := by decide +kernel
theorem dX4_bestOf_0 : decode cX4_bestOf 0 = .ok (.aload_n 0, 1) := by decide +kernel
theorem dX4_bestOf_1 : decode cX4_bestOf 1 = .ok (.getfield 15, 3) := by decide +kernel
theorem dX4_bestOf_4 : decode cX4_bestOf 4 = .ok (.iload_n 1, 1) := by decide +kernel
theorem dX4_bestOf_5 : decode cX4_bestOf 5 = .ok (.iconst 3, 1) := by decide +kernel
theorem dX4_bestOf_6 : decode cX4_bestOf 6 = .ok (.ishr, 1) := by decide +kernel
theorem dX4_bestOf_7 : decode cX4_bestOf 7 = .ok (.iaload, 1) := by decide +kernel
theorem dX4_bestOf_8 : decode cX4_bestOf 8 = .ok (.iload_n 1, 1) := by decide +kernel
theorem dX4_bestOf_9 : decode cX4_bestOf 9 = .ok (.bipush 7, 2) := by decide +kernel
theorem dX4_bestOf_11 : decode cX4_bestOf 11 = .ok (.iand, 1) := by decide +kernel
theorem dX4_bestOf_12 : decode cX4_bestOf 12 = .ok (.iconst 2, 1) := by decide +kernel
theorem dX4_bestOf_13 : decode cX4_bestOf 13 = .ok (.ishl, 1) := by decide +kernel
theorem dX4_bestOf_14 : decode cX4_bestOf 14 = .ok (.ishr, 1) := by decide +kernel
theorem dX4_bestOf_15 : decode cX4_bestOf 15 = .ok (.bipush 15, 2) := by decide +kernel
theorem dX4_bestOf_17 : decode cX4_bestOf 17 = .ok (.iand, 1) := by decide +kernel
theorem dX4_bestOf_18 : decode cX4_bestOf 18 = .ok (.ireturn, 1) := by decide +kernel
theorem dX4_put_0 : decode cX4_put 0 = .ok (.iload_n 1, 1) := by decide +kernel
theorem dX4_put_1 : decode cX4_put 1 = .ok (.bipush 7, 2) := by decide +kernel
theorem dX4_put_3 : decode cX4_put 3 = .ok (.iand, 1) := by decide +kernel
theorem dX4_put_4 : decode cX4_put 4 = .ok (.iconst 2, 1) := by decide +kernel
theorem dX4_put_5 : decode cX4_put 5 = .ok (.ishl, 1) := by decide +kernel
theorem dX4_put_6 : decode cX4_put 6 = .ok (.istore_n 3, 1) := by decide +kernel
theorem dX4_put_7 : decode cX4_put 7 = .ok (.aload_n 0, 1) := by decide +kernel
theorem dX4_put_8 : decode cX4_put 8 = .ok (.getfield 15, 3) := by decide +kernel
theorem dX4_put_11 : decode cX4_put 11 = .ok (.iload_n 1, 1) := by decide +kernel
theorem dX4_put_12 : decode cX4_put 12 = .ok (.iconst 3, 1) := by decide +kernel
theorem dX4_put_13 : decode cX4_put 13 = .ok (.ishr, 1) := by decide +kernel
theorem dX4_put_14 : decode cX4_put 14 = .ok (.aload_n 0, 1) := by decide +kernel
theorem dX4_put_15 : decode cX4_put 15 = .ok (.getfield 15, 3) := by decide +kernel
theorem dX4_put_18 : decode cX4_put 18 = .ok (.iload_n 1, 1) := by decide +kernel
theorem dX4_put_19 : decode cX4_put 19 = .ok (.iconst 3, 1) := by decide +kernel
theorem dX4_put_20 : decode cX4_put 20 = .ok (.ishr, 1) := by decide +kernel
theorem dX4_put_21 : decode cX4_put 21 = .ok (.iaload, 1) := by decide +kernel
theorem dX4_put_22 : decode cX4_put 22 = .ok (.bipush 15, 2) := by decide +kernel
theorem dX4_put_24 : decode cX4_put 24 = .ok (.iload_n 3, 1) := by decide +kernel
theorem dX4_put_25 : decode cX4_put 25 = .ok (.ishl, 1) := by decide +kernel
theorem dX4_put_26 : decode cX4_put 26 = .ok (.iconst (-1), 1) := by decide +kernel
theorem dX4_put_27 : decode cX4_put 27 = .ok (.ixor, 1) := by decide +kernel
theorem dX4_put_28 : decode cX4_put 28 = .ok (.iand, 1) := by decide +kernel
theorem dX4_put_29 : decode cX4_put 29 = .ok (.iload_n 2, 1) := by decide +kernel
theorem dX4_put_30 : decode cX4_put 30 = .ok (.iload_n 3, 1) := by decide +kernel
theorem dX4_put_31 : decode cX4_put 31 = .ok (.ishl, 1) := by decide +kernel
theorem dX4_put_32 : decode cX4_put 32 = .ok (.ior, 1) := by decide +kernel
theorem dX4_put_33 : decode cX4_put 33 = .ok (.iastore, 1) := by decide +kernel
theorem dX4_put_34 : decode cX4_put 34 = .ok (.return_, 1) := by decide +kernel
theorem dX5_init_0 : decode cX5_init 0 = .ok (.aload_n 0, 1) := by decide +kernel
theorem dX5_init_1 : decode cX5_init 1 = .ok (.invokespecial 3, 3) := by decide +kernel
theorem dX5_init_4 : decode cX5_init 4 = .ok (.aload_n 0, 1) := by decide +kernel
theorem dX5_init_5 : decode cX5_init 5 = .ok (.iconst 0, 1) := by decide +kernel
theorem dX5_init_6 : decode cX5_init 6 = .ok (.putfield 9, 3) := by decide +kernel
theorem dX5_init_9 : decode cX5_init 9 = .ok (.aload_n 0, 1) := by decide +kernel
theorem dX5_init_10 : decode cX5_init 10 = .ok (.iconst (-1), 1) := by decide +kernel
theorem dX5_init_11 : decode cX5_init 11 = .ok (.putfield 15, 3) := by decide +kernel
theorem dX5_init_14 : decode cX5_init 14 = .ok (.aload_n 0, 1) := by decide +kernel
theorem dX5_init_15 : decode cX5_init 15 = .ok (.iconst 0, 1) := by decide +kernel
theorem dX5_init_16 : decode cX5_init 16 = .ok (.putfield 18, 3) := by decide +kernel
theorem dX5_init_19 : decode cX5_init 19 = .ok (.aload_n 0, 1) := by decide +kernel
theorem dX5_init_20 : decode cX5_init 20 = .ok (.iconst 0, 1) := by decide +kernel
theorem dX5_init_21 : decode cX5_init 21 = .ok (.putfield 21, 3) := by decide +kernel
theorem dX5_init_24 : decode cX5_init 24 = .ok (.aload_n 0, 1) := by decide +kernel
theorem dX5_init_25 : decode cX5_init 25 = .ok (.iconst (-1), 1) := by decide +kernel
theorem dX5_init_26 : decode cX5_init 26 = .ok (.putfield 24, 3) := by decide +kernel
theorem dX5_init_29 : decode cX5_init 29 = .ok (.aload_n 0, 1) := by decide +kernel
theorem dX5_init_30 : decode cX5_init 30 = .ok (.bipush 14, 2) := by decide +kernel
theorem dX5_init_32 : decode cX5_init 32 = .ok (.newarray .long, 2) := by decide +kernel
theorem dX5_init_34 : decode cX5_init 34 = .ok (.putfield 27, 3) := by decide +kernel
theorem dX5_init_37 : decode cX5_init 37 = .ok (.aload_n 0, 1) := by decide +kernel
theorem dX5_init_38 : decode cX5_init 38 = .ok (.iconst 5, 1) := by decide +kernel
theorem dX5_init_39 : decode cX5_init 39 = .ok (.newarray .long, 2) := by decide +kernel
theorem dX5_init_41 : decode cX5_init 41 = .ok (.putfield 31, 3) := by decide +kernel
theorem dX5_init_44 : decode cX5_init 44 = .ok (.aload_n 0, 1) := by decide +kernel
theorem dX5_init_45 : decode cX5_init 45 = .ok (.aload_n 1, 1) := by decide +kernel
theorem dX5_init_46 : decode cX5_init 46 = .ok (.putfield 34, 3) := by decide +kernel
theorem dX5_init_49 : decode cX5_init 49 = .ok (.aload_n 0, 1) := by decide +kernel
theorem dX5_init_50 : decode cX5_init 50 = .ok (.aload_n 2, 1) := by decide +kernel
theorem dX5_init_51 : decode cX5_init 51 = .ok (.putfield 38, 3) := by decide +kernel
theorem dX5_init_54 : decode cX5_init 54 = .ok (.return_, 1) := by decide +kernel
theorem dX5_tellAll_0 : decode cX5_tellAll 0 = .ok (.aload_n 0, 1) := by decide +kernel
theorem dX5_tellAll_1 : decode cX5_tellAll 1 = .ok (.aload_n 1, 1) := by decide +kernel
theorem dX5_tellAll_2 : decode cX5_tellAll 2 = .ok (.putfield 38, 3) := by decide +kernel
theorem dX5_tellAll_5 : decode cX5_tellAll 5 = .ok (.aload_n 0, 1) := by decide +kernel
theorem dX5_tellAll_6 : decode cX5_tellAll 6 = .ok (.iconst 0, 1) := by decide +kernel
theorem dX5_tellAll_7 : decode cX5_tellAll 7 = .ok (.putfield 18, 3) := by decide +kernel
theorem dX5_tellAll_10 : decode cX5_tellAll 10 = .ok (.aload_n 0, 1) := by decide +kernel
theorem dX5_tellAll_11 : decode cX5_tellAll 11 = .ok (.iconst 0, 1) := by decide +kernel
theorem dX5_tellAll_12 : decode cX5_tellAll 12 = .ok (.putfield 9, 3) := by decide +kernel
theorem dX5_tellAll_15 : decode cX5_tellAll 15 = .ok (.aload_n 0, 1) := by decide +kernel
theorem dX5_tellAll_16 : decode cX5_tellAll 16 = .ok (.iconst (-1), 1) := by decide +kernel
theorem dX5_tellAll_17 : decode cX5_tellAll 17 = .ok (.putfield 15, 3) := by decide +kernel
theorem dX5_tellAll_20 : decode cX5_tellAll 20 = .ok (.aload_n 0, 1) := by decide +kernel
theorem dX5_tellAll_21 : decode cX5_tellAll 21 = .ok (.iconst 0, 1) := by decide +kernel
theorem dX5_tellAll_22 : decode cX5_tellAll 22 = .ok (.putfield 21, 3) := by decide +kernel
theorem dX5_tellAll_25 : decode cX5_tellAll 25 = .ok (.aload_n 0, 1) := by decide +kernel
theorem dX5_tellAll_26 : decode cX5_tellAll 26 = .ok (.iconst (-1), 1) := by decide +kernel
theorem dX5_tellAll_27 : decode cX5_tellAll 27 = .ok (.putfield 24, 3) := by decide +kernel
theorem dX5_tellAll_30 : decode cX5_tellAll 30 = .ok (.iconst 0, 1) := by decide +kernel
theorem dX5_tellAll_31 : decode cX5_tellAll 31 = .ok (.istore_n 2, 1) := by decide +kernel
theorem dX5_tellAll_32 : decode cX5_tellAll 32 = .ok (.iload_n 2, 1) := by decide +kernel
theorem dX5_tellAll_33 : decode cX5_tellAll 33 = .ok (.sipush 400, 3) := by decide +kernel
theorem dX5_tellAll_36 : decode cX5_tellAll 36 = .ok (.if_icmp .gt 130, 3) := by decide +kernel
theorem dX5_tellAll_39 : decode cX5_tellAll 39 = .ok (.aload_n 0, 1) := by decide +kernel
theorem dX5_tellAll_40 : decode cX5_tellAll 40 = .ok (.getfield 9, 3) := by decide +kernel
theorem dX5_tellAll_43 : decode cX5_tellAll 43 = .ok (.ifCond .ne 123, 3) := by decide +kernel
theorem dX5_tellAll_46 : decode cX5_tellAll 46 = .ok (.aload_n 0, 1) := by decide +kernel
theorem dX5_tellAll_47 : decode cX5_tellAll 47 = .ok (.invokevirtual 42, 3) := by decide +kernel
theorem dX5_tellAll_50 : decode cX5_tellAll 50 = .ok (.istore_n 3, 1) := by decide +kernel
theorem dX5_tellAll_51 : decode cX5_tellAll 51 = .ok (.iload_n 3, 1) := by decide +kernel
theorem dX5_tellAll_52 : decode cX5_tellAll 52 = .ok (.ifCond .ne 6, 3) := by decide +kernel
theorem dX5_tellAll_55 : decode cX5_tellAll 55 = .ok (.goto 111, 3) := by decide +kernel
theorem dX5_tellAll_58 : decode cX5_tellAll 58 = .ok (.iload_n 3, 1) := by decide +kernel
theorem dX5_tellAll_59 : decode cX5_tellAll 59 = .ok (.tableswitch 96 16 23 #[45, 53, 61, 68, 75, 96, 82, 89], 45) := by decide +kernel
theorem dX5_tellAll_104 : decode cX5_tellAll 104 = .ok (.aload_n 0, 1) := by decide +kernel
theorem dX5_tellAll_105 : decode cX5_tellAll 105 = .ok (.iload_n 3, 1) := by decide +kernel
theorem dX5_tellAll_106 : decode cX5_tellAll 106 = .ok (.invokevirtual 46, 3) := by decide +kernel
theorem dX5_tellAll_109 : decode cX5_tellAll 109 = .ok (.goto 51, 3) := by decide +kernel
theorem dX5_tellAll_112 : decode cX5_tellAll 112 = .ok (.aload_n 0, 1) := by decide +kernel
theorem dX5_tellAll_113 : decode cX5_tellAll 113 = .ok (.iload_n 3, 1) := by decide +kernel
theorem dX5_tellAll_114 : decode cX5_tellAll 114 = .ok (.invokevirtual 46, 3) := by decide +kernel
theorem dX5_tellAll_117 : decode cX5_tellAll 117 = .ok (.goto 43, 3) := by decide +kernel
theorem dX5_tellAll_120 : decode cX5_tellAll 120 = .ok (.aload_n 0, 1) := by decide +kernel
theorem dX5_tellAll_121 : decode cX5_tellAll 121 = .ok (.invokevirtual 50, 3) := by decide +kernel
theorem dX5_tellAll_124 : decode cX5_tellAll 124 = .ok (.goto 36, 3) := by decide +kernel
theorem dX5_tellAll_127 : decode cX5_tellAll 127 = .ok (.aload_n 0, 1) := by decide +kernel
theorem dX5_tellAll_128 : decode cX5_tellAll 128 = .ok (.invokevirtual 53, 3) := by decide +kernel
theorem dX5_tellAll_131 : decode cX5_tellAll 131 = .ok (.goto 29, 3) := by decide +kernel
theorem dX5_tellAll_134 : decode cX5_tellAll 134 = .ok (.aload_n 0, 1) := by decide +kernel
theorem dX5_tellAll_135 : decode cX5_tellAll 135 = .ok (.invokevirtual 56, 3) := by decide +kernel
theorem dX5_tellAll_138 : decode cX5_tellAll 138 = .ok (.goto 22, 3) := by decide +kernel
theorem dX5_tellAll_141 : decode cX5_tellAll 141 = .ok (.aload_n 0, 1) := by decide +kernel
theorem dX5_tellAll_142 : decode cX5_tellAll 142 = .ok (.invokevirtual 59, 3) := by decide +kernel
theorem dX5_tellAll_145 : decode cX5_tellAll 145 = .ok (.goto 15, 3) := by decide +kernel
theorem dX5_tellAll_148 : decode cX5_tellAll 148 = .ok (.aload_n 0, 1) := by decide +kernel
theorem dX5_tellAll_149 : decode cX5_tellAll 149 = .ok (.invokevirtual 62, 3) := by decide +kernel
theorem dX5_tellAll_152 : decode cX5_tellAll 152 = .ok (.goto 8, 3) := by decide +kernel
theorem dX5_tellAll_155 : decode cX5_tellAll 155 = .ok (.aload_n 0, 1) := by decide +kernel
theorem dX5_tellAll_156 : decode cX5_tellAll 156 = .ok (.iconst 1, 1) := by decide +kernel
theorem dX5_tellAll_157 : decode cX5_tellAll 157 = .ok (.invokevirtual 65, 3) := by decide +kernel
theorem dX5_tellAll_160 : decode cX5_tellAll 160 = .ok (.iinc 2 1, 3) := by decide +kernel
theorem dX5_tellAll_163 : decode cX5_tellAll 163 = .ok (.goto (-131), 3) := by decide +kernel
theorem dX5_tellAll_166 : decode cX5_tellAll 166 = .ok (.aload_n 0, 1) := by decide +kernel
theorem dX5_tellAll_167 : decode cX5_tellAll 167 = .ok (.getfield 9, 3) := by decide +kernel
theorem dX5_tellAll_170 : decode cX5_tellAll 170 = .ok (.ifCond .ne 19, 3) := by decide +kernel
theorem dX5_tellAll_173 : decode cX5_tellAll 173 = .ok (.aload_n 0, 1) := by decide +kernel
theorem dX5_tellAll_174 : decode cX5_tellAll 174 = .ok (.aload_n 0, 1) := by decide +kernel
theorem dX5_tellAll_175 : decode cX5_tellAll 175 = .ok (.getfield 21, 3) := by decide +kernel
theorem dX5_tellAll_178 : decode cX5_tellAll 178 = .ok (.putfield 9, 3) := by decide +kernel
theorem dX5_tellAll_181 : decode cX5_tellAll 181 = .ok (.aload_n 0, 1) := by decide +kernel
theorem dX5_tellAll_182 : decode cX5_tellAll 182 = .ok (.aload_n 0, 1) := by decide +kernel
theorem dX5_tellAll_183 : decode cX5_tellAll 183 = .ok (.getfield 24, 3) := by decide +kernel
theorem dX5_tellAll_186 : decode cX5_tellAll 186 = .ok (.putfield 15, 3) := by decide +kernel
theorem dX5_tellAll_189 : decode cX5_tellAll 189 = .ok (.return_, 1) := by decide +kernel
theorem dX5_kindHere_0 : decode cX5_kindHere 0 = .ok (.aload_n 0, 1) := by decide +kernel
theorem dX5_kindHere_1 : decode cX5_kindHere 1 = .ok (.getfield 18, 3) := by decide +kernel
theorem dX5_kindHere_4 : decode cX5_kindHere 4 = .ok (.sipush 400, 3) := by decide +kernel
theorem dX5_kindHere_7 : decode cX5_kindHere 7 = .ok (.if_icmp .gt 18, 3) := by decide +kernel
theorem dX5_kindHere_10 : decode cX5_kindHere 10 = .ok (.aload_n 0, 1) := by decide +kernel
theorem dX5_kindHere_11 : decode cX5_kindHere 11 = .ok (.getfield 34, 3) := by decide +kernel
theorem dX5_kindHere_14 : decode cX5_kindHere 14 = .ok (.getfield 68, 3) := by decide +kernel
theorem dX5_kindHere_17 : decode cX5_kindHere 17 = .ok (.aload_n 0, 1) := by decide +kernel
theorem dX5_kindHere_18 : decode cX5_kindHere 18 = .ok (.getfield 18, 3) := by decide +kernel
theorem dX5_kindHere_21 : decode cX5_kindHere 21 = .ok (.iaload, 1) := by decide +kernel
theorem dX5_kindHere_22 : decode cX5_kindHere 22 = .ok (.goto 4, 3) := by decide +kernel
theorem dX5_kindHere_25 : decode cX5_kindHere 25 = .ok (.iconst 0, 1) := by decide +kernel
theorem dX5_kindHere_26 : decode cX5_kindHere 26 = .ok (.ireturn, 1) := by decide +kernel
theorem dX5_stop_0 : decode cX5_stop 0 = .ok (.aload_n 0, 1) := by decide +kernel
theorem dX5_stop_1 : decode cX5_stop 1 = .ok (.getfield 9, 3) := by decide +kernel
theorem dX5_stop_4 : decode cX5_stop 4 = .ok (.ifCond .ne 34, 3) := by decide +kernel
theorem dX5_stop_7 : decode cX5_stop 7 = .ok (.aload_n 0, 1) := by decide +kernel
theorem dX5_stop_8 : decode cX5_stop 8 = .ok (.getfield 18, 3) := by decide +kernel
theorem dX5_stop_11 : decode cX5_stop 11 = .ok (.sipush 400, 3) := by decide +kernel
theorem dX5_stop_14 : decode cX5_stop 14 = .ok (.if_icmp .gt 24, 3) := by decide +kernel
theorem dX5_stop_17 : decode cX5_stop 17 = .ok (.aload_n 0, 1) := by decide +kernel
theorem dX5_stop_18 : decode cX5_stop 18 = .ok (.iload_n 1, 1) := by decide +kernel
theorem dX5_stop_19 : decode cX5_stop 19 = .ok (.putfield 9, 3) := by decide +kernel
theorem dX5_stop_22 : decode cX5_stop 22 = .ok (.aload_n 0, 1) := by decide +kernel
theorem dX5_stop_23 : decode cX5_stop 23 = .ok (.aload_n 0, 1) := by decide +kernel
theorem dX5_stop_24 : decode cX5_stop 24 = .ok (.getfield 34, 3) := by decide +kernel
theorem dX5_stop_27 : decode cX5_stop 27 = .ok (.getfield 74, 3) := by decide +kernel
theorem dX5_stop_30 : decode cX5_stop 30 = .ok (.aload_n 0, 1) := by decide +kernel
theorem dX5_stop_31 : decode cX5_stop 31 = .ok (.getfield 18, 3) := by decide +kernel
theorem dX5_stop_34 : decode cX5_stop 34 = .ok (.iaload, 1) := by decide +kernel
theorem dX5_stop_35 : decode cX5_stop 35 = .ok (.putfield 15, 3) := by decide +kernel
theorem dX5_stop_38 : decode cX5_stop 38 = .ok (.return_, 1) := by decide +kernel
theorem dX5_take_0 : decode cX5_take 0 = .ok (.aload_n 0, 1) := by decide +kernel
theorem dX5_take_1 : decode cX5_take 1 = .ok (.getfield 9, 3) := by decide +kernel
theorem dX5_take_4 : decode cX5_take 4 = .ok (.ifCond .ne 13, 3) := by decide +kernel
theorem dX5_take_7 : decode cX5_take 7 = .ok (.aload_n 0, 1) := by decide +kernel
theorem dX5_take_8 : decode cX5_take 8 = .ok (.getfield 18, 3) := by decide +kernel
theorem dX5_take_11 : decode cX5_take 11 = .ok (.sipush 400, 3) := by decide +kernel
theorem dX5_take_14 : decode cX5_take 14 = .ok (.if_icmp .le 5, 3) := by decide +kernel
theorem dX5_take_17 : decode cX5_take 17 = .ok (.iconst 0, 1) := by decide +kernel
theorem dX5_take_18 : decode cX5_take 18 = .ok (.ireturn, 1) := by decide +kernel
theorem dX5_take_19 : decode cX5_take 19 = .ok (.aload_n 0, 1) := by decide +kernel
theorem dX5_take_20 : decode cX5_take 20 = .ok (.getfield 34, 3) := by decide +kernel
theorem dX5_take_23 : decode cX5_take 23 = .ok (.getfield 68, 3) := by decide +kernel
theorem dX5_take_26 : decode cX5_take 26 = .ok (.aload_n 0, 1) := by decide +kernel
theorem dX5_take_27 : decode cX5_take 27 = .ok (.getfield 18, 3) := by decide +kernel
theorem dX5_take_30 : decode cX5_take 30 = .ok (.iaload, 1) := by decide +kernel
theorem dX5_take_31 : decode cX5_take 31 = .ok (.iload_n 1, 1) := by decide +kernel
theorem dX5_take_32 : decode cX5_take 32 = .ok (.if_icmp .ne 25, 3) := by decide +kernel
theorem dX5_take_35 : decode cX5_take 35 = .ok (.aload_n 0, 1) := by decide +kernel
theorem dX5_take_36 : decode cX5_take 36 = .ok (.getfield 18, 3) := by decide +kernel
theorem dX5_take_39 : decode cX5_take 39 = .ok (.sipush 400, 3) := by decide +kernel
theorem dX5_take_42 : decode cX5_take 42 = .ok (.if_icmp .ge 15, 3) := by decide +kernel
theorem dX5_take_45 : decode cX5_take 45 = .ok (.aload_n 0, 1) := by decide +kernel
theorem dX5_take_46 : decode cX5_take 46 = .ok (.dup, 1) := by decide +kernel
theorem dX5_take_47 : decode cX5_take 47 = .ok (.getfield 18, 3) := by decide +kernel
theorem dX5_take_50 : decode cX5_take 50 = .ok (.iconst 1, 1) := by decide +kernel
theorem dX5_take_51 : decode cX5_take 51 = .ok (.iadd, 1) := by decide +kernel
theorem dX5_take_52 : decode cX5_take 52 = .ok (.putfield 18, 3) := by decide +kernel
theorem dX5_take_55 : decode cX5_take 55 = .ok (.iconst 1, 1) := by decide +kernel
theorem dX5_take_56 : decode cX5_take 56 = .ok (.ireturn, 1) := by decide +kernel
theorem dX5_take_57 : decode cX5_take 57 = .ok (.aload_n 0, 1) := by decide +kernel
theorem dX5_take_58 : decode cX5_take 58 = .ok (.aload_n 0, 1) := by decide +kernel
theorem dX5_take_59 : decode cX5_take 59 = .ok (.getfield 34, 3) := by decide +kernel
theorem dX5_take_62 : decode cX5_take 62 = .ok (.getfield 68, 3) := by decide +kernel
theorem dX5_take_65 : decode cX5_take 65 = .ok (.aload_n 0, 1) := by decide +kernel
theorem dX5_take_66 : decode cX5_take 66 = .ok (.getfield 18, 3) := by decide +kernel
theorem dX5_take_69 : decode cX5_take 69 = .ok (.iaload, 1) := by decide +kernel
theorem dX5_take_70 : decode cX5_take 70 = .ok (.iload_n 1, 1) := by decide +kernel
theorem dX5_take_71 : decode cX5_take 71 = .ok (.if_icmp .ne 7, 3) := by decide +kernel
theorem dX5_take_74 : decode cX5_take 74 = .ok (.iconst 2, 1) := by decide +kernel
theorem dX5_take_75 : decode cX5_take 75 = .ok (.goto 4, 3) := by decide +kernel
theorem dX5_take_78 : decode cX5_take 78 = .ok (.iconst 1, 1) := by decide +kernel
theorem dX5_take_79 : decode cX5_take 79 = .ok (.putfield 9, 3) := by decide +kernel
theorem dX5_take_82 : decode cX5_take 82 = .ok (.aload_n 0, 1) := by decide +kernel
theorem dX5_take_83 : decode cX5_take 83 = .ok (.aload_n 0, 1) := by decide +kernel
theorem dX5_take_84 : decode cX5_take 84 = .ok (.getfield 34, 3) := by decide +kernel
theorem dX5_take_87 : decode cX5_take 87 = .ok (.getfield 74, 3) := by decide +kernel
theorem dX5_take_90 : decode cX5_take 90 = .ok (.aload_n 0, 1) := by decide +kernel
theorem dX5_take_91 : decode cX5_take 91 = .ok (.getfield 18, 3) := by decide +kernel
theorem dX5_take_94 : decode cX5_take 94 = .ok (.iaload, 1) := by decide +kernel
theorem dX5_take_95 : decode cX5_take 95 = .ok (.putfield 15, 3) := by decide +kernel
theorem dX5_take_98 : decode cX5_take 98 = .ok (.iconst 0, 1) := by decide +kernel
theorem dX5_take_99 : decode cX5_take 99 = .ok (.ireturn, 1) := by decide +kernel
theorem dX5_hasRoom_0 : decode cX5_hasRoom 0 = .ok (.iload_n 1, 1) := by decide +kernel
theorem dX5_hasRoom_1 : decode cX5_hasRoom 1 = .ok (.iload_n 2, 1) := by decide +kernel
theorem dX5_hasRoom_2 : decode cX5_hasRoom 2 = .ok (.if_icmp .lt 8, 3) := by decide +kernel
theorem dX5_hasRoom_5 : decode cX5_hasRoom 5 = .ok (.aload_n 0, 1) := by decide +kernel
theorem dX5_hasRoom_6 : decode cX5_hasRoom 6 = .ok (.iconst 2, 1) := by decide +kernel
theorem dX5_hasRoom_7 : decode cX5_hasRoom 7 = .ok (.invokevirtual 65, 3) := by decide +kernel
theorem dX5_hasRoom_10 : decode cX5_hasRoom 10 = .ok (.aload_n 0, 1) := by decide +kernel
theorem dX5_hasRoom_11 : decode cX5_hasRoom 11 = .ok (.getfield 9, 3) := by decide +kernel
theorem dX5_hasRoom_14 : decode cX5_hasRoom 14 = .ok (.ifCond .ne 7, 3) := by decide +kernel
theorem dX5_hasRoom_17 : decode cX5_hasRoom 17 = .ok (.iconst 1, 1) := by decide +kernel
theorem dX5_hasRoom_18 : decode cX5_hasRoom 18 = .ok (.goto 4, 3) := by decide +kernel
theorem dX5_hasRoom_21 : decode cX5_hasRoom 21 = .ok (.iconst 0, 1) := by decide +kernel
theorem dX5_hasRoom_22 : decode cX5_hasRoom 22 = .ok (.ireturn, 1) := by decide +kernel
theorem dX5_blame_0 : decode cX5_blame 0 = .ok (.aload_n 0, 1) := by decide +kernel
theorem dX5_blame_1 : decode cX5_blame 1 = .ok (.getfield 21, 3) := by decide +kernel
theorem dX5_blame_4 : decode cX5_blame 4 = .ok (.ifCond .ne 32, 3) := by decide +kernel
theorem dX5_blame_7 : decode cX5_blame 7 = .ok (.iload_n 2, 1) := by decide +kernel
theorem dX5_blame_8 : decode cX5_blame 8 = .ok (.ifCond .lt 28, 3) := by decide +kernel
theorem dX5_blame_11 : decode cX5_blame 11 = .ok (.iload_n 2, 1) := by decide +kernel
theorem dX5_blame_12 : decode cX5_blame 12 = .ok (.sipush 400, 3) := by decide +kernel
theorem dX5_blame_15 : decode cX5_blame 15 = .ok (.if_icmp .gt 21, 3) := by decide +kernel
theorem dX5_blame_18 : decode cX5_blame 18 = .ok (.aload_n 0, 1) := by decide +kernel
theorem dX5_blame_19 : decode cX5_blame 19 = .ok (.iload_n 1, 1) := by decide +kernel
theorem dX5_blame_20 : decode cX5_blame 20 = .ok (.putfield 21, 3) := by decide +kernel
theorem dX5_blame_23 : decode cX5_blame 23 = .ok (.aload_n 0, 1) := by decide +kernel
theorem dX5_blame_24 : decode cX5_blame 24 = .ok (.aload_n 0, 1) := by decide +kernel
theorem dX5_blame_25 : decode cX5_blame 25 = .ok (.getfield 34, 3) := by decide +kernel
theorem dX5_blame_28 : decode cX5_blame 28 = .ok (.getfield 74, 3) := by decide +kernel
theorem dX5_blame_31 : decode cX5_blame 31 = .ok (.iload_n 2, 1) := by decide +kernel
theorem dX5_blame_32 : decode cX5_blame 32 = .ok (.iaload, 1) := by decide +kernel
theorem dX5_blame_33 : decode cX5_blame 33 = .ok (.putfield 24, 3) := by decide +kernel
theorem dX5_blame_36 : decode cX5_blame 36 = .ok (.return_, 1) := by decide +kernel
theorem dX5_blameAbove_0 : decode cX5_blameAbove 0 = .ok (.aload_n 0, 1) := by decide +kernel
theorem dX5_blameAbove_1 : decode cX5_blameAbove 1 = .ok (.getfield 34, 3) := by decide +kernel
theorem dX5_blameAbove_4 : decode cX5_blameAbove 4 = .ok (.getfield 77, 3) := by decide +kernel
theorem dX5_blameAbove_7 : decode cX5_blameAbove 7 = .ok (.iload_n 2, 1) := by decide +kernel
theorem dX5_blameAbove_8 : decode cX5_blameAbove 8 = .ok (.iaload, 1) := by decide +kernel
theorem dX5_blameAbove_9 : decode cX5_blameAbove 9 = .ok (.iload_n 1, 1) := by decide +kernel
theorem dX5_blameAbove_10 : decode cX5_blameAbove 10 = .ok (.if_icmp .le 9, 3) := by decide +kernel
theorem dX5_blameAbove_13 : decode cX5_blameAbove 13 = .ok (.aload_n 0, 1) := by decide +kernel
theorem dX5_blameAbove_14 : decode cX5_blameAbove 14 = .ok (.iconst 5, 1) := by decide +kernel
theorem dX5_blameAbove_15 : decode cX5_blameAbove 15 = .ok (.iload_n 2, 1) := by decide +kernel
theorem dX5_blameAbove_16 : decode cX5_blameAbove 16 = .ok (.invokevirtual 80, 3) := by decide +kernel
theorem dX5_blameAbove_19 : decode cX5_blameAbove 19 = .ok (.return_, 1) := by decide +kernel
theorem dX5_thingNamed_0 : decode cX5_thingNamed 0 = .ok (.iconst 0, 1) := by decide +kernel
theorem dX5_thingNamed_1 : decode cX5_thingNamed 1 = .ok (.istore_n 3, 1) := by decide +kernel
theorem dX5_thingNamed_2 : decode cX5_thingNamed 2 = .ok (.iload_n 3, 1) := by decide +kernel
theorem dX5_thingNamed_3 : decode cX5_thingNamed 3 = .ok (.aload_n 0, 1) := by decide +kernel
theorem dX5_thingNamed_4 : decode cX5_thingNamed 4 = .ok (.getfield 38, 3) := by decide +kernel
theorem dX5_thingNamed_7 : decode cX5_thingNamed 7 = .ok (.getfield 84, 3) := by decide +kernel
theorem dX5_thingNamed_10 : decode cX5_thingNamed 10 = .ok (.if_icmp .ge 22, 3) := by decide +kernel
theorem dX5_thingNamed_13 : decode cX5_thingNamed 13 = .ok (.aload_n 0, 1) := by decide +kernel
theorem dX5_thingNamed_14 : decode cX5_thingNamed 14 = .ok (.getfield 27, 3) := by decide +kernel
theorem dX5_thingNamed_17 : decode cX5_thingNamed 17 = .ok (.iload_n 3, 1) := by decide +kernel
theorem dX5_thingNamed_18 : decode cX5_thingNamed 18 = .ok (.laload, 1) := by decide +kernel
theorem dX5_thingNamed_19 : decode cX5_thingNamed 19 = .ok (.lload_n 1, 1) := by decide +kernel
theorem dX5_thingNamed_20 : decode cX5_thingNamed 20 = .ok (.lcmp, 1) := by decide +kernel
theorem dX5_thingNamed_21 : decode cX5_thingNamed 21 = .ok (.ifCond .ne 5, 3) := by decide +kernel
theorem dX5_thingNamed_24 : decode cX5_thingNamed 24 = .ok (.iload_n 3, 1) := by decide +kernel
theorem dX5_thingNamed_25 : decode cX5_thingNamed 25 = .ok (.ireturn, 1) := by decide +kernel
theorem dX5_thingNamed_26 : decode cX5_thingNamed 26 = .ok (.iinc 3 1, 3) := by decide +kernel
theorem dX5_thingNamed_29 : decode cX5_thingNamed 29 = .ok (.goto (-27), 3) := by decide +kernel
theorem dX5_thingNamed_32 : decode cX5_thingNamed 32 = .ok (.iconst (-1), 1) := by decide +kernel
theorem dX5_thingNamed_33 : decode cX5_thingNamed 33 = .ok (.ireturn, 1) := by decide +kernel
theorem dX5_blameIfNamed_0 : decode cX5_blameIfNamed 0 = .ok (.aload_n 0, 1) := by decide +kernel
theorem dX5_blameIfNamed_1 : decode cX5_blameIfNamed 1 = .ok (.aload_n 0, 1) := by decide +kernel
theorem dX5_blameIfNamed_2 : decode cX5_blameIfNamed 2 = .ok (.getfield 34, 3) := by decide +kernel
theorem dX5_blameIfNamed_5 : decode cX5_blameIfNamed 5 = .ok (.getfield 89, 3) := by decide +kernel
theorem dX5_blameIfNamed_8 : decode cX5_blameIfNamed 8 = .ok (.iload_n 1, 1) := by decide +kernel
theorem dX5_blameIfNamed_9 : decode cX5_blameIfNamed 9 = .ok (.laload, 1) := by decide +kernel
theorem dX5_blameIfNamed_10 : decode cX5_blameIfNamed 10 = .ok (.invokevirtual 92, 3) := by decide +kernel
theorem dX5_blameIfNamed_13 : decode cX5_blameIfNamed 13 = .ok (.iconst (-1), 1) := by decide +kernel
theorem dX5_blameIfNamed_14 : decode cX5_blameIfNamed 14 = .ok (.if_icmp .eq 7, 3) := by decide +kernel
theorem dX5_blameIfNamed_17 : decode cX5_blameIfNamed 17 = .ok (.iconst 1, 1) := by decide +kernel
theorem dX5_blameIfNamed_18 : decode cX5_blameIfNamed 18 = .ok (.goto 4, 3) := by decide +kernel
theorem dX5_blameIfNamed_21 : decode cX5_blameIfNamed 21 = .ok (.iconst 0, 1) := by decide +kernel
theorem dX5_blameIfNamed_22 : decode cX5_blameIfNamed 22 = .ok (.istore_n 2, 1) := by decide +kernel
theorem dX5_blameIfNamed_23 : decode cX5_blameIfNamed 23 = .ok (.iconst 0, 1) := by decide +kernel
theorem dX5_blameIfNamed_24 : decode cX5_blameIfNamed 24 = .ok (.istore_n 3, 1) := by decide +kernel
theorem dX5_blameIfNamed_25 : decode cX5_blameIfNamed 25 = .ok (.iload_n 3, 1) := by decide +kernel
theorem dX5_blameIfNamed_26 : decode cX5_blameIfNamed 26 = .ok (.aload_n 0, 1) := by decide +kernel
theorem dX5_blameIfNamed_27 : decode cX5_blameIfNamed 27 = .ok (.getfield 38, 3) := by decide +kernel
theorem dX5_blameIfNamed_30 : decode cX5_blameIfNamed 30 = .ok (.getfield 96, 3) := by decide +kernel
theorem dX5_blameIfNamed_33 : decode cX5_blameIfNamed 33 = .ok (.if_icmp .ge 38, 3) := by decide +kernel
theorem dX5_blameIfNamed_36 : decode cX5_blameIfNamed 36 = .ok (.iload_n 2, 1) := by decide +kernel
theorem dX5_blameIfNamed_37 : decode cX5_blameIfNamed 37 = .ok (.ifCond .ne 22, 3) := by decide +kernel
theorem dX5_blameIfNamed_40 : decode cX5_blameIfNamed 40 = .ok (.aload_n 0, 1) := by decide +kernel
theorem dX5_blameIfNamed_41 : decode cX5_blameIfNamed 41 = .ok (.getfield 31, 3) := by decide +kernel
theorem dX5_blameIfNamed_44 : decode cX5_blameIfNamed 44 = .ok (.iload_n 3, 1) := by decide +kernel
theorem dX5_blameIfNamed_45 : decode cX5_blameIfNamed 45 = .ok (.laload, 1) := by decide +kernel
theorem dX5_blameIfNamed_46 : decode cX5_blameIfNamed 46 = .ok (.aload_n 0, 1) := by decide +kernel
theorem dX5_blameIfNamed_47 : decode cX5_blameIfNamed 47 = .ok (.getfield 34, 3) := by decide +kernel
theorem dX5_blameIfNamed_50 : decode cX5_blameIfNamed 50 = .ok (.getfield 89, 3) := by decide +kernel
theorem dX5_blameIfNamed_53 : decode cX5_blameIfNamed 53 = .ok (.iload_n 1, 1) := by decide +kernel
theorem dX5_blameIfNamed_54 : decode cX5_blameIfNamed 54 = .ok (.laload, 1) := by decide +kernel
theorem dX5_blameIfNamed_55 : decode cX5_blameIfNamed 55 = .ok (.lcmp, 1) := by decide +kernel
theorem dX5_blameIfNamed_56 : decode cX5_blameIfNamed 56 = .ok (.ifCond .ne 7, 3) := by decide +kernel
theorem dX5_blameIfNamed_59 : decode cX5_blameIfNamed 59 = .ok (.iconst 1, 1) := by decide +kernel
theorem dX5_blameIfNamed_60 : decode cX5_blameIfNamed 60 = .ok (.goto 4, 3) := by decide +kernel
theorem dX5_blameIfNamed_63 : decode cX5_blameIfNamed 63 = .ok (.iconst 0, 1) := by decide +kernel
theorem dX5_blameIfNamed_64 : decode cX5_blameIfNamed 64 = .ok (.istore_n 2, 1) := by decide +kernel
theorem dX5_blameIfNamed_65 : decode cX5_blameIfNamed 65 = .ok (.iinc 3 1, 3) := by decide +kernel
theorem dX5_blameIfNamed_68 : decode cX5_blameIfNamed 68 = .ok (.goto (-43), 3) := by decide +kernel
theorem dX5_blameIfNamed_71 : decode cX5_blameIfNamed 71 = .ok (.iload_n 2, 1) := by decide +kernel
theorem dX5_blameIfNamed_72 : decode cX5_blameIfNamed 72 = .ok (.ifCond .eq 9, 3) := by decide +kernel
theorem dX5_blameIfNamed_75 : decode cX5_blameIfNamed 75 = .ok (.aload_n 0, 1) := by decide +kernel
theorem dX5_blameIfNamed_76 : decode cX5_blameIfNamed 76 = .ok (.iconst 3, 1) := by decide +kernel
theorem dX5_blameIfNamed_77 : decode cX5_blameIfNamed 77 = .ok (.iload_n 1, 1) := by decide +kernel
theorem dX5_blameIfNamed_78 : decode cX5_blameIfNamed 78 = .ok (.invokevirtual 80, 3) := by decide +kernel
theorem dX5_blameIfNamed_81 : decode cX5_blameIfNamed 81 = .ok (.return_, 1) := by decide +kernel
theorem dX5_tellThing_0 : decode cX5_tellThing 0 = .ok (.aload_n 0, 1) := by decide +kernel
theorem dX5_tellThing_1 : decode cX5_tellThing 1 = .ok (.getfield 18, 3) := by decide +kernel
theorem dX5_tellThing_4 : decode cX5_tellThing 4 = .ok (.istore_n 2, 1) := by decide +kernel
theorem dX5_tellThing_5 : decode cX5_tellThing 5 = .ok (.aload_n 0, 1) := by decide +kernel
theorem dX5_tellThing_6 : decode cX5_tellThing 6 = .ok (.aload_n 0, 1) := by decide +kernel
theorem dX5_tellThing_7 : decode cX5_tellThing 7 = .ok (.getfield 38, 3) := by decide +kernel
theorem dX5_tellThing_10 : decode cX5_tellThing 10 = .ok (.getfield 84, 3) := by decide +kernel
theorem dX5_tellThing_13 : decode cX5_tellThing 13 = .ok (.bipush 14, 2) := by decide +kernel
theorem dX5_tellThing_15 : decode cX5_tellThing 15 = .ok (.invokevirtual 99, 3) := by decide +kernel
theorem dX5_tellThing_18 : decode cX5_tellThing 18 = .ok (.ifCond .ne 4, 3) := by decide +kernel
theorem dX5_tellThing_21 : decode cX5_tellThing 21 = .ok (.return_, 1) := by decide +kernel
theorem dX5_tellThing_22 : decode cX5_tellThing 22 = .ok (.aload_n 0, 1) := by decide +kernel
theorem dX5_tellThing_23 : decode cX5_tellThing 23 = .ok (.iload_n 1, 1) := by decide +kernel
theorem dX5_tellThing_24 : decode cX5_tellThing 24 = .ok (.invokevirtual 103, 3) := by decide +kernel
theorem dX5_tellThing_27 : decode cX5_tellThing 27 = .ok (.ifCond .eq 228, 3) := by decide +kernel
theorem dX5_tellThing_30 : decode cX5_tellThing 30 = .ok (.aload_n 0, 1) := by decide +kernel
theorem dX5_tellThing_31 : decode cX5_tellThing 31 = .ok (.iconst 2, 1) := by decide +kernel
theorem dX5_tellThing_32 : decode cX5_tellThing 32 = .ok (.invokevirtual 103, 3) := by decide +kernel
theorem dX5_tellThing_35 : decode cX5_tellThing 35 = .ok (.ifCond .eq 220, 3) := by decide +kernel
theorem dX5_tellThing_38 : decode cX5_tellThing 38 = .ok (.aload_n 0, 1) := by decide +kernel
theorem dX5_tellThing_39 : decode cX5_tellThing 39 = .ok (.iconst 3, 1) := by decide +kernel
theorem dX5_tellThing_40 : decode cX5_tellThing 40 = .ok (.invokevirtual 103, 3) := by decide +kernel
theorem dX5_tellThing_43 : decode cX5_tellThing 43 = .ok (.ifCond .eq 212, 3) := by decide +kernel
theorem dX5_tellThing_46 : decode cX5_tellThing 46 = .ok (.aload_n 0, 1) := by decide +kernel
theorem dX5_tellThing_47 : decode cX5_tellThing 47 = .ok (.iconst 3, 1) := by decide +kernel
theorem dX5_tellThing_48 : decode cX5_tellThing 48 = .ok (.invokevirtual 103, 3) := by decide +kernel
theorem dX5_tellThing_51 : decode cX5_tellThing 51 = .ok (.ifCond .eq 204, 3) := by decide +kernel
theorem dX5_tellThing_54 : decode cX5_tellThing 54 = .ok (.aload_n 0, 1) := by decide +kernel
theorem dX5_tellThing_55 : decode cX5_tellThing 55 = .ok (.iconst 3, 1) := by decide +kernel
theorem dX5_tellThing_56 : decode cX5_tellThing 56 = .ok (.invokevirtual 103, 3) := by decide +kernel
theorem dX5_tellThing_59 : decode cX5_tellThing 59 = .ok (.ifCond .eq 196, 3) := by decide +kernel
theorem dX5_tellThing_62 : decode cX5_tellThing 62 = .ok (.aload_n 0, 1) := by decide +kernel
theorem dX5_tellThing_63 : decode cX5_tellThing 63 = .ok (.iconst 4, 1) := by decide +kernel
theorem dX5_tellThing_64 : decode cX5_tellThing 64 = .ok (.invokevirtual 103, 3) := by decide +kernel
theorem dX5_tellThing_67 : decode cX5_tellThing 67 = .ok (.ifCond .eq 188, 3) := by decide +kernel
theorem dX5_tellThing_70 : decode cX5_tellThing 70 = .ok (.aload_n 0, 1) := by decide +kernel
theorem dX5_tellThing_71 : decode cX5_tellThing 71 = .ok (.iload_n 2, 1) := by decide +kernel
theorem dX5_tellThing_72 : decode cX5_tellThing 72 = .ok (.iconst 1, 1) := by decide +kernel
theorem dX5_tellThing_73 : decode cX5_tellThing 73 = .ok (.iadd, 1) := by decide +kernel
theorem dX5_tellThing_74 : decode cX5_tellThing 74 = .ok (.invokevirtual 107, 3) := by decide +kernel
theorem dX5_tellThing_77 : decode cX5_tellThing 77 = .ok (.aload_n 0, 1) := by decide +kernel
theorem dX5_tellThing_78 : decode cX5_tellThing 78 = .ok (.sipush 999, 3) := by decide +kernel
theorem dX5_tellThing_81 : decode cX5_tellThing 81 = .ok (.iload_n 2, 1) := by decide +kernel
theorem dX5_tellThing_82 : decode cX5_tellThing 82 = .ok (.iconst 2, 1) := by decide +kernel
theorem dX5_tellThing_83 : decode cX5_tellThing 83 = .ok (.iadd, 1) := by decide +kernel
theorem dX5_tellThing_84 : decode cX5_tellThing 84 = .ok (.invokevirtual 110, 3) := by decide +kernel
theorem dX5_tellThing_87 : decode cX5_tellThing 87 = .ok (.aload_n 0, 1) := by decide +kernel
theorem dX5_tellThing_88 : decode cX5_tellThing 88 = .ok (.sipush 999, 3) := by decide +kernel
theorem dX5_tellThing_91 : decode cX5_tellThing 91 = .ok (.iload_n 2, 1) := by decide +kernel
theorem dX5_tellThing_92 : decode cX5_tellThing 92 = .ok (.iconst 3, 1) := by decide +kernel
theorem dX5_tellThing_93 : decode cX5_tellThing 93 = .ok (.iadd, 1) := by decide +kernel
theorem dX5_tellThing_94 : decode cX5_tellThing 94 = .ok (.invokevirtual 110, 3) := by decide +kernel
theorem dX5_tellThing_97 : decode cX5_tellThing 97 = .ok (.aload_n 0, 1) := by decide +kernel
theorem dX5_tellThing_98 : decode cX5_tellThing 98 = .ok (.getfield 38, 3) := by decide +kernel
theorem dX5_tellThing_101 : decode cX5_tellThing 101 = .ok (.aload_n 0, 1) := by decide +kernel
theorem dX5_tellThing_102 : decode cX5_tellThing 102 = .ok (.getfield 34, 3) := by decide +kernel
theorem dX5_tellThing_105 : decode cX5_tellThing 105 = .ok (.getfield 77, 3) := by decide +kernel
theorem dX5_tellThing_108 : decode cX5_tellThing 108 = .ok (.iload_n 2, 1) := by decide +kernel
theorem dX5_tellThing_109 : decode cX5_tellThing 109 = .ok (.iconst 2, 1) := by decide +kernel
theorem dX5_tellThing_110 : decode cX5_tellThing 110 = .ok (.iadd, 1) := by decide +kernel
theorem dX5_tellThing_111 : decode cX5_tellThing 111 = .ok (.iaload, 1) := by decide +kernel
theorem dX5_tellThing_112 : decode cX5_tellThing 112 = .ok (.aload_n 0, 1) := by decide +kernel
theorem dX5_tellThing_113 : decode cX5_tellThing 113 = .ok (.getfield 34, 3) := by decide +kernel
theorem dX5_tellThing_116 : decode cX5_tellThing 116 = .ok (.getfield 77, 3) := by decide +kernel
theorem dX5_tellThing_119 : decode cX5_tellThing 119 = .ok (.iload_n 2, 1) := by decide +kernel
theorem dX5_tellThing_120 : decode cX5_tellThing 120 = .ok (.iconst 3, 1) := by decide +kernel
theorem dX5_tellThing_121 : decode cX5_tellThing 121 = .ok (.iadd, 1) := by decide +kernel
theorem dX5_tellThing_122 : decode cX5_tellThing 122 = .ok (.iaload, 1) := by decide +kernel
theorem dX5_tellThing_123 : decode cX5_tellThing 123 = .ok (.invokevirtual 113, 3) := by decide +kernel
theorem dX5_tellThing_126 : decode cX5_tellThing 126 = .ok (.ifCond .eq 11, 3) := by decide +kernel
theorem dX5_tellThing_129 : decode cX5_tellThing 129 = .ok (.aload_n 0, 1) := by decide +kernel
theorem dX5_tellThing_130 : decode cX5_tellThing 130 = .ok (.iconst 3, 1) := by decide +kernel
theorem dX5_tellThing_131 : decode cX5_tellThing 131 = .ok (.iload_n 2, 1) := by decide +kernel
theorem dX5_tellThing_132 : decode cX5_tellThing 132 = .ok (.iconst 3, 1) := by decide +kernel
theorem dX5_tellThing_133 : decode cX5_tellThing 133 = .ok (.iadd, 1) := by decide +kernel
theorem dX5_tellThing_134 : decode cX5_tellThing 134 = .ok (.invokevirtual 80, 3) := by decide +kernel
theorem dX5_tellThing_137 : decode cX5_tellThing 137 = .ok (.aload_n 0, 1) := by decide +kernel
theorem dX5_tellThing_138 : decode cX5_tellThing 138 = .ok (.getfield 38, 3) := by decide +kernel
theorem dX5_tellThing_141 : decode cX5_tellThing 141 = .ok (.getfield 84, 3) := by decide +kernel
theorem dX5_tellThing_144 : decode cX5_tellThing 144 = .ok (.istore_n 3, 1) := by decide +kernel
theorem dX5_tellThing_145 : decode cX5_tellThing 145 = .ok (.aload_n 0, 1) := by decide +kernel
theorem dX5_tellThing_146 : decode cX5_tellThing 146 = .ok (.getfield 27, 3) := by decide +kernel
theorem dX5_tellThing_149 : decode cX5_tellThing 149 = .ok (.iload_n 3, 1) := by decide +kernel
theorem dX5_tellThing_150 : decode cX5_tellThing 150 = .ok (.aload_n 0, 1) := by decide +kernel
theorem dX5_tellThing_151 : decode cX5_tellThing 151 = .ok (.getfield 34, 3) := by decide +kernel
theorem dX5_tellThing_154 : decode cX5_tellThing 154 = .ok (.getfield 89, 3) := by decide +kernel
theorem dX5_tellThing_157 : decode cX5_tellThing 157 = .ok (.iload_n 2, 1) := by decide +kernel
theorem dX5_tellThing_158 : decode cX5_tellThing 158 = .ok (.iconst 1, 1) := by decide +kernel
theorem dX5_tellThing_159 : decode cX5_tellThing 159 = .ok (.iadd, 1) := by decide +kernel
theorem dX5_tellThing_160 : decode cX5_tellThing 160 = .ok (.laload, 1) := by decide +kernel
theorem dX5_tellThing_161 : decode cX5_tellThing 161 = .ok (.lastore, 1) := by decide +kernel
theorem dX5_tellThing_162 : decode cX5_tellThing 162 = .ok (.aload_n 0, 1) := by decide +kernel
theorem dX5_tellThing_163 : decode cX5_tellThing 163 = .ok (.getfield 38, 3) := by decide +kernel
theorem dX5_tellThing_166 : decode cX5_tellThing 166 = .ok (.getfield 116, 3) := by decide +kernel
theorem dX5_tellThing_169 : decode cX5_tellThing 169 = .ok (.iload_n 3, 1) := by decide +kernel
theorem dX5_tellThing_170 : decode cX5_tellThing 170 = .ok (.aload_n 0, 1) := by decide +kernel
theorem dX5_tellThing_171 : decode cX5_tellThing 171 = .ok (.getfield 34, 3) := by decide +kernel
theorem dX5_tellThing_174 : decode cX5_tellThing 174 = .ok (.getfield 77, 3) := by decide +kernel
theorem dX5_tellThing_177 : decode cX5_tellThing 177 = .ok (.iload_n 2, 1) := by decide +kernel
theorem dX5_tellThing_178 : decode cX5_tellThing 178 = .ok (.iconst 2, 1) := by decide +kernel
theorem dX5_tellThing_179 : decode cX5_tellThing 179 = .ok (.iadd, 1) := by decide +kernel
theorem dX5_tellThing_180 : decode cX5_tellThing 180 = .ok (.iaload, 1) := by decide +kernel
theorem dX5_tellThing_181 : decode cX5_tellThing 181 = .ok (.iastore, 1) := by decide +kernel
theorem dX5_tellThing_182 : decode cX5_tellThing 182 = .ok (.aload_n 0, 1) := by decide +kernel
theorem dX5_tellThing_183 : decode cX5_tellThing 183 = .ok (.getfield 38, 3) := by decide +kernel
theorem dX5_tellThing_186 : decode cX5_tellThing 186 = .ok (.getfield 119, 3) := by decide +kernel
theorem dX5_tellThing_189 : decode cX5_tellThing 189 = .ok (.iload_n 3, 1) := by decide +kernel
theorem dX5_tellThing_190 : decode cX5_tellThing 190 = .ok (.aload_n 0, 1) := by decide +kernel
theorem dX5_tellThing_191 : decode cX5_tellThing 191 = .ok (.getfield 34, 3) := by decide +kernel
theorem dX5_tellThing_194 : decode cX5_tellThing 194 = .ok (.getfield 77, 3) := by decide +kernel
theorem dX5_tellThing_197 : decode cX5_tellThing 197 = .ok (.iload_n 2, 1) := by decide +kernel
theorem dX5_tellThing_198 : decode cX5_tellThing 198 = .ok (.iconst 3, 1) := by decide +kernel
theorem dX5_tellThing_199 : decode cX5_tellThing 199 = .ok (.iadd, 1) := by decide +kernel
theorem dX5_tellThing_200 : decode cX5_tellThing 200 = .ok (.iaload, 1) := by decide +kernel
theorem dX5_tellThing_201 : decode cX5_tellThing 201 = .ok (.iastore, 1) := by decide +kernel
theorem dX5_tellThing_202 : decode cX5_tellThing 202 = .ok (.aload_n 0, 1) := by decide +kernel
theorem dX5_tellThing_203 : decode cX5_tellThing 203 = .ok (.getfield 38, 3) := by decide +kernel
theorem dX5_tellThing_206 : decode cX5_tellThing 206 = .ok (.getfield 122, 3) := by decide +kernel
theorem dX5_tellThing_209 : decode cX5_tellThing 209 = .ok (.iload_n 3, 1) := by decide +kernel
theorem dX5_tellThing_210 : decode cX5_tellThing 210 = .ok (.aload_n 0, 1) := by decide +kernel
theorem dX5_tellThing_211 : decode cX5_tellThing 211 = .ok (.getfield 34, 3) := by decide +kernel
theorem dX5_tellThing_214 : decode cX5_tellThing 214 = .ok (.getfield 77, 3) := by decide +kernel
theorem dX5_tellThing_217 : decode cX5_tellThing 217 = .ok (.iload_n 2, 1) := by decide +kernel
theorem dX5_tellThing_218 : decode cX5_tellThing 218 = .ok (.iconst 4, 1) := by decide +kernel
theorem dX5_tellThing_219 : decode cX5_tellThing 219 = .ok (.iadd, 1) := by decide +kernel
theorem dX5_tellThing_220 : decode cX5_tellThing 220 = .ok (.iaload, 1) := by decide +kernel
theorem dX5_tellThing_221 : decode cX5_tellThing 221 = .ok (.iastore, 1) := by decide +kernel
theorem dX5_tellThing_222 : decode cX5_tellThing 222 = .ok (.aload_n 0, 1) := by decide +kernel
theorem dX5_tellThing_223 : decode cX5_tellThing 223 = .ok (.getfield 38, 3) := by decide +kernel
theorem dX5_tellThing_226 : decode cX5_tellThing 226 = .ok (.getfield 125, 3) := by decide +kernel
theorem dX5_tellThing_229 : decode cX5_tellThing 229 = .ok (.iload_n 3, 1) := by decide +kernel
theorem dX5_tellThing_230 : decode cX5_tellThing 230 = .ok (.iload_n 1, 1) := by decide +kernel
theorem dX5_tellThing_231 : decode cX5_tellThing 231 = .ok (.bipush 16, 2) := by decide +kernel
theorem dX5_tellThing_233 : decode cX5_tellThing 233 = .ok (.if_icmp .ne 7, 3) := by decide +kernel
theorem dX5_tellThing_236 : decode cX5_tellThing 236 = .ok (.iconst 1, 1) := by decide +kernel
theorem dX5_tellThing_237 : decode cX5_tellThing 237 = .ok (.goto 4, 3) := by decide +kernel
theorem dX5_tellThing_240 : decode cX5_tellThing 240 = .ok (.iconst 0, 1) := by decide +kernel
theorem dX5_tellThing_241 : decode cX5_tellThing 241 = .ok (.iastore, 1) := by decide +kernel
theorem dX5_tellThing_242 : decode cX5_tellThing 242 = .ok (.aload_n 0, 1) := by decide +kernel
theorem dX5_tellThing_243 : decode cX5_tellThing 243 = .ok (.getfield 38, 3) := by decide +kernel
theorem dX5_tellThing_246 : decode cX5_tellThing 246 = .ok (.dup, 1) := by decide +kernel
theorem dX5_tellThing_247 : decode cX5_tellThing 247 = .ok (.getfield 84, 3) := by decide +kernel
theorem dX5_tellThing_250 : decode cX5_tellThing 250 = .ok (.iconst 1, 1) := by decide +kernel
theorem dX5_tellThing_251 : decode cX5_tellThing 251 = .ok (.iadd, 1) := by decide +kernel
theorem dX5_tellThing_252 : decode cX5_tellThing 252 = .ok (.putfield 84, 3) := by decide +kernel
theorem dX5_tellThing_255 : decode cX5_tellThing 255 = .ok (.return_, 1) := by decide +kernel
theorem dX5_tellDoor_0 : decode cX5_tellDoor 0 = .ok (.aload_n 0, 1) := by decide +kernel
theorem dX5_tellDoor_1 : decode cX5_tellDoor 1 = .ok (.getfield 18, 3) := by decide +kernel
theorem dX5_tellDoor_4 : decode cX5_tellDoor 4 = .ok (.istore_n 1, 1) := by decide +kernel
theorem dX5_tellDoor_5 : decode cX5_tellDoor 5 = .ok (.aload_n 0, 1) := by decide +kernel
theorem dX5_tellDoor_6 : decode cX5_tellDoor 6 = .ok (.aload_n 0, 1) := by decide +kernel
theorem dX5_tellDoor_7 : decode cX5_tellDoor 7 = .ok (.getfield 38, 3) := by decide +kernel
theorem dX5_tellDoor_10 : decode cX5_tellDoor 10 = .ok (.getfield 128, 3) := by decide +kernel
theorem dX5_tellDoor_13 : decode cX5_tellDoor 13 = .ok (.bipush 8, 2) := by decide +kernel
theorem dX5_tellDoor_15 : decode cX5_tellDoor 15 = .ok (.invokevirtual 99, 3) := by decide +kernel
theorem dX5_tellDoor_18 : decode cX5_tellDoor 18 = .ok (.ifCond .ne 4, 3) := by decide +kernel
theorem dX5_tellDoor_21 : decode cX5_tellDoor 21 = .ok (.return_, 1) := by decide +kernel
theorem dX5_tellDoor_22 : decode cX5_tellDoor 22 = .ok (.aload_n 0, 1) := by decide +kernel
theorem dX5_tellDoor_23 : decode cX5_tellDoor 23 = .ok (.bipush 18, 2) := by decide +kernel
theorem dX5_tellDoor_25 : decode cX5_tellDoor 25 = .ok (.invokevirtual 103, 3) := by decide +kernel
theorem dX5_tellDoor_28 : decode cX5_tellDoor 28 = .ok (.ifCond .eq 135, 3) := by decide +kernel
theorem dX5_tellDoor_31 : decode cX5_tellDoor 31 = .ok (.aload_n 0, 1) := by decide +kernel
theorem dX5_tellDoor_32 : decode cX5_tellDoor 32 = .ok (.iconst 2, 1) := by decide +kernel
theorem dX5_tellDoor_33 : decode cX5_tellDoor 33 = .ok (.invokevirtual 103, 3) := by decide +kernel
theorem dX5_tellDoor_36 : decode cX5_tellDoor 36 = .ok (.ifCond .eq 127, 3) := by decide +kernel
theorem dX5_tellDoor_39 : decode cX5_tellDoor 39 = .ok (.aload_n 0, 1) := by decide +kernel
theorem dX5_tellDoor_40 : decode cX5_tellDoor 40 = .ok (.iconst 2, 1) := by decide +kernel
theorem dX5_tellDoor_41 : decode cX5_tellDoor 41 = .ok (.invokevirtual 103, 3) := by decide +kernel
theorem dX5_tellDoor_44 : decode cX5_tellDoor 44 = .ok (.ifCond .eq 119, 3) := by decide +kernel
theorem dX5_tellDoor_47 : decode cX5_tellDoor 47 = .ok (.aload_n 0, 1) := by decide +kernel
theorem dX5_tellDoor_48 : decode cX5_tellDoor 48 = .ok (.iconst 4, 1) := by decide +kernel
theorem dX5_tellDoor_49 : decode cX5_tellDoor 49 = .ok (.invokevirtual 103, 3) := by decide +kernel
theorem dX5_tellDoor_52 : decode cX5_tellDoor 52 = .ok (.ifCond .eq 111, 3) := by decide +kernel
theorem dX5_tellDoor_55 : decode cX5_tellDoor 55 = .ok (.aload_n 0, 1) := by decide +kernel
theorem dX5_tellDoor_56 : decode cX5_tellDoor 56 = .ok (.aload_n 0, 1) := by decide +kernel
theorem dX5_tellDoor_57 : decode cX5_tellDoor 57 = .ok (.getfield 34, 3) := by decide +kernel
theorem dX5_tellDoor_60 : decode cX5_tellDoor 60 = .ok (.getfield 89, 3) := by decide +kernel
theorem dX5_tellDoor_63 : decode cX5_tellDoor 63 = .ok (.iload_n 1, 1) := by decide +kernel
theorem dX5_tellDoor_64 : decode cX5_tellDoor 64 = .ok (.iconst 1, 1) := by decide +kernel
theorem dX5_tellDoor_65 : decode cX5_tellDoor 65 = .ok (.iadd, 1) := by decide +kernel
theorem dX5_tellDoor_66 : decode cX5_tellDoor 66 = .ok (.laload, 1) := by decide +kernel
theorem dX5_tellDoor_67 : decode cX5_tellDoor 67 = .ok (.invokevirtual 92, 3) := by decide +kernel
theorem dX5_tellDoor_70 : decode cX5_tellDoor 70 = .ok (.istore_n 2, 1) := by decide +kernel
theorem dX5_tellDoor_71 : decode cX5_tellDoor 71 = .ok (.aload_n 0, 1) := by decide +kernel
theorem dX5_tellDoor_72 : decode cX5_tellDoor 72 = .ok (.aload_n 0, 1) := by decide +kernel
theorem dX5_tellDoor_73 : decode cX5_tellDoor 73 = .ok (.getfield 34, 3) := by decide +kernel
theorem dX5_tellDoor_76 : decode cX5_tellDoor 76 = .ok (.getfield 89, 3) := by decide +kernel
theorem dX5_tellDoor_79 : decode cX5_tellDoor 79 = .ok (.iload_n 1, 1) := by decide +kernel
theorem dX5_tellDoor_80 : decode cX5_tellDoor 80 = .ok (.iconst 2, 1) := by decide +kernel
theorem dX5_tellDoor_81 : decode cX5_tellDoor 81 = .ok (.iadd, 1) := by decide +kernel
theorem dX5_tellDoor_82 : decode cX5_tellDoor 82 = .ok (.laload, 1) := by decide +kernel
theorem dX5_tellDoor_83 : decode cX5_tellDoor 83 = .ok (.invokevirtual 92, 3) := by decide +kernel
theorem dX5_tellDoor_86 : decode cX5_tellDoor 86 = .ok (.istore_n 3, 1) := by decide +kernel
theorem dX5_tellDoor_87 : decode cX5_tellDoor 87 = .ok (.iload_n 2, 1) := by decide +kernel
theorem dX5_tellDoor_88 : decode cX5_tellDoor 88 = .ok (.iconst (-1), 1) := by decide +kernel
theorem dX5_tellDoor_89 : decode cX5_tellDoor 89 = .ok (.if_icmp .ne 14, 3) := by decide +kernel
theorem dX5_tellDoor_92 : decode cX5_tellDoor 92 = .ok (.aload_n 0, 1) := by decide +kernel
theorem dX5_tellDoor_93 : decode cX5_tellDoor 93 = .ok (.iconst 4, 1) := by decide +kernel
theorem dX5_tellDoor_94 : decode cX5_tellDoor 94 = .ok (.iload_n 1, 1) := by decide +kernel
theorem dX5_tellDoor_95 : decode cX5_tellDoor 95 = .ok (.iconst 1, 1) := by decide +kernel
theorem dX5_tellDoor_96 : decode cX5_tellDoor 96 = .ok (.iadd, 1) := by decide +kernel
theorem dX5_tellDoor_97 : decode cX5_tellDoor 97 = .ok (.invokevirtual 80, 3) := by decide +kernel
theorem dX5_tellDoor_100 : decode cX5_tellDoor 100 = .ok (.goto 50, 3) := by decide +kernel
theorem dX5_tellDoor_103 : decode cX5_tellDoor 103 = .ok (.iload_n 3, 1) := by decide +kernel
theorem dX5_tellDoor_104 : decode cX5_tellDoor 104 = .ok (.iconst (-1), 1) := by decide +kernel
theorem dX5_tellDoor_105 : decode cX5_tellDoor 105 = .ok (.if_icmp .ne 14, 3) := by decide +kernel
theorem dX5_tellDoor_108 : decode cX5_tellDoor 108 = .ok (.aload_n 0, 1) := by decide +kernel
theorem dX5_tellDoor_109 : decode cX5_tellDoor 109 = .ok (.iconst 4, 1) := by decide +kernel
theorem dX5_tellDoor_110 : decode cX5_tellDoor 110 = .ok (.iload_n 1, 1) := by decide +kernel
theorem dX5_tellDoor_111 : decode cX5_tellDoor 111 = .ok (.iconst 2, 1) := by decide +kernel
theorem dX5_tellDoor_112 : decode cX5_tellDoor 112 = .ok (.iadd, 1) := by decide +kernel
theorem dX5_tellDoor_113 : decode cX5_tellDoor 113 = .ok (.invokevirtual 80, 3) := by decide +kernel
theorem dX5_tellDoor_116 : decode cX5_tellDoor 116 = .ok (.goto 34, 3) := by decide +kernel
theorem dX5_tellDoor_119 : decode cX5_tellDoor 119 = .ok (.iload_n 2, 1) := by decide +kernel
theorem dX5_tellDoor_120 : decode cX5_tellDoor 120 = .ok (.iload_n 3, 1) := by decide +kernel
theorem dX5_tellDoor_121 : decode cX5_tellDoor 121 = .ok (.if_icmp .ne 14, 3) := by decide +kernel
theorem dX5_tellDoor_124 : decode cX5_tellDoor 124 = .ok (.aload_n 0, 1) := by decide +kernel
theorem dX5_tellDoor_125 : decode cX5_tellDoor 125 = .ok (.iconst 5, 1) := by decide +kernel
theorem dX5_tellDoor_126 : decode cX5_tellDoor 126 = .ok (.iload_n 1, 1) := by decide +kernel
theorem dX5_tellDoor_127 : decode cX5_tellDoor 127 = .ok (.iconst 2, 1) := by decide +kernel
theorem dX5_tellDoor_128 : decode cX5_tellDoor 128 = .ok (.iadd, 1) := by decide +kernel
theorem dX5_tellDoor_129 : decode cX5_tellDoor 129 = .ok (.invokevirtual 80, 3) := by decide +kernel
theorem dX5_tellDoor_132 : decode cX5_tellDoor 132 = .ok (.goto 18, 3) := by decide +kernel
theorem dX5_tellDoor_135 : decode cX5_tellDoor 135 = .ok (.aload_n 0, 1) := by decide +kernel
theorem dX5_tellDoor_136 : decode cX5_tellDoor 136 = .ok (.getfield 38, 3) := by decide +kernel
theorem dX5_tellDoor_139 : decode cX5_tellDoor 139 = .ok (.getfield 131, 3) := by decide +kernel
theorem dX5_tellDoor_142 : decode cX5_tellDoor 142 = .ok (.iload_n 2, 1) := by decide +kernel
theorem dX5_tellDoor_143 : decode cX5_tellDoor 143 = .ok (.dup2, 1) := by decide +kernel
theorem dX5_tellDoor_144 : decode cX5_tellDoor 144 = .ok (.iaload, 1) := by decide +kernel
theorem dX5_tellDoor_145 : decode cX5_tellDoor 145 = .ok (.iconst 1, 1) := by decide +kernel
theorem dX5_tellDoor_146 : decode cX5_tellDoor 146 = .ok (.iload_n 3, 1) := by decide +kernel
theorem dX5_tellDoor_147 : decode cX5_tellDoor 147 = .ok (.ishl, 1) := by decide +kernel
theorem dX5_tellDoor_148 : decode cX5_tellDoor 148 = .ok (.ior, 1) := by decide +kernel
theorem dX5_tellDoor_149 : decode cX5_tellDoor 149 = .ok (.iastore, 1) := by decide +kernel
theorem dX5_tellDoor_150 : decode cX5_tellDoor 150 = .ok (.aload_n 0, 1) := by decide +kernel
theorem dX5_tellDoor_151 : decode cX5_tellDoor 151 = .ok (.getfield 38, 3) := by decide +kernel
theorem dX5_tellDoor_154 : decode cX5_tellDoor 154 = .ok (.dup, 1) := by decide +kernel
theorem dX5_tellDoor_155 : decode cX5_tellDoor 155 = .ok (.getfield 128, 3) := by decide +kernel
theorem dX5_tellDoor_158 : decode cX5_tellDoor 158 = .ok (.iconst 1, 1) := by decide +kernel
theorem dX5_tellDoor_159 : decode cX5_tellDoor 159 = .ok (.iadd, 1) := by decide +kernel
theorem dX5_tellDoor_160 : decode cX5_tellDoor 160 = .ok (.putfield 128, 3) := by decide +kernel
theorem dX5_tellDoor_163 : decode cX5_tellDoor 163 = .ok (.return_, 1) := by decide +kernel
theorem dX5_tellHill_0 : decode cX5_tellHill 0 = .ok (.aload_n 0, 1) := by decide +kernel
theorem dX5_tellHill_1 : decode cX5_tellHill 1 = .ok (.getfield 18, 3) := by decide +kernel
theorem dX5_tellHill_4 : decode cX5_tellHill 4 = .ok (.istore_n 1, 1) := by decide +kernel
theorem dX5_tellHill_5 : decode cX5_tellHill 5 = .ok (.aload_n 0, 1) := by decide +kernel
theorem dX5_tellHill_6 : decode cX5_tellHill 6 = .ok (.aload_n 0, 1) := by decide +kernel
theorem dX5_tellHill_7 : decode cX5_tellHill 7 = .ok (.getfield 38, 3) := by decide +kernel
theorem dX5_tellHill_10 : decode cX5_tellHill 10 = .ok (.getfield 134, 3) := by decide +kernel
theorem dX5_tellHill_13 : decode cX5_tellHill 13 = .ok (.bipush 12, 2) := by decide +kernel
theorem dX5_tellHill_15 : decode cX5_tellHill 15 = .ok (.invokevirtual 99, 3) := by decide +kernel
theorem dX5_tellHill_18 : decode cX5_tellHill 18 = .ok (.ifCond .ne 4, 3) := by decide +kernel
theorem dX5_tellHill_21 : decode cX5_tellHill 21 = .ok (.return_, 1) := by decide +kernel
theorem dX5_tellHill_22 : decode cX5_tellHill 22 = .ok (.aload_n 0, 1) := by decide +kernel
theorem dX5_tellHill_23 : decode cX5_tellHill 23 = .ok (.bipush 19, 2) := by decide +kernel
theorem dX5_tellHill_25 : decode cX5_tellHill 25 = .ok (.invokevirtual 103, 3) := by decide +kernel
theorem dX5_tellHill_28 : decode cX5_tellHill 28 = .ok (.ifCond .eq 145, 3) := by decide +kernel
theorem dX5_tellHill_31 : decode cX5_tellHill 31 = .ok (.aload_n 0, 1) := by decide +kernel
theorem dX5_tellHill_32 : decode cX5_tellHill 32 = .ok (.iconst 3, 1) := by decide +kernel
theorem dX5_tellHill_33 : decode cX5_tellHill 33 = .ok (.invokevirtual 103, 3) := by decide +kernel
theorem dX5_tellHill_36 : decode cX5_tellHill 36 = .ok (.ifCond .eq 137, 3) := by decide +kernel
theorem dX5_tellHill_39 : decode cX5_tellHill 39 = .ok (.aload_n 0, 1) := by decide +kernel
theorem dX5_tellHill_40 : decode cX5_tellHill 40 = .ok (.iconst 3, 1) := by decide +kernel
theorem dX5_tellHill_41 : decode cX5_tellHill 41 = .ok (.invokevirtual 103, 3) := by decide +kernel
theorem dX5_tellHill_44 : decode cX5_tellHill 44 = .ok (.ifCond .eq 129, 3) := by decide +kernel
theorem dX5_tellHill_47 : decode cX5_tellHill 47 = .ok (.aload_n 0, 1) := by decide +kernel
theorem dX5_tellHill_48 : decode cX5_tellHill 48 = .ok (.iconst 3, 1) := by decide +kernel
theorem dX5_tellHill_49 : decode cX5_tellHill 49 = .ok (.invokevirtual 103, 3) := by decide +kernel
theorem dX5_tellHill_52 : decode cX5_tellHill 52 = .ok (.ifCond .eq 121, 3) := by decide +kernel
theorem dX5_tellHill_55 : decode cX5_tellHill 55 = .ok (.aload_n 0, 1) := by decide +kernel
theorem dX5_tellHill_56 : decode cX5_tellHill 56 = .ok (.iconst 4, 1) := by decide +kernel
theorem dX5_tellHill_57 : decode cX5_tellHill 57 = .ok (.invokevirtual 103, 3) := by decide +kernel
theorem dX5_tellHill_60 : decode cX5_tellHill 60 = .ok (.ifCond .eq 113, 3) := by decide +kernel
theorem dX5_tellHill_63 : decode cX5_tellHill 63 = .ok (.aload_n 0, 1) := by decide +kernel
theorem dX5_tellHill_64 : decode cX5_tellHill 64 = .ok (.sipush 359, 3) := by decide +kernel
theorem dX5_tellHill_67 : decode cX5_tellHill 67 = .ok (.iload_n 1, 1) := by decide +kernel
theorem dX5_tellHill_68 : decode cX5_tellHill 68 = .ok (.iconst 1, 1) := by decide +kernel
theorem dX5_tellHill_69 : decode cX5_tellHill 69 = .ok (.iadd, 1) := by decide +kernel
theorem dX5_tellHill_70 : decode cX5_tellHill 70 = .ok (.invokevirtual 110, 3) := by decide +kernel
theorem dX5_tellHill_73 : decode cX5_tellHill 73 = .ok (.aload_n 0, 1) := by decide +kernel
theorem dX5_tellHill_74 : decode cX5_tellHill 74 = .ok (.sipush 359, 3) := by decide +kernel
theorem dX5_tellHill_77 : decode cX5_tellHill 77 = .ok (.iload_n 1, 1) := by decide +kernel
theorem dX5_tellHill_78 : decode cX5_tellHill 78 = .ok (.iconst 2, 1) := by decide +kernel
theorem dX5_tellHill_79 : decode cX5_tellHill 79 = .ok (.iadd, 1) := by decide +kernel
theorem dX5_tellHill_80 : decode cX5_tellHill 80 = .ok (.invokevirtual 110, 3) := by decide +kernel
theorem dX5_tellHill_83 : decode cX5_tellHill 83 = .ok (.aload_n 0, 1) := by decide +kernel
theorem dX5_tellHill_84 : decode cX5_tellHill 84 = .ok (.bipush 20, 2) := by decide +kernel
theorem dX5_tellHill_86 : decode cX5_tellHill 86 = .ok (.iload_n 1, 1) := by decide +kernel
theorem dX5_tellHill_87 : decode cX5_tellHill 87 = .ok (.iconst 3, 1) := by decide +kernel
theorem dX5_tellHill_88 : decode cX5_tellHill 88 = .ok (.iadd, 1) := by decide +kernel
theorem dX5_tellHill_89 : decode cX5_tellHill 89 = .ok (.invokevirtual 110, 3) := by decide +kernel
theorem dX5_tellHill_92 : decode cX5_tellHill 92 = .ok (.aload_n 0, 1) := by decide +kernel
theorem dX5_tellHill_93 : decode cX5_tellHill 93 = .ok (.getfield 38, 3) := by decide +kernel
theorem dX5_tellHill_96 : decode cX5_tellHill 96 = .ok (.getfield 134, 3) := by decide +kernel
theorem dX5_tellHill_99 : decode cX5_tellHill 99 = .ok (.istore_n 2, 1) := by decide +kernel
theorem dX5_tellHill_100 : decode cX5_tellHill 100 = .ok (.aload_n 0, 1) := by decide +kernel
theorem dX5_tellHill_101 : decode cX5_tellHill 101 = .ok (.getfield 38, 3) := by decide +kernel
theorem dX5_tellHill_104 : decode cX5_tellHill 104 = .ok (.getfield 137, 3) := by decide +kernel
theorem dX5_tellHill_107 : decode cX5_tellHill 107 = .ok (.iload_n 2, 1) := by decide +kernel
theorem dX5_tellHill_108 : decode cX5_tellHill 108 = .ok (.aload_n 0, 1) := by decide +kernel
theorem dX5_tellHill_109 : decode cX5_tellHill 109 = .ok (.getfield 34, 3) := by decide +kernel
theorem dX5_tellHill_112 : decode cX5_tellHill 112 = .ok (.getfield 77, 3) := by decide +kernel
theorem dX5_tellHill_115 : decode cX5_tellHill 115 = .ok (.iload_n 1, 1) := by decide +kernel
theorem dX5_tellHill_116 : decode cX5_tellHill 116 = .ok (.iconst 1, 1) := by decide +kernel
theorem dX5_tellHill_117 : decode cX5_tellHill 117 = .ok (.iadd, 1) := by decide +kernel
theorem dX5_tellHill_118 : decode cX5_tellHill 118 = .ok (.iaload, 1) := by decide +kernel
theorem dX5_tellHill_119 : decode cX5_tellHill 119 = .ok (.iastore, 1) := by decide +kernel
theorem dX5_tellHill_120 : decode cX5_tellHill 120 = .ok (.aload_n 0, 1) := by decide +kernel
theorem dX5_tellHill_121 : decode cX5_tellHill 121 = .ok (.getfield 38, 3) := by decide +kernel
theorem dX5_tellHill_124 : decode cX5_tellHill 124 = .ok (.getfield 140, 3) := by decide +kernel
theorem dX5_tellHill_127 : decode cX5_tellHill 127 = .ok (.iload_n 2, 1) := by decide +kernel
theorem dX5_tellHill_128 : decode cX5_tellHill 128 = .ok (.aload_n 0, 1) := by decide +kernel
theorem dX5_tellHill_129 : decode cX5_tellHill 129 = .ok (.getfield 34, 3) := by decide +kernel
theorem dX5_tellHill_132 : decode cX5_tellHill 132 = .ok (.getfield 77, 3) := by decide +kernel
theorem dX5_tellHill_135 : decode cX5_tellHill 135 = .ok (.iload_n 1, 1) := by decide +kernel
theorem dX5_tellHill_136 : decode cX5_tellHill 136 = .ok (.iconst 2, 1) := by decide +kernel
theorem dX5_tellHill_137 : decode cX5_tellHill 137 = .ok (.iadd, 1) := by decide +kernel
theorem dX5_tellHill_138 : decode cX5_tellHill 138 = .ok (.iaload, 1) := by decide +kernel
theorem dX5_tellHill_139 : decode cX5_tellHill 139 = .ok (.iastore, 1) := by decide +kernel
theorem dX5_tellHill_140 : decode cX5_tellHill 140 = .ok (.aload_n 0, 1) := by decide +kernel
theorem dX5_tellHill_141 : decode cX5_tellHill 141 = .ok (.getfield 38, 3) := by decide +kernel
theorem dX5_tellHill_144 : decode cX5_tellHill 144 = .ok (.getfield 143, 3) := by decide +kernel
theorem dX5_tellHill_147 : decode cX5_tellHill 147 = .ok (.iload_n 2, 1) := by decide +kernel
theorem dX5_tellHill_148 : decode cX5_tellHill 148 = .ok (.aload_n 0, 1) := by decide +kernel
theorem dX5_tellHill_149 : decode cX5_tellHill 149 = .ok (.getfield 34, 3) := by decide +kernel
theorem dX5_tellHill_152 : decode cX5_tellHill 152 = .ok (.getfield 77, 3) := by decide +kernel
theorem dX5_tellHill_155 : decode cX5_tellHill 155 = .ok (.iload_n 1, 1) := by decide +kernel
theorem dX5_tellHill_156 : decode cX5_tellHill 156 = .ok (.iconst 3, 1) := by decide +kernel
theorem dX5_tellHill_157 : decode cX5_tellHill 157 = .ok (.iadd, 1) := by decide +kernel
theorem dX5_tellHill_158 : decode cX5_tellHill 158 = .ok (.iaload, 1) := by decide +kernel
theorem dX5_tellHill_159 : decode cX5_tellHill 159 = .ok (.iastore, 1) := by decide +kernel
theorem dX5_tellHill_160 : decode cX5_tellHill 160 = .ok (.aload_n 0, 1) := by decide +kernel
theorem dX5_tellHill_161 : decode cX5_tellHill 161 = .ok (.getfield 38, 3) := by decide +kernel
theorem dX5_tellHill_164 : decode cX5_tellHill 164 = .ok (.dup, 1) := by decide +kernel
theorem dX5_tellHill_165 : decode cX5_tellHill 165 = .ok (.getfield 134, 3) := by decide +kernel
theorem dX5_tellHill_168 : decode cX5_tellHill 168 = .ok (.iconst 1, 1) := by decide +kernel
theorem dX5_tellHill_169 : decode cX5_tellHill 169 = .ok (.iadd, 1) := by decide +kernel
theorem dX5_tellHill_170 : decode cX5_tellHill 170 = .ok (.putfield 134, 3) := by decide +kernel
theorem dX5_tellHill_173 : decode cX5_tellHill 173 = .ok (.return_, 1) := by decide +kernel
theorem dX5_tellNear_0 : decode cX5_tellNear 0 = .ok (.aload_n 0, 1) := by decide +kernel
theorem dX5_tellNear_1 : decode cX5_tellNear 1 = .ok (.getfield 18, 3) := by decide +kernel
theorem dX5_tellNear_4 : decode cX5_tellNear 4 = .ok (.istore_n 1, 1) := by decide +kernel
theorem dX5_tellNear_5 : decode cX5_tellNear 5 = .ok (.aload_n 0, 1) := by decide +kernel
theorem dX5_tellNear_6 : decode cX5_tellNear 6 = .ok (.bipush 22, 2) := by decide +kernel
theorem dX5_tellNear_8 : decode cX5_tellNear 8 = .ok (.invokevirtual 103, 3) := by decide +kernel
theorem dX5_tellNear_11 : decode cX5_tellNear 11 = .ok (.ifCond .eq 46, 3) := by decide +kernel
theorem dX5_tellNear_14 : decode cX5_tellNear 14 = .ok (.aload_n 0, 1) := by decide +kernel
theorem dX5_tellNear_15 : decode cX5_tellNear 15 = .ok (.iconst 3, 1) := by decide +kernel
theorem dX5_tellNear_16 : decode cX5_tellNear 16 = .ok (.invokevirtual 103, 3) := by decide +kernel
theorem dX5_tellNear_19 : decode cX5_tellNear 19 = .ok (.ifCond .eq 38, 3) := by decide +kernel
theorem dX5_tellNear_22 : decode cX5_tellNear 22 = .ok (.aload_n 0, 1) := by decide +kernel
theorem dX5_tellNear_23 : decode cX5_tellNear 23 = .ok (.iconst 4, 1) := by decide +kernel
theorem dX5_tellNear_24 : decode cX5_tellNear 24 = .ok (.invokevirtual 103, 3) := by decide +kernel
theorem dX5_tellNear_27 : decode cX5_tellNear 27 = .ok (.ifCond .eq 30, 3) := by decide +kernel
theorem dX5_tellNear_30 : decode cX5_tellNear 30 = .ok (.aload_n 0, 1) := by decide +kernel
theorem dX5_tellNear_31 : decode cX5_tellNear 31 = .ok (.bipush 20, 2) := by decide +kernel
theorem dX5_tellNear_33 : decode cX5_tellNear 33 = .ok (.iload_n 1, 1) := by decide +kernel
theorem dX5_tellNear_34 : decode cX5_tellNear 34 = .ok (.iconst 1, 1) := by decide +kernel
theorem dX5_tellNear_35 : decode cX5_tellNear 35 = .ok (.iadd, 1) := by decide +kernel
theorem dX5_tellNear_36 : decode cX5_tellNear 36 = .ok (.invokevirtual 110, 3) := by decide +kernel
theorem dX5_tellNear_39 : decode cX5_tellNear 39 = .ok (.aload_n 0, 1) := by decide +kernel
theorem dX5_tellNear_40 : decode cX5_tellNear 40 = .ok (.getfield 38, 3) := by decide +kernel
theorem dX5_tellNear_43 : decode cX5_tellNear 43 = .ok (.aload_n 0, 1) := by decide +kernel
theorem dX5_tellNear_44 : decode cX5_tellNear 44 = .ok (.getfield 34, 3) := by decide +kernel
theorem dX5_tellNear_47 : decode cX5_tellNear 47 = .ok (.getfield 77, 3) := by decide +kernel
theorem dX5_tellNear_50 : decode cX5_tellNear 50 = .ok (.iload_n 1, 1) := by decide +kernel
theorem dX5_tellNear_51 : decode cX5_tellNear 51 = .ok (.iconst 1, 1) := by decide +kernel
theorem dX5_tellNear_52 : decode cX5_tellNear 52 = .ok (.iadd, 1) := by decide +kernel
theorem dX5_tellNear_53 : decode cX5_tellNear 53 = .ok (.iaload, 1) := by decide +kernel
theorem dX5_tellNear_54 : decode cX5_tellNear 54 = .ok (.putfield 146, 3) := by decide +kernel
theorem dX5_tellNear_57 : decode cX5_tellNear 57 = .ok (.return_, 1) := by decide +kernel
theorem dX5_tellSky_0 : decode cX5_tellSky 0 = .ok (.aload_n 0, 1) := by decide +kernel
theorem dX5_tellSky_1 : decode cX5_tellSky 1 = .ok (.getfield 18, 3) := by decide +kernel
theorem dX5_tellSky_4 : decode cX5_tellSky 4 = .ok (.istore_n 1, 1) := by decide +kernel
theorem dX5_tellSky_5 : decode cX5_tellSky 5 = .ok (.aload_n 0, 1) := by decide +kernel
theorem dX5_tellSky_6 : decode cX5_tellSky 6 = .ok (.aload_n 0, 1) := by decide +kernel
theorem dX5_tellSky_7 : decode cX5_tellSky 7 = .ok (.getfield 38, 3) := by decide +kernel
theorem dX5_tellSky_10 : decode cX5_tellSky 10 = .ok (.getfield 96, 3) := by decide +kernel
theorem dX5_tellSky_13 : decode cX5_tellSky 13 = .ok (.iconst 5, 1) := by decide +kernel
theorem dX5_tellSky_14 : decode cX5_tellSky 14 = .ok (.invokevirtual 99, 3) := by decide +kernel
theorem dX5_tellSky_17 : decode cX5_tellSky 17 = .ok (.ifCond .eq 20, 3) := by decide +kernel
theorem dX5_tellSky_20 : decode cX5_tellSky 20 = .ok (.aload_n 0, 1) := by decide +kernel
theorem dX5_tellSky_21 : decode cX5_tellSky 21 = .ok (.bipush 20, 2) := by decide +kernel
theorem dX5_tellSky_23 : decode cX5_tellSky 23 = .ok (.invokevirtual 103, 3) := by decide +kernel
theorem dX5_tellSky_26 : decode cX5_tellSky 26 = .ok (.ifCond .eq 11, 3) := by decide +kernel
theorem dX5_tellSky_29 : decode cX5_tellSky 29 = .ok (.aload_n 0, 1) := by decide +kernel
theorem dX5_tellSky_30 : decode cX5_tellSky 30 = .ok (.iconst 2, 1) := by decide +kernel
theorem dX5_tellSky_31 : decode cX5_tellSky 31 = .ok (.invokevirtual 103, 3) := by decide +kernel
theorem dX5_tellSky_34 : decode cX5_tellSky 34 = .ok (.ifCond .ne 4, 3) := by decide +kernel
theorem dX5_tellSky_37 : decode cX5_tellSky 37 = .ok (.return_, 1) := by decide +kernel
theorem dX5_tellSky_38 : decode cX5_tellSky 38 = .ok (.aload_n 0, 1) := by decide +kernel
theorem dX5_tellSky_39 : decode cX5_tellSky 39 = .ok (.iload_n 1, 1) := by decide +kernel
theorem dX5_tellSky_40 : decode cX5_tellSky 40 = .ok (.iconst 1, 1) := by decide +kernel
theorem dX5_tellSky_41 : decode cX5_tellSky 41 = .ok (.iadd, 1) := by decide +kernel
theorem dX5_tellSky_42 : decode cX5_tellSky 42 = .ok (.invokevirtual 107, 3) := by decide +kernel
theorem dX5_tellSky_45 : decode cX5_tellSky 45 = .ok (.aload_n 0, 1) := by decide +kernel
theorem dX5_tellSky_46 : decode cX5_tellSky 46 = .ok (.getfield 38, 3) := by decide +kernel
theorem dX5_tellSky_49 : decode cX5_tellSky 49 = .ok (.getfield 96, 3) := by decide +kernel
theorem dX5_tellSky_52 : decode cX5_tellSky 52 = .ok (.istore_n 2, 1) := by decide +kernel
theorem dX5_tellSky_53 : decode cX5_tellSky 53 = .ok (.aload_n 0, 1) := by decide +kernel
theorem dX5_tellSky_54 : decode cX5_tellSky 54 = .ok (.getfield 38, 3) := by decide +kernel
theorem dX5_tellSky_57 : decode cX5_tellSky 57 = .ok (.getfield 149, 3) := by decide +kernel
theorem dX5_tellSky_60 : decode cX5_tellSky 60 = .ok (.iload_n 2, 1) := by decide +kernel
theorem dX5_tellSky_61 : decode cX5_tellSky 61 = .ok (.iconst 0, 1) := by decide +kernel
theorem dX5_tellSky_62 : decode cX5_tellSky 62 = .ok (.iastore, 1) := by decide +kernel
theorem dX5_tellSky_63 : decode cX5_tellSky 63 = .ok (.aload_n 0, 1) := by decide +kernel
theorem dX5_tellSky_64 : decode cX5_tellSky 64 = .ok (.invokevirtual 42, 3) := by decide +kernel
theorem dX5_tellSky_67 : decode cX5_tellSky 67 = .ok (.bipush 21, 2) := by decide +kernel
theorem dX5_tellSky_69 : decode cX5_tellSky 69 = .ok (.if_icmp .ne 49, 3) := by decide +kernel
theorem dX5_tellSky_72 : decode cX5_tellSky 72 = .ok (.aload_n 0, 1) := by decide +kernel
theorem dX5_tellSky_73 : decode cX5_tellSky 73 = .ok (.bipush 21, 2) := by decide +kernel
theorem dX5_tellSky_75 : decode cX5_tellSky 75 = .ok (.invokevirtual 103, 3) := by decide +kernel
theorem dX5_tellSky_78 : decode cX5_tellSky 78 = .ok (.ifCond .eq 40, 3) := by decide +kernel
theorem dX5_tellSky_81 : decode cX5_tellSky 81 = .ok (.aload_n 0, 1) := by decide +kernel
theorem dX5_tellSky_82 : decode cX5_tellSky 82 = .ok (.iconst 3, 1) := by decide +kernel
theorem dX5_tellSky_83 : decode cX5_tellSky 83 = .ok (.invokevirtual 103, 3) := by decide +kernel
theorem dX5_tellSky_86 : decode cX5_tellSky 86 = .ok (.ifCond .eq 32, 3) := by decide +kernel
theorem dX5_tellSky_89 : decode cX5_tellSky 89 = .ok (.aload_n 0, 1) := by decide +kernel
theorem dX5_tellSky_90 : decode cX5_tellSky 90 = .ok (.bipush 20, 2) := by decide +kernel
theorem dX5_tellSky_92 : decode cX5_tellSky 92 = .ok (.iload_n 1, 1) := by decide +kernel
theorem dX5_tellSky_93 : decode cX5_tellSky 93 = .ok (.iconst 3, 1) := by decide +kernel
theorem dX5_tellSky_94 : decode cX5_tellSky 94 = .ok (.iadd, 1) := by decide +kernel
theorem dX5_tellSky_95 : decode cX5_tellSky 95 = .ok (.invokevirtual 110, 3) := by decide +kernel
theorem dX5_tellSky_98 : decode cX5_tellSky 98 = .ok (.aload_n 0, 1) := by decide +kernel
theorem dX5_tellSky_99 : decode cX5_tellSky 99 = .ok (.getfield 38, 3) := by decide +kernel
theorem dX5_tellSky_102 : decode cX5_tellSky 102 = .ok (.getfield 149, 3) := by decide +kernel
theorem dX5_tellSky_105 : decode cX5_tellSky 105 = .ok (.iload_n 2, 1) := by decide +kernel
theorem dX5_tellSky_106 : decode cX5_tellSky 106 = .ok (.aload_n 0, 1) := by decide +kernel
theorem dX5_tellSky_107 : decode cX5_tellSky 107 = .ok (.getfield 34, 3) := by decide +kernel
theorem dX5_tellSky_110 : decode cX5_tellSky 110 = .ok (.getfield 77, 3) := by decide +kernel
theorem dX5_tellSky_113 : decode cX5_tellSky 113 = .ok (.iload_n 1, 1) := by decide +kernel
theorem dX5_tellSky_114 : decode cX5_tellSky 114 = .ok (.iconst 3, 1) := by decide +kernel
theorem dX5_tellSky_115 : decode cX5_tellSky 115 = .ok (.iadd, 1) := by decide +kernel
theorem dX5_tellSky_116 : decode cX5_tellSky 116 = .ok (.iaload, 1) := by decide +kernel
theorem dX5_tellSky_117 : decode cX5_tellSky 117 = .ok (.iastore, 1) := by decide +kernel
theorem dX5_tellSky_118 : decode cX5_tellSky 118 = .ok (.aload_n 0, 1) := by decide +kernel
theorem dX5_tellSky_119 : decode cX5_tellSky 119 = .ok (.getfield 31, 3) := by decide +kernel
theorem dX5_tellSky_122 : decode cX5_tellSky 122 = .ok (.iload_n 2, 1) := by decide +kernel
theorem dX5_tellSky_123 : decode cX5_tellSky 123 = .ok (.aload_n 0, 1) := by decide +kernel
theorem dX5_tellSky_124 : decode cX5_tellSky 124 = .ok (.getfield 34, 3) := by decide +kernel
theorem dX5_tellSky_127 : decode cX5_tellSky 127 = .ok (.getfield 89, 3) := by decide +kernel
theorem dX5_tellSky_130 : decode cX5_tellSky 130 = .ok (.iload_n 1, 1) := by decide +kernel
theorem dX5_tellSky_131 : decode cX5_tellSky 131 = .ok (.iconst 1, 1) := by decide +kernel
theorem dX5_tellSky_132 : decode cX5_tellSky 132 = .ok (.iadd, 1) := by decide +kernel
theorem dX5_tellSky_133 : decode cX5_tellSky 133 = .ok (.laload, 1) := by decide +kernel
theorem dX5_tellSky_134 : decode cX5_tellSky 134 = .ok (.lastore, 1) := by decide +kernel
theorem dX5_tellSky_135 : decode cX5_tellSky 135 = .ok (.aload_n 0, 1) := by decide +kernel
theorem dX5_tellSky_136 : decode cX5_tellSky 136 = .ok (.iconst 5, 1) := by decide +kernel
theorem dX5_tellSky_137 : decode cX5_tellSky 137 = .ok (.invokevirtual 103, 3) := by decide +kernel
theorem dX5_tellSky_140 : decode cX5_tellSky 140 = .ok (.pop, 1) := by decide +kernel
theorem dX5_tellSky_141 : decode cX5_tellSky 141 = .ok (.aload_n 0, 1) := by decide +kernel
theorem dX5_tellSky_142 : decode cX5_tellSky 142 = .ok (.getfield 38, 3) := by decide +kernel
theorem dX5_tellSky_145 : decode cX5_tellSky 145 = .ok (.getfield 152, 3) := by decide +kernel
theorem dX5_tellSky_148 : decode cX5_tellSky 148 = .ok (.iload_n 2, 1) := by decide +kernel
theorem dX5_tellSky_149 : decode cX5_tellSky 149 = .ok (.invokevirtual 156, 3) := by decide +kernel
theorem dX5_tellSky_152 : decode cX5_tellSky 152 = .ok (.aload_n 0, 1) := by decide +kernel
theorem dX5_tellSky_153 : decode cX5_tellSky 153 = .ok (.iconst 0, 1) := by decide +kernel
theorem dX5_tellSky_154 : decode cX5_tellSky 154 = .ok (.invokevirtual 161, 3) := by decide +kernel
theorem dX5_tellSky_157 : decode cX5_tellSky 157 = .ok (.aload_n 0, 1) := by decide +kernel
theorem dX5_tellSky_158 : decode cX5_tellSky 158 = .ok (.getfield 38, 3) := by decide +kernel
theorem dX5_tellSky_161 : decode cX5_tellSky 161 = .ok (.getfield 152, 3) := by decide +kernel
theorem dX5_tellSky_164 : decode cX5_tellSky 164 = .ok (.iload_n 2, 1) := by decide +kernel
theorem dX5_tellSky_165 : decode cX5_tellSky 165 = .ok (.invokevirtual 164, 3) := by decide +kernel
theorem dX5_tellSky_168 : decode cX5_tellSky 168 = .ok (.aload_n 0, 1) := by decide +kernel
theorem dX5_tellSky_169 : decode cX5_tellSky 169 = .ok (.iconst 4, 1) := by decide +kernel
theorem dX5_tellSky_170 : decode cX5_tellSky 170 = .ok (.invokevirtual 103, 3) := by decide +kernel
theorem dX5_tellSky_173 : decode cX5_tellSky 173 = .ok (.pop, 1) := by decide +kernel
theorem dX5_tellSky_174 : decode cX5_tellSky 174 = .ok (.aload_n 0, 1) := by decide +kernel
theorem dX5_tellSky_175 : decode cX5_tellSky 175 = .ok (.getfield 38, 3) := by decide +kernel
theorem dX5_tellSky_178 : decode cX5_tellSky 178 = .ok (.dup, 1) := by decide +kernel
theorem dX5_tellSky_179 : decode cX5_tellSky 179 = .ok (.getfield 96, 3) := by decide +kernel
theorem dX5_tellSky_182 : decode cX5_tellSky 182 = .ok (.iconst 1, 1) := by decide +kernel
theorem dX5_tellSky_183 : decode cX5_tellSky 183 = .ok (.iadd, 1) := by decide +kernel
theorem dX5_tellSky_184 : decode cX5_tellSky 184 = .ok (.putfield 96, 3) := by decide +kernel
theorem dX5_tellSky_187 : decode cX5_tellSky 187 = .ok (.return_, 1) := by decide +kernel
theorem dX5_tellRule_0 : decode cX5_tellRule 0 = .ok (.aload_n 0, 1) := by decide +kernel
theorem dX5_tellRule_1 : decode cX5_tellRule 1 = .ok (.aload_n 0, 1) := by decide +kernel
theorem dX5_tellRule_2 : decode cX5_tellRule 2 = .ok (.getfield 38, 3) := by decide +kernel
theorem dX5_tellRule_5 : decode cX5_tellRule 5 = .ok (.getfield 167, 3) := by decide +kernel
theorem dX5_tellRule_8 : decode cX5_tellRule 8 = .ok (.bipush 6, 2) := by decide +kernel
theorem dX5_tellRule_10 : decode cX5_tellRule 10 = .ok (.invokevirtual 99, 3) := by decide +kernel
theorem dX5_tellRule_13 : decode cX5_tellRule 13 = .ok (.ifCond .ne 4, 3) := by decide +kernel
theorem dX5_tellRule_16 : decode cX5_tellRule 16 = .ok (.return_, 1) := by decide +kernel
theorem dX5_tellRule_17 : decode cX5_tellRule 17 = .ok (.iconst 5, 1) := by decide +kernel
theorem dX5_tellRule_18 : decode cX5_tellRule 18 = .ok (.aload_n 0, 1) := by decide +kernel
theorem dX5_tellRule_19 : decode cX5_tellRule 19 = .ok (.getfield 38, 3) := by decide +kernel
theorem dX5_tellRule_22 : decode cX5_tellRule 22 = .ok (.getfield 167, 3) := by decide +kernel
theorem dX5_tellRule_25 : decode cX5_tellRule 25 = .ok (.iadd, 1) := by decide +kernel
theorem dX5_tellRule_26 : decode cX5_tellRule 26 = .ok (.istore_n 1, 1) := by decide +kernel
theorem dX5_tellRule_27 : decode cX5_tellRule 27 = .ok (.aload_n 0, 1) := by decide +kernel
theorem dX5_tellRule_28 : decode cX5_tellRule 28 = .ok (.bipush 23, 2) := by decide +kernel
theorem dX5_tellRule_30 : decode cX5_tellRule 30 = .ok (.invokevirtual 103, 3) := by decide +kernel
theorem dX5_tellRule_33 : decode cX5_tellRule 33 = .ok (.pop, 1) := by decide +kernel
theorem dX5_tellRule_34 : decode cX5_tellRule 34 = .ok (.aload_n 0, 1) := by decide +kernel
theorem dX5_tellRule_35 : decode cX5_tellRule 35 = .ok (.bipush 24, 2) := by decide +kernel
theorem dX5_tellRule_37 : decode cX5_tellRule 37 = .ok (.invokevirtual 103, 3) := by decide +kernel
theorem dX5_tellRule_40 : decode cX5_tellRule 40 = .ok (.pop, 1) := by decide +kernel
theorem dX5_tellRule_41 : decode cX5_tellRule 41 = .ok (.aload_n 0, 1) := by decide +kernel
theorem dX5_tellRule_42 : decode cX5_tellRule 42 = .ok (.getfield 38, 3) := by decide +kernel
theorem dX5_tellRule_45 : decode cX5_tellRule 45 = .ok (.getfield 152, 3) := by decide +kernel
theorem dX5_tellRule_48 : decode cX5_tellRule 48 = .ok (.iload_n 1, 1) := by decide +kernel
theorem dX5_tellRule_49 : decode cX5_tellRule 49 = .ok (.invokevirtual 156, 3) := by decide +kernel
theorem dX5_tellRule_52 : decode cX5_tellRule 52 = .ok (.aload_n 0, 1) := by decide +kernel
theorem dX5_tellRule_53 : decode cX5_tellRule 53 = .ok (.invokevirtual 170, 3) := by decide +kernel
theorem dX5_tellRule_56 : decode cX5_tellRule 56 = .ok (.iconst 0, 1) := by decide +kernel
theorem dX5_tellRule_57 : decode cX5_tellRule 57 = .ok (.istore_n 2, 1) := by decide +kernel
theorem dX5_tellRule_58 : decode cX5_tellRule 58 = .ok (.iconst 0, 1) := by decide +kernel
theorem dX5_tellRule_59 : decode cX5_tellRule 59 = .ok (.istore_n 3, 1) := by decide +kernel
theorem dX5_tellRule_60 : decode cX5_tellRule 60 = .ok (.iload_n 3, 1) := by decide +kernel
theorem dX5_tellRule_61 : decode cX5_tellRule 61 = .ok (.sipush 400, 3) := by decide +kernel
theorem dX5_tellRule_64 : decode cX5_tellRule 64 = .ok (.if_icmp .ge 95, 3) := by decide +kernel
theorem dX5_tellRule_67 : decode cX5_tellRule 67 = .ok (.aload_n 0, 1) := by decide +kernel
theorem dX5_tellRule_68 : decode cX5_tellRule 68 = .ok (.getfield 9, 3) := by decide +kernel
theorem dX5_tellRule_71 : decode cX5_tellRule 71 = .ok (.ifCond .ne 88, 3) := by decide +kernel
theorem dX5_tellRule_74 : decode cX5_tellRule 74 = .ok (.aload_n 0, 1) := by decide +kernel
theorem dX5_tellRule_75 : decode cX5_tellRule 75 = .ok (.invokevirtual 42, 3) := by decide +kernel
theorem dX5_tellRule_78 : decode cX5_tellRule 78 = .ok (.bipush 26, 2) := by decide +kernel
theorem dX5_tellRule_80 : decode cX5_tellRule 80 = .ok (.if_icmp .ne 32, 3) := by decide +kernel
theorem dX5_tellRule_83 : decode cX5_tellRule 83 = .ok (.aload_n 0, 1) := by decide +kernel
theorem dX5_tellRule_84 : decode cX5_tellRule 84 = .ok (.bipush 26, 2) := by decide +kernel
theorem dX5_tellRule_86 : decode cX5_tellRule 86 = .ok (.invokevirtual 103, 3) := by decide +kernel
theorem dX5_tellRule_89 : decode cX5_tellRule 89 = .ok (.ifCond .eq 23, 3) := by decide +kernel
theorem dX5_tellRule_92 : decode cX5_tellRule 92 = .ok (.aload_n 0, 1) := by decide +kernel
theorem dX5_tellRule_93 : decode cX5_tellRule 93 = .ok (.invokevirtual 170, 3) := by decide +kernel
theorem dX5_tellRule_96 : decode cX5_tellRule 96 = .ok (.aload_n 0, 1) := by decide +kernel
theorem dX5_tellRule_97 : decode cX5_tellRule 97 = .ok (.getfield 38, 3) := by decide +kernel
theorem dX5_tellRule_100 : decode cX5_tellRule 100 = .ok (.getfield 152, 3) := by decide +kernel
theorem dX5_tellRule_103 : decode cX5_tellRule 103 = .ok (.bipush 26, 2) := by decide +kernel
theorem dX5_tellRule_105 : decode cX5_tellRule 105 = .ok (.iconst 0, 1) := by decide +kernel
theorem dX5_tellRule_106 : decode cX5_tellRule 106 = .ok (.invokevirtual 173, 3) := by decide +kernel
theorem dX5_tellRule_109 : decode cX5_tellRule 109 = .ok (.goto 44, 3) := by decide +kernel
theorem dX5_tellRule_112 : decode cX5_tellRule 112 = .ok (.aload_n 0, 1) := by decide +kernel
theorem dX5_tellRule_113 : decode cX5_tellRule 113 = .ok (.invokevirtual 42, 3) := by decide +kernel
theorem dX5_tellRule_116 : decode cX5_tellRule 116 = .ok (.bipush 25, 2) := by decide +kernel
theorem dX5_tellRule_118 : decode cX5_tellRule 118 = .ok (.if_icmp .ne 41, 3) := by decide +kernel
theorem dX5_tellRule_121 : decode cX5_tellRule 121 = .ok (.aload_n 0, 1) := by decide +kernel
theorem dX5_tellRule_122 : decode cX5_tellRule 122 = .ok (.bipush 25, 2) := by decide +kernel
theorem dX5_tellRule_124 : decode cX5_tellRule 124 = .ok (.invokevirtual 103, 3) := by decide +kernel
theorem dX5_tellRule_127 : decode cX5_tellRule 127 = .ok (.ifCond .eq 32, 3) := by decide +kernel
theorem dX5_tellRule_130 : decode cX5_tellRule 130 = .ok (.iload_n 2, 1) := by decide +kernel
theorem dX5_tellRule_131 : decode cX5_tellRule 131 = .ok (.ifCond .eq 16, 3) := by decide +kernel
theorem dX5_tellRule_134 : decode cX5_tellRule 134 = .ok (.aload_n 0, 1) := by decide +kernel
theorem dX5_tellRule_135 : decode cX5_tellRule 135 = .ok (.getfield 38, 3) := by decide +kernel
theorem dX5_tellRule_138 : decode cX5_tellRule 138 = .ok (.getfield 152, 3) := by decide +kernel
theorem dX5_tellRule_141 : decode cX5_tellRule 141 = .ok (.bipush 25, 2) := by decide +kernel
theorem dX5_tellRule_143 : decode cX5_tellRule 143 = .ok (.iconst 0, 1) := by decide +kernel
theorem dX5_tellRule_144 : decode cX5_tellRule 144 = .ok (.invokevirtual 173, 3) := by decide +kernel
theorem dX5_tellRule_147 : decode cX5_tellRule 147 = .ok (.iconst 1, 1) := by decide +kernel
theorem dX5_tellRule_148 : decode cX5_tellRule 148 = .ok (.istore_n 2, 1) := by decide +kernel
theorem dX5_tellRule_149 : decode cX5_tellRule 149 = .ok (.aload_n 0, 1) := by decide +kernel
theorem dX5_tellRule_150 : decode cX5_tellRule 150 = .ok (.invokevirtual 170, 3) := by decide +kernel
theorem dX5_tellRule_153 : decode cX5_tellRule 153 = .ok (.iinc 3 1, 3) := by decide +kernel
theorem dX5_tellRule_156 : decode cX5_tellRule 156 = .ok (.goto (-96), 3) := by decide +kernel
theorem dX5_tellRule_159 : decode cX5_tellRule 159 = .ok (.iload_n 2, 1) := by decide +kernel
theorem dX5_tellRule_160 : decode cX5_tellRule 160 = .ok (.ifCond .eq 16, 3) := by decide +kernel
theorem dX5_tellRule_163 : decode cX5_tellRule 163 = .ok (.aload_n 0, 1) := by decide +kernel
theorem dX5_tellRule_164 : decode cX5_tellRule 164 = .ok (.getfield 38, 3) := by decide +kernel
theorem dX5_tellRule_167 : decode cX5_tellRule 167 = .ok (.getfield 152, 3) := by decide +kernel
theorem dX5_tellRule_170 : decode cX5_tellRule 170 = .ok (.bipush 25, 2) := by decide +kernel
theorem dX5_tellRule_172 : decode cX5_tellRule 172 = .ok (.iconst 0, 1) := by decide +kernel
theorem dX5_tellRule_173 : decode cX5_tellRule 173 = .ok (.invokevirtual 173, 3) := by decide +kernel
theorem dX5_tellRule_176 : decode cX5_tellRule 176 = .ok (.aload_n 0, 1) := by decide +kernel
theorem dX5_tellRule_177 : decode cX5_tellRule 177 = .ok (.getfield 38, 3) := by decide +kernel
theorem dX5_tellRule_180 : decode cX5_tellRule 180 = .ok (.getfield 152, 3) := by decide +kernel
theorem dX5_tellRule_183 : decode cX5_tellRule 183 = .ok (.iload_n 1, 1) := by decide +kernel
theorem dX5_tellRule_184 : decode cX5_tellRule 184 = .ok (.invokevirtual 164, 3) := by decide +kernel
theorem dX5_tellRule_187 : decode cX5_tellRule 187 = .ok (.aload_n 0, 1) := by decide +kernel
theorem dX5_tellRule_188 : decode cX5_tellRule 188 = .ok (.iconst 4, 1) := by decide +kernel
theorem dX5_tellRule_189 : decode cX5_tellRule 189 = .ok (.invokevirtual 103, 3) := by decide +kernel
theorem dX5_tellRule_192 : decode cX5_tellRule 192 = .ok (.pop, 1) := by decide +kernel
theorem dX5_tellRule_193 : decode cX5_tellRule 193 = .ok (.aload_n 0, 1) := by decide +kernel
theorem dX5_tellRule_194 : decode cX5_tellRule 194 = .ok (.getfield 38, 3) := by decide +kernel
theorem dX5_tellRule_197 : decode cX5_tellRule 197 = .ok (.dup, 1) := by decide +kernel
theorem dX5_tellRule_198 : decode cX5_tellRule 198 = .ok (.getfield 167, 3) := by decide +kernel
theorem dX5_tellRule_201 : decode cX5_tellRule 201 = .ok (.iconst 1, 1) := by decide +kernel
theorem dX5_tellRule_202 : decode cX5_tellRule 202 = .ok (.iadd, 1) := by decide +kernel
theorem dX5_tellRule_203 : decode cX5_tellRule 203 = .ok (.putfield 167, 3) := by decide +kernel
theorem dX5_tellRule_206 : decode cX5_tellRule 206 = .ok (.return_, 1) := by decide +kernel
theorem dX5_literal_0 : decode cX5_literal 0 = .ok (.iconst 0, 1) := by decide +kernel
theorem dX5_literal_1 : decode cX5_literal 1 = .ok (.istore_n 1, 1) := by decide +kernel
theorem dX5_literal_2 : decode cX5_literal 2 = .ok (.iconst 0, 1) := by decide +kernel
theorem dX5_literal_3 : decode cX5_literal 3 = .ok (.istore_n 2, 1) := by decide +kernel
theorem dX5_literal_4 : decode cX5_literal 4 = .ok (.iload_n 2, 1) := by decide +kernel
theorem dX5_literal_5 : decode cX5_literal 5 = .ok (.sipush 400, 3) := by decide +kernel
theorem dX5_literal_8 : decode cX5_literal 8 = .ok (.if_icmp .ge 37, 3) := by decide +kernel
theorem dX5_literal_11 : decode cX5_literal 11 = .ok (.aload_n 0, 1) := by decide +kernel
theorem dX5_literal_12 : decode cX5_literal 12 = .ok (.invokevirtual 42, 3) := by decide +kernel
theorem dX5_literal_15 : decode cX5_literal 15 = .ok (.bipush 27, 2) := by decide +kernel
theorem dX5_literal_17 : decode cX5_literal 17 = .ok (.if_icmp .ne 28, 3) := by decide +kernel
theorem dX5_literal_20 : decode cX5_literal 20 = .ok (.aload_n 0, 1) := by decide +kernel
theorem dX5_literal_21 : decode cX5_literal 21 = .ok (.bipush 27, 2) := by decide +kernel
theorem dX5_literal_23 : decode cX5_literal 23 = .ok (.invokevirtual 103, 3) := by decide +kernel
theorem dX5_literal_26 : decode cX5_literal 26 = .ok (.ifCond .eq 19, 3) := by decide +kernel
theorem dX5_literal_29 : decode cX5_literal 29 = .ok (.iload_n 1, 1) := by decide +kernel
theorem dX5_literal_30 : decode cX5_literal 30 = .ok (.ifCond .ne 7, 3) := by decide +kernel
theorem dX5_literal_33 : decode cX5_literal 33 = .ok (.iconst 1, 1) := by decide +kernel
theorem dX5_literal_34 : decode cX5_literal 34 = .ok (.goto 4, 3) := by decide +kernel
theorem dX5_literal_37 : decode cX5_literal 37 = .ok (.iconst 0, 1) := by decide +kernel
theorem dX5_literal_38 : decode cX5_literal 38 = .ok (.istore_n 1, 1) := by decide +kernel
theorem dX5_literal_39 : decode cX5_literal 39 = .ok (.iinc 2 1, 3) := by decide +kernel
theorem dX5_literal_42 : decode cX5_literal 42 = .ok (.goto (-38), 3) := by decide +kernel
theorem dX5_literal_45 : decode cX5_literal 45 = .ok (.aload_n 0, 1) := by decide +kernel
theorem dX5_literal_46 : decode cX5_literal 46 = .ok (.iconst 0, 1) := by decide +kernel
theorem dX5_literal_47 : decode cX5_literal 47 = .ok (.invokevirtual 161, 3) := by decide +kernel
theorem dX5_literal_50 : decode cX5_literal 50 = .ok (.aload_n 0, 1) := by decide +kernel
theorem dX5_literal_51 : decode cX5_literal 51 = .ok (.invokevirtual 42, 3) := by decide +kernel
theorem dX5_literal_54 : decode cX5_literal 54 = .ok (.istore_n 2, 1) := by decide +kernel
theorem dX5_literal_55 : decode cX5_literal 55 = .ok (.iload_n 2, 1) := by decide +kernel
theorem dX5_literal_56 : decode cX5_literal 56 = .ok (.bipush 10, 2) := by decide +kernel
theorem dX5_literal_58 : decode cX5_literal 58 = .ok (.if_icmp .lt 9, 3) := by decide +kernel
theorem dX5_literal_61 : decode cX5_literal 61 = .ok (.iload_n 2, 1) := by decide +kernel
theorem dX5_literal_62 : decode cX5_literal 62 = .ok (.bipush 13, 2) := by decide +kernel
theorem dX5_literal_64 : decode cX5_literal 64 = .ok (.if_icmp .le 8, 3) := by decide +kernel
theorem dX5_literal_67 : decode cX5_literal 67 = .ok (.aload_n 0, 1) := by decide +kernel
theorem dX5_literal_68 : decode cX5_literal 68 = .ok (.iconst 1, 1) := by decide +kernel
theorem dX5_literal_69 : decode cX5_literal 69 = .ok (.invokevirtual 65, 3) := by decide +kernel
theorem dX5_literal_72 : decode cX5_literal 72 = .ok (.aload_n 0, 1) := by decide +kernel
theorem dX5_literal_73 : decode cX5_literal 73 = .ok (.iload_n 2, 1) := by decide +kernel
theorem dX5_literal_74 : decode cX5_literal 74 = .ok (.invokevirtual 103, 3) := by decide +kernel
theorem dX5_literal_77 : decode cX5_literal 77 = .ok (.pop, 1) := by decide +kernel
theorem dX5_literal_78 : decode cX5_literal 78 = .ok (.aload_n 0, 1) := by decide +kernel
theorem dX5_literal_79 : decode cX5_literal 79 = .ok (.iconst 0, 1) := by decide +kernel
theorem dX5_literal_80 : decode cX5_literal 80 = .ok (.invokevirtual 161, 3) := by decide +kernel
theorem dX5_literal_83 : decode cX5_literal 83 = .ok (.aload_n 0, 1) := by decide +kernel
theorem dX5_literal_84 : decode cX5_literal 84 = .ok (.getfield 38, 3) := by decide +kernel
theorem dX5_literal_87 : decode cX5_literal 87 = .ok (.getfield 152, 3) := by decide +kernel
theorem dX5_literal_90 : decode cX5_literal 90 = .ok (.iload_n 2, 1) := by decide +kernel
theorem dX5_literal_91 : decode cX5_literal 91 = .ok (.iconst 0, 1) := by decide +kernel
theorem dX5_literal_92 : decode cX5_literal 92 = .ok (.invokevirtual 173, 3) := by decide +kernel
theorem dX5_literal_95 : decode cX5_literal 95 = .ok (.iload_n 1, 1) := by decide +kernel
theorem dX5_literal_96 : decode cX5_literal 96 = .ok (.ifCond .eq 16, 3) := by decide +kernel
theorem dX5_literal_99 : decode cX5_literal 99 = .ok (.aload_n 0, 1) := by decide +kernel
theorem dX5_literal_100 : decode cX5_literal 100 = .ok (.getfield 38, 3) := by decide +kernel
theorem dX5_literal_103 : decode cX5_literal 103 = .ok (.getfield 152, 3) := by decide +kernel
theorem dX5_literal_106 : decode cX5_literal 106 = .ok (.bipush 27, 2) := by decide +kernel
theorem dX5_literal_108 : decode cX5_literal 108 = .ok (.iconst 0, 1) := by decide +kernel
theorem dX5_literal_109 : decode cX5_literal 109 = .ok (.invokevirtual 173, 3) := by decide +kernel
theorem dX5_literal_112 : decode cX5_literal 112 = .ok (.return_, 1) := by decide +kernel
theorem dX5_sum_0 : decode cX5_sum 0 = .ok (.aload_n 0, 1) := by decide +kernel
theorem dX5_sum_1 : decode cX5_sum 1 = .ok (.iload_n 1, 1) := by decide +kernel
theorem dX5_sum_2 : decode cX5_sum 2 = .ok (.invokevirtual 176, 3) := by decide +kernel
theorem dX5_sum_5 : decode cX5_sum 5 = .ok (.iconst 0, 1) := by decide +kernel
theorem dX5_sum_6 : decode cX5_sum 6 = .ok (.istore_n 2, 1) := by decide +kernel
theorem dX5_sum_7 : decode cX5_sum 7 = .ok (.iload_n 2, 1) := by decide +kernel
theorem dX5_sum_8 : decode cX5_sum 8 = .ok (.sipush 400, 3) := by decide +kernel
theorem dX5_sum_11 : decode cX5_sum 11 = .ok (.if_icmp .ge 59, 3) := by decide +kernel
theorem dX5_sum_14 : decode cX5_sum 14 = .ok (.aload_n 0, 1) := by decide +kernel
theorem dX5_sum_15 : decode cX5_sum 15 = .ok (.getfield 9, 3) := by decide +kernel
theorem dX5_sum_18 : decode cX5_sum 18 = .ok (.ifCond .ne 52, 3) := by decide +kernel
theorem dX5_sum_21 : decode cX5_sum 21 = .ok (.aload_n 0, 1) := by decide +kernel
theorem dX5_sum_22 : decode cX5_sum 22 = .ok (.invokevirtual 42, 3) := by decide +kernel
theorem dX5_sum_25 : decode cX5_sum 25 = .ok (.istore_n 3, 1) := by decide +kernel
theorem dX5_sum_26 : decode cX5_sum 26 = .ok (.iload_n 3, 1) := by decide +kernel
theorem dX5_sum_27 : decode cX5_sum 27 = .ok (.bipush 6, 2) := by decide +kernel
theorem dX5_sum_29 : decode cX5_sum 29 = .ok (.if_icmp .eq 12, 3) := by decide +kernel
theorem dX5_sum_32 : decode cX5_sum 32 = .ok (.iload_n 3, 1) := by decide +kernel
theorem dX5_sum_33 : decode cX5_sum 33 = .ok (.bipush 7, 2) := by decide +kernel
theorem dX5_sum_35 : decode cX5_sum 35 = .ok (.if_icmp .eq 6, 3) := by decide +kernel
theorem dX5_sum_38 : decode cX5_sum 38 = .ok (.goto 32, 3) := by decide +kernel
theorem dX5_sum_41 : decode cX5_sum 41 = .ok (.aload_n 0, 1) := by decide +kernel
theorem dX5_sum_42 : decode cX5_sum 42 = .ok (.iload_n 3, 1) := by decide +kernel
theorem dX5_sum_43 : decode cX5_sum 43 = .ok (.invokevirtual 103, 3) := by decide +kernel
theorem dX5_sum_46 : decode cX5_sum 46 = .ok (.pop, 1) := by decide +kernel
theorem dX5_sum_47 : decode cX5_sum 47 = .ok (.aload_n 0, 1) := by decide +kernel
theorem dX5_sum_48 : decode cX5_sum 48 = .ok (.iload_n 1, 1) := by decide +kernel
theorem dX5_sum_49 : decode cX5_sum 49 = .ok (.invokevirtual 176, 3) := by decide +kernel
theorem dX5_sum_52 : decode cX5_sum 52 = .ok (.aload_n 0, 1) := by decide +kernel
theorem dX5_sum_53 : decode cX5_sum 53 = .ok (.getfield 38, 3) := by decide +kernel
theorem dX5_sum_56 : decode cX5_sum 56 = .ok (.getfield 152, 3) := by decide +kernel
theorem dX5_sum_59 : decode cX5_sum 59 = .ok (.iload_n 3, 1) := by decide +kernel
theorem dX5_sum_60 : decode cX5_sum 60 = .ok (.iconst 0, 1) := by decide +kernel
theorem dX5_sum_61 : decode cX5_sum 61 = .ok (.invokevirtual 173, 3) := by decide +kernel
theorem dX5_sum_64 : decode cX5_sum 64 = .ok (.iinc 2 1, 3) := by decide +kernel
theorem dX5_sum_67 : decode cX5_sum 67 = .ok (.goto (-60), 3) := by decide +kernel
theorem dX5_sum_70 : decode cX5_sum 70 = .ok (.return_, 1) := by decide +kernel
theorem dX5_product_0 : decode cX5_product 0 = .ok (.aload_n 0, 1) := by decide +kernel
theorem dX5_product_1 : decode cX5_product 1 = .ok (.iload_n 1, 1) := by decide +kernel
theorem dX5_product_2 : decode cX5_product 2 = .ok (.invokevirtual 179, 3) := by decide +kernel
theorem dX5_product_5 : decode cX5_product 5 = .ok (.iconst 0, 1) := by decide +kernel
theorem dX5_product_6 : decode cX5_product 6 = .ok (.istore_n 2, 1) := by decide +kernel
theorem dX5_product_7 : decode cX5_product 7 = .ok (.iload_n 2, 1) := by decide +kernel
theorem dX5_product_8 : decode cX5_product 8 = .ok (.sipush 400, 3) := by decide +kernel
theorem dX5_product_11 : decode cX5_product 11 = .ok (.if_icmp .ge 59, 3) := by decide +kernel
theorem dX5_product_14 : decode cX5_product 14 = .ok (.aload_n 0, 1) := by decide +kernel
theorem dX5_product_15 : decode cX5_product 15 = .ok (.getfield 9, 3) := by decide +kernel
theorem dX5_product_18 : decode cX5_product 18 = .ok (.ifCond .ne 52, 3) := by decide +kernel
theorem dX5_product_21 : decode cX5_product 21 = .ok (.aload_n 0, 1) := by decide +kernel
theorem dX5_product_22 : decode cX5_product 22 = .ok (.invokevirtual 42, 3) := by decide +kernel
theorem dX5_product_25 : decode cX5_product 25 = .ok (.istore_n 3, 1) := by decide +kernel
theorem dX5_product_26 : decode cX5_product 26 = .ok (.iload_n 3, 1) := by decide +kernel
theorem dX5_product_27 : decode cX5_product 27 = .ok (.bipush 8, 2) := by decide +kernel
theorem dX5_product_29 : decode cX5_product 29 = .ok (.if_icmp .eq 12, 3) := by decide +kernel
theorem dX5_product_32 : decode cX5_product 32 = .ok (.iload_n 3, 1) := by decide +kernel
theorem dX5_product_33 : decode cX5_product 33 = .ok (.bipush 9, 2) := by decide +kernel
theorem dX5_product_35 : decode cX5_product 35 = .ok (.if_icmp .eq 6, 3) := by decide +kernel
theorem dX5_product_38 : decode cX5_product 38 = .ok (.goto 32, 3) := by decide +kernel
theorem dX5_product_41 : decode cX5_product 41 = .ok (.aload_n 0, 1) := by decide +kernel
theorem dX5_product_42 : decode cX5_product 42 = .ok (.iload_n 3, 1) := by decide +kernel
theorem dX5_product_43 : decode cX5_product 43 = .ok (.invokevirtual 103, 3) := by decide +kernel
theorem dX5_product_46 : decode cX5_product 46 = .ok (.pop, 1) := by decide +kernel
theorem dX5_product_47 : decode cX5_product 47 = .ok (.aload_n 0, 1) := by decide +kernel
theorem dX5_product_48 : decode cX5_product 48 = .ok (.iload_n 1, 1) := by decide +kernel
theorem dX5_product_49 : decode cX5_product 49 = .ok (.invokevirtual 179, 3) := by decide +kernel
theorem dX5_product_52 : decode cX5_product 52 = .ok (.aload_n 0, 1) := by decide +kernel
theorem dX5_product_53 : decode cX5_product 53 = .ok (.getfield 38, 3) := by decide +kernel
theorem dX5_product_56 : decode cX5_product 56 = .ok (.getfield 152, 3) := by decide +kernel
theorem dX5_product_59 : decode cX5_product 59 = .ok (.iload_n 3, 1) := by decide +kernel
theorem dX5_product_60 : decode cX5_product 60 = .ok (.iconst 0, 1) := by decide +kernel
theorem dX5_product_61 : decode cX5_product 61 = .ok (.invokevirtual 173, 3) := by decide +kernel
theorem dX5_product_64 : decode cX5_product 64 = .ok (.iinc 2 1, 3) := by decide +kernel
theorem dX5_product_67 : decode cX5_product 67 = .ok (.goto (-60), 3) := by decide +kernel
theorem dX5_product_70 : decode cX5_product 70 = .ok (.return_, 1) := by decide +kernel
theorem dX5_unit_0 : decode cX5_unit 0 = .ok (.aload_n 0, 1) := by decide +kernel
theorem dX5_unit_1 : decode cX5_unit 1 = .ok (.invokevirtual 42, 3) := by decide +kernel
theorem dX5_unit_4 : decode cX5_unit 4 = .ok (.istore_n 2, 1) := by decide +kernel
theorem dX5_unit_5 : decode cX5_unit 5 = .ok (.aload_n 0, 1) := by decide +kernel
theorem dX5_unit_6 : decode cX5_unit 6 = .ok (.getfield 18, 3) := by decide +kernel
theorem dX5_unit_9 : decode cX5_unit 9 = .ok (.istore_n 3, 1) := by decide +kernel
theorem dX5_unit_10 : decode cX5_unit 10 = .ok (.iload_n 2, 1) := by decide +kernel
theorem dX5_unit_11 : decode cX5_unit 11 = .ok (.bipush 14, 2) := by decide +kernel
theorem dX5_unit_13 : decode cX5_unit 13 = .ok (.if_icmp .ne 17, 3) := by decide +kernel
theorem dX5_unit_16 : decode cX5_unit 16 = .ok (.iload_n 1, 1) := by decide +kernel
theorem dX5_unit_17 : decode cX5_unit 17 = .ok (.bipush 6, 2) := by decide +kernel
theorem dX5_unit_19 : decode cX5_unit 19 = .ok (.if_icmp .lt 11, 3) := by decide +kernel
theorem dX5_unit_22 : decode cX5_unit 22 = .ok (.aload_n 0, 1) := by decide +kernel
theorem dX5_unit_23 : decode cX5_unit 23 = .ok (.iconst 2, 1) := by decide +kernel
theorem dX5_unit_24 : decode cX5_unit 24 = .ok (.invokevirtual 65, 3) := by decide +kernel
theorem dX5_unit_27 : decode cX5_unit 27 = .ok (.goto 82, 3) := by decide +kernel
theorem dX5_unit_30 : decode cX5_unit 30 = .ok (.iload_n 2, 1) := by decide +kernel
theorem dX5_unit_31 : decode cX5_unit 31 = .ok (.bipush 14, 2) := by decide +kernel
theorem dX5_unit_33 : decode cX5_unit 33 = .ok (.if_icmp .ne 29, 3) := by decide +kernel
theorem dX5_unit_36 : decode cX5_unit 36 = .ok (.aload_n 0, 1) := by decide +kernel
theorem dX5_unit_37 : decode cX5_unit 37 = .ok (.bipush 14, 2) := by decide +kernel
theorem dX5_unit_39 : decode cX5_unit 39 = .ok (.invokevirtual 103, 3) := by decide +kernel
theorem dX5_unit_42 : decode cX5_unit 42 = .ok (.ifCond .eq 67, 3) := by decide +kernel
theorem dX5_unit_45 : decode cX5_unit 45 = .ok (.aload_n 0, 1) := by decide +kernel
theorem dX5_unit_46 : decode cX5_unit 46 = .ok (.iload_n 1, 1) := by decide +kernel
theorem dX5_unit_47 : decode cX5_unit 47 = .ok (.iconst 1, 1) := by decide +kernel
theorem dX5_unit_48 : decode cX5_unit 48 = .ok (.iadd, 1) := by decide +kernel
theorem dX5_unit_49 : decode cX5_unit 49 = .ok (.invokevirtual 161, 3) := by decide +kernel
theorem dX5_unit_52 : decode cX5_unit 52 = .ok (.aload_n 0, 1) := by decide +kernel
theorem dX5_unit_53 : decode cX5_unit 53 = .ok (.bipush 15, 2) := by decide +kernel
theorem dX5_unit_55 : decode cX5_unit 55 = .ok (.invokevirtual 103, 3) := by decide +kernel
theorem dX5_unit_58 : decode cX5_unit 58 = .ok (.pop, 1) := by decide +kernel
theorem dX5_unit_59 : decode cX5_unit 59 = .ok (.goto 50, 3) := by decide +kernel
theorem dX5_unit_62 : decode cX5_unit 62 = .ok (.iload_n 2, 1) := by decide +kernel
theorem dX5_unit_63 : decode cX5_unit 63 = .ok (.iconst 3, 1) := by decide +kernel
theorem dX5_unit_64 : decode cX5_unit 64 = .ok (.if_icmp .eq 9, 3) := by decide +kernel
theorem dX5_unit_67 : decode cX5_unit 67 = .ok (.iload_n 2, 1) := by decide +kernel
theorem dX5_unit_68 : decode cX5_unit 68 = .ok (.bipush 28, 2) := by decide +kernel
theorem dX5_unit_70 : decode cX5_unit 70 = .ok (.if_icmp .lt 34, 3) := by decide +kernel
theorem dX5_unit_73 : decode cX5_unit 73 = .ok (.aload_n 0, 1) := by decide +kernel
theorem dX5_unit_74 : decode cX5_unit 74 = .ok (.iload_n 2, 1) := by decide +kernel
theorem dX5_unit_75 : decode cX5_unit 75 = .ok (.invokevirtual 103, 3) := by decide +kernel
theorem dX5_unit_78 : decode cX5_unit 78 = .ok (.ifCond .eq 31, 3) := by decide +kernel
theorem dX5_unit_81 : decode cX5_unit 81 = .ok (.aload_n 0, 1) := by decide +kernel
theorem dX5_unit_82 : decode cX5_unit 82 = .ok (.getfield 38, 3) := by decide +kernel
theorem dX5_unit_85 : decode cX5_unit 85 = .ok (.getfield 152, 3) := by decide +kernel
theorem dX5_unit_88 : decode cX5_unit 88 = .ok (.iload_n 2, 1) := by decide +kernel
theorem dX5_unit_89 : decode cX5_unit 89 = .ok (.aload_n 0, 1) := by decide +kernel
theorem dX5_unit_90 : decode cX5_unit 90 = .ok (.getfield 34, 3) := by decide +kernel
theorem dX5_unit_93 : decode cX5_unit 93 = .ok (.getfield 77, 3) := by decide +kernel
theorem dX5_unit_96 : decode cX5_unit 96 = .ok (.iload_n 3, 1) := by decide +kernel
theorem dX5_unit_97 : decode cX5_unit 97 = .ok (.iaload, 1) := by decide +kernel
theorem dX5_unit_98 : decode cX5_unit 98 = .ok (.invokevirtual 173, 3) := by decide +kernel
theorem dX5_unit_101 : decode cX5_unit 101 = .ok (.goto 8, 3) := by decide +kernel
theorem dX5_unit_104 : decode cX5_unit 104 = .ok (.aload_n 0, 1) := by decide +kernel
theorem dX5_unit_105 : decode cX5_unit 105 = .ok (.iconst 1, 1) := by decide +kernel
theorem dX5_unit_106 : decode cX5_unit 106 = .ok (.invokevirtual 65, 3) := by decide +kernel
theorem dX5_unit_109 : decode cX5_unit 109 = .ok (.return_, 1) := by decide +kernel
theorem dX6_init_0 : decode cX6_init 0 = .ok (.aload_n 0, 1) := by decide +kernel
theorem dX6_init_1 : decode cX6_init 1 = .ok (.invokespecial 3, 3) := by decide +kernel
theorem dX6_init_4 : decode cX6_init 4 = .ok (.aload_n 0, 1) := by decide +kernel
theorem dX6_init_5 : decode cX6_init 5 = .ok (.iconst 0, 1) := by decide +kernel
theorem dX6_init_6 : decode cX6_init 6 = .ok (.putfield 9, 3) := by decide +kernel
theorem dX6_init_9 : decode cX6_init 9 = .ok (.aload_n 0, 1) := by decide +kernel
theorem dX6_init_10 : decode cX6_init 10 = .ok (.iconst 5, 1) := by decide +kernel
theorem dX6_init_11 : decode cX6_init 11 = .ok (.newarray .int, 2) := by decide +kernel
theorem dX6_init_13 : decode cX6_init 13 = .ok (.putfield 15, 3) := by decide +kernel
theorem dX6_init_16 : decode cX6_init 16 = .ok (.aload_n 0, 1) := by decide +kernel
theorem dX6_init_17 : decode cX6_init 17 = .ok (.iconst 5, 1) := by decide +kernel
theorem dX6_init_18 : decode cX6_init 18 = .ok (.newarray .int, 2) := by decide +kernel
theorem dX6_init_20 : decode cX6_init 20 = .ok (.putfield 19, 3) := by decide +kernel
theorem dX6_init_23 : decode cX6_init 23 = .ok (.aload_n 0, 1) := by decide +kernel
theorem dX6_init_24 : decode cX6_init 24 = .ok (.bipush 9, 2) := by decide +kernel
theorem dX6_init_26 : decode cX6_init 26 = .ok (.newarray .int, 2) := by decide +kernel
theorem dX6_init_28 : decode cX6_init 28 = .ok (.putfield 22, 3) := by decide +kernel
theorem dX6_init_31 : decode cX6_init 31 = .ok (.return_, 1) := by decide +kernel
theorem dX6_rising_0 : decode cX6_rising 0 = .ok (.aload_n 0, 1) := by decide +kernel
theorem dX6_rising_1 : decode cX6_rising 1 = .ok (.getfield 22, 3) := by decide +kernel
theorem dX6_rising_4 : decode cX6_rising 4 = .ok (.iconst 0, 1) := by decide +kernel
theorem dX6_rising_5 : decode cX6_rising 5 = .ok (.iload_n 3, 1) := by decide +kernel
theorem dX6_rising_6 : decode cX6_rising 6 = .ok (.iastore, 1) := by decide +kernel
theorem dX6_rising_7 : decode cX6_rising 7 = .ok (.aload_n 0, 1) := by decide +kernel
theorem dX6_rising_8 : decode cX6_rising 8 = .ok (.getfield 22, 3) := by decide +kernel
theorem dX6_rising_11 : decode cX6_rising 11 = .ok (.iconst 1, 1) := by decide +kernel
theorem dX6_rising_12 : decode cX6_rising 12 = .ok (.iconst 0, 1) := by decide +kernel
theorem dX6_rising_13 : decode cX6_rising 13 = .ok (.iastore, 1) := by decide +kernel
theorem dX6_rising_14 : decode cX6_rising 14 = .ok (.aload_n 1, 1) := by decide +kernel
