theorem dX11_site_24 : decode cX11_site 24 = .ok (.ireturn, 1) := by decide +kernel
theorem dX11_site_25 : decode cX11_site 25 = .ok (.aload_n 0, 1) := by decide +kernel
theorem dX11_site_26 : decode cX11_site 26 = .ok (.getfield 89, 3) := by decide +kernel
theorem dX11_site_29 : decode cX11_site 29 = .ok (.aload_n 0, 1) := by decide +kernel
theorem dX11_site_30 : decode cX11_site 30 = .ok (.getfield 85, 3) := by decide +kernel
theorem dX11_site_33 : decode cX11_site 33 = .ok (.iload_n 1, 1) := by decide +kernel
theorem dX11_site_34 : decode cX11_site 34 = .ok (.iastore, 1) := by decide +kernel
theorem dX11_site_35 : decode cX11_site 35 = .ok (.aload_n 0, 1) := by decide +kernel
theorem dX11_site_36 : decode cX11_site 36 = .ok (.getfield 93, 3) := by decide +kernel
theorem dX11_site_39 : decode cX11_site 39 = .ok (.aload_n 0, 1) := by decide +kernel
theorem dX11_site_40 : decode cX11_site 40 = .ok (.getfield 85, 3) := by decide +kernel
theorem dX11_site_43 : decode cX11_site 43 = .ok (.iload_n 2, 1) := by decide +kernel
theorem dX11_site_44 : decode cX11_site 44 = .ok (.iastore, 1) := by decide +kernel
theorem dX11_site_45 : decode cX11_site 45 = .ok (.aload_n 0, 1) := by decide +kernel
theorem dX11_site_46 : decode cX11_site 46 = .ok (.dup, 1) := by decide +kernel
theorem dX11_site_47 : decode cX11_site 47 = .ok (.getfield 85, 3) := by decide +kernel
theorem dX11_site_50 : decode cX11_site 50 = .ok (.iconst 1, 1) := by decide +kernel
theorem dX11_site_51 : decode cX11_site 51 = .ok (.iadd, 1) := by decide +kernel
theorem dX11_site_52 : decode cX11_site 52 = .ok (.putfield 85, 3) := by decide +kernel
theorem dX11_site_55 : decode cX11_site 55 = .ok (.aload_n 0, 1) := by decide +kernel
theorem dX11_site_56 : decode cX11_site 56 = .ok (.getfield 85, 3) := by decide +kernel
theorem dX11_site_59 : decode cX11_site 59 = .ok (.iconst 1, 1) := by decide +kernel
theorem dX11_site_60 : decode cX11_site 60 = .ok (.isub, 1) := by decide +kernel
theorem dX11_site_61 : decode cX11_site 61 = .ok (.ireturn, 1) := by decide +kernel
theorem dX11_clear_0 : decode cX11_clear 0 = .ok (.aload_n 0, 1) := by decide +kernel
theorem dX11_clear_1 : decode cX11_clear 1 = .ok (.getfield 85, 3) := by decide +kernel
theorem dX11_clear_4 : decode cX11_clear 4 = .ok (.istore_n 1, 1) := by decide +kernel
theorem dX11_clear_5 : decode cX11_clear 5 = .ok (.aload_n 0, 1) := by decide +kernel
theorem dX11_clear_6 : decode cX11_clear 6 = .ok (.iconst 0, 1) := by decide +kernel
theorem dX11_clear_7 : decode cX11_clear 7 = .ok (.putfield 85, 3) := by decide +kernel
theorem dX11_clear_10 : decode cX11_clear 10 = .ok (.iload_n 1, 1) := by decide +kernel
theorem dX11_clear_11 : decode cX11_clear 11 = .ok (.ireturn, 1) := by decide +kernel
theorem dX11_pointing_0 : decode cX11_pointing 0 = .ok (.iload_n 1, 1) := by decide +kernel
theorem dX11_pointing_1 : decode cX11_pointing 1 = .ok (.invokestatic 180, 3) := by decide +kernel
theorem dX11_pointing_4 : decode cX11_pointing 4 = .ok (.ifCond .eq 13, 3) := by decide +kernel
theorem dX11_pointing_7 : decode cX11_pointing 7 = .ok (.iload_n 2, 1) := by decide +kernel
theorem dX11_pointing_8 : decode cX11_pointing 8 = .ok (.ifCond .lt 9, 3) := by decide +kernel
theorem dX11_pointing_11 : decode cX11_pointing 11 = .ok (.iload_n 2, 1) := by decide +kernel
theorem dX11_pointing_12 : decode cX11_pointing 12 = .ok (.bipush 20, 2) := by decide +kernel
theorem dX11_pointing_14 : decode cX11_pointing 14 = .ok (.if_icmp .le 5, 3) := by decide +kernel
theorem dX11_pointing_17 : decode cX11_pointing 17 = .ok (.iconst (-1), 1) := by decide +kernel
theorem dX11_pointing_18 : decode cX11_pointing 18 = .ok (.ireturn, 1) := by decide +kernel
theorem dX11_pointing_19 : decode cX11_pointing 19 = .ok (.aload_n 0, 1) := by decide +kernel
theorem dX11_pointing_20 : decode cX11_pointing 20 = .ok (.iload_n 1, 1) := by decide +kernel
theorem dX11_pointing_21 : decode cX11_pointing 21 = .ok (.iload_n 2, 1) := by decide +kernel
theorem dX11_pointing_22 : decode cX11_pointing 22 = .ok (.iload_n 3, 1) := by decide +kernel
theorem dX11_pointing_23 : decode cX11_pointing 23 = .ok (.ifCond .eq 10, 3) := by decide +kernel
theorem dX11_pointing_26 : decode cX11_pointing 26 = .ok (.aload_n 0, 1) := by decide +kernel
theorem dX11_pointing_27 : decode cX11_pointing 27 = .ok (.getfield 93, 3) := by decide +kernel
theorem dX11_pointing_30 : decode cX11_pointing 30 = .ok (.goto 7, 3) := by decide +kernel
theorem dX11_pointing_33 : decode cX11_pointing 33 = .ok (.aload_n 0, 1) := by decide +kernel
theorem dX11_pointing_34 : decode cX11_pointing 34 = .ok (.getfield 89, 3) := by decide +kernel
theorem dX11_pointing_37 : decode cX11_pointing 37 = .ok (.invokevirtual 306, 3) := by decide +kernel
theorem dX11_pointing_40 : decode cX11_pointing 40 = .ok (.ireturn, 1) := by decide +kernel
theorem dX11_chance_0 : decode cX11_chance 0 = .ok (.iload_n 1, 1) := by decide +kernel
theorem dX11_chance_1 : decode cX11_chance 1 = .ok (.invokestatic 180, 3) := by decide +kernel
theorem dX11_chance_4 : decode cX11_chance 4 = .ok (.ifCond .eq 13, 3) := by decide +kernel
theorem dX11_chance_7 : decode cX11_chance 7 = .ok (.iload_n 2, 1) := by decide +kernel
theorem dX11_chance_8 : decode cX11_chance 8 = .ok (.ifCond .lt 9, 3) := by decide +kernel
theorem dX11_chance_11 : decode cX11_chance 11 = .ok (.iload_n 2, 1) := by decide +kernel
theorem dX11_chance_12 : decode cX11_chance 12 = .ok (.bipush 20, 2) := by decide +kernel
theorem dX11_chance_14 : decode cX11_chance 14 = .ok (.if_icmp .le 7, 3) := by decide +kernel
theorem dX11_chance_17 : decode cX11_chance 17 = .ok (.ldc2_w 309, 3) := by decide +kernel
theorem dX11_chance_20 : decode cX11_chance 20 = .ok (.lreturn, 1) := by decide +kernel
theorem dX11_chance_21 : decode cX11_chance 21 = .ok (.iconst 2, 1) := by decide +kernel
theorem dX11_chance_22 : decode cX11_chance 22 = .ok (.iload_n 2, 1) := by decide +kernel
theorem dX11_chance_23 : decode cX11_chance 23 = .ok (.imul, 1) := by decide +kernel
theorem dX11_chance_24 : decode cX11_chance 24 = .ok (.iconst 1, 1) := by decide +kernel
theorem dX11_chance_25 : decode cX11_chance 25 = .ok (.iadd, 1) := by decide +kernel
theorem dX11_chance_26 : decode cX11_chance 26 = .ok (.istore_n 3, 1) := by decide +kernel
theorem dX11_chance_27 : decode cX11_chance 27 = .ok (.aload_n 0, 1) := by decide +kernel
theorem dX11_chance_28 : decode cX11_chance 28 = .ok (.getfield 85, 3) := by decide +kernel
theorem dX11_chance_31 : decode cX11_chance 31 = .ok (.aload_n 0, 1) := by decide +kernel
theorem dX11_chance_32 : decode cX11_chance 32 = .ok (.iload_n 1, 1) := by decide +kernel
theorem dX11_chance_33 : decode cX11_chance 33 = .ok (.iload_n 2, 1) := by decide +kernel
theorem dX11_chance_34 : decode cX11_chance 34 = .ok (.aload_n 0, 1) := by decide +kernel
theorem dX11_chance_35 : decode cX11_chance 35 = .ok (.getfield 89, 3) := by decide +kernel
theorem dX11_chance_38 : decode cX11_chance 38 = .ok (.invokevirtual 306, 3) := by decide +kernel
theorem dX11_chance_41 : decode cX11_chance 41 = .ok (.iload_n 3, 1) := by decide +kernel
theorem dX11_chance_42 : decode cX11_chance 42 = .ok (.sipush 360, 3) := by decide +kernel
theorem dX11_chance_45 : decode cX11_chance 45 = .ok (.iload_n 3, 1) := by decide +kernel
theorem dX11_chance_46 : decode cX11_chance 46 = .ok (.isub, 1) := by decide +kernel
theorem dX11_chance_47 : decode cX11_chance 47 = .ok (.invokestatic 311, 3) := by decide +kernel
theorem dX11_chance_50 : decode cX11_chance 50 = .ok (.lreturn, 1) := by decide +kernel
theorem dX11_made_0 : decode cX11_made 0 = .ok (.iload_n 2, 1) := by decide +kernel
theorem dX11_made_1 : decode cX11_made 1 = .ok (.iload_n 3, 1) := by decide +kernel
theorem dX11_made_2 : decode cX11_made 2 = .ok (.invokestatic 315, 3) := by decide +kernel
theorem dX11_made_5 : decode cX11_made 5 = .ok (.ifCond .ne 5, 3) := by decide +kernel
theorem dX11_made_8 : decode cX11_made 8 = .ok (.iconst (-1), 1) := by decide +kernel
theorem dX11_made_9 : decode cX11_made 9 = .ok (.ireturn, 1) := by decide +kernel
theorem dX11_made_10 : decode cX11_made 10 = .ok (.aload_n 0, 1) := by decide +kernel
theorem dX11_made_11 : decode cX11_made 11 = .ok (.getfield 60, 3) := by decide +kernel
theorem dX11_made_14 : decode cX11_made 14 = .ok (.aload_n 0, 1) := by decide +kernel
theorem dX11_made_15 : decode cX11_made 15 = .ok (.getfield 19, 3) := by decide +kernel
theorem dX11_made_18 : decode cX11_made 18 = .ok (.iconst 0, 1) := by decide +kernel
theorem dX11_made_19 : decode cX11_made 19 = .ok (.invokevirtual 226, 3) := by decide +kernel
theorem dX11_made_22 : decode cX11_made 22 = .ok (.aload_n 0, 1) := by decide +kernel
theorem dX11_made_23 : decode cX11_made 23 = .ok (.getfield 67, 3) := by decide +kernel
theorem dX11_made_26 : decode cX11_made 26 = .ok (.aload_n 0, 1) := by decide +kernel
theorem dX11_made_27 : decode cX11_made 27 = .ok (.getfield 60, 3) := by decide +kernel
theorem dX11_made_30 : decode cX11_made 30 = .ok (.aload_n 0, 1) := by decide +kernel
theorem dX11_made_31 : decode cX11_made 31 = .ok (.getfield 19, 3) := by decide +kernel
theorem dX11_made_34 : decode cX11_made 34 = .ok (.getfield 232, 3) := by decide +kernel
theorem dX11_made_37 : decode cX11_made 37 = .ok (.invokevirtual 318, 3) := by decide +kernel
theorem dX11_made_40 : decode cX11_made 40 = .ok (.aload_n 0, 1) := by decide +kernel
theorem dX11_made_41 : decode cX11_made 41 = .ok (.getfield 81, 3) := by decide +kernel
theorem dX11_made_44 : decode cX11_made 44 = .ok (.iload_n 1, 1) := by decide +kernel
theorem dX11_made_45 : decode cX11_made 45 = .ok (.iload_n 2, 1) := by decide +kernel
theorem dX11_made_46 : decode cX11_made 46 = .ok (.iload_n 3, 1) := by decide +kernel
theorem dX11_made_47 : decode cX11_made 47 = .ok (.aload_n 0, 1) := by decide +kernel
theorem dX11_made_48 : decode cX11_made 48 = .ok (.getfield 60, 3) := by decide +kernel
theorem dX11_made_51 : decode cX11_made 51 = .ok (.invokevirtual 322, 3) := by decide +kernel
theorem dX11_made_54 : decode cX11_made 54 = .ok (.aload_n 0, 1) := by decide +kernel
theorem dX11_made_55 : decode cX11_made 55 = .ok (.getfield 81, 3) := by decide +kernel
theorem dX11_made_58 : decode cX11_made 58 = .ok (.iload_n 2, 1) := by decide +kernel
theorem dX11_made_59 : decode cX11_made 59 = .ok (.aload_n 0, 1) := by decide +kernel
theorem dX11_made_60 : decode cX11_made 60 = .ok (.getfield 67, 3) := by decide +kernel
theorem dX11_made_63 : decode cX11_made 63 = .ok (.getfield 326, 3) := by decide +kernel
theorem dX11_made_66 : decode cX11_made 66 = .ok (.invokevirtual 328, 3) := by decide +kernel
theorem dX11_made_69 : decode cX11_made 69 = .ok (.ireturn, 1) := by decide +kernel
theorem dX11_madeAt_0 : decode cX11_madeAt 0 = .ok (.iload_n 2, 1) := by decide +kernel
theorem dX11_madeAt_1 : decode cX11_madeAt 1 = .ok (.iload_n 3, 1) := by decide +kernel
theorem dX11_madeAt_2 : decode cX11_madeAt 2 = .ok (.invokestatic 315, 3) := by decide +kernel
theorem dX11_madeAt_5 : decode cX11_madeAt 5 = .ok (.ifCond .eq 27, 3) := by decide +kernel
theorem dX11_madeAt_8 : decode cX11_madeAt 8 = .ok (.iload 4, 2) := by decide +kernel
theorem dX11_madeAt_10 : decode cX11_madeAt 10 = .ok (.ifCond .lt 22, 3) := by decide +kernel
theorem dX11_madeAt_13 : decode cX11_madeAt 13 = .ok (.iload 4, 2) := by decide +kernel
theorem dX11_madeAt_15 : decode cX11_madeAt 15 = .ok (.iconst 2, 1) := by decide +kernel
theorem dX11_madeAt_16 : decode cX11_madeAt 16 = .ok (.iload_n 2, 1) := by decide +kernel
theorem dX11_madeAt_17 : decode cX11_madeAt 17 = .ok (.imul, 1) := by decide +kernel
theorem dX11_madeAt_18 : decode cX11_madeAt 18 = .ok (.if_icmp .ge 14, 3) := by decide +kernel
theorem dX11_madeAt_21 : decode cX11_madeAt 21 = .ok (.iload 5, 2) := by decide +kernel
theorem dX11_madeAt_23 : decode cX11_madeAt 23 = .ok (.ifCond .lt 9, 3) := by decide +kernel
theorem dX11_madeAt_26 : decode cX11_madeAt 26 = .ok (.iload 5, 2) := by decide +kernel
theorem dX11_madeAt_28 : decode cX11_madeAt 28 = .ok (.iconst 1, 1) := by decide +kernel
theorem dX11_madeAt_29 : decode cX11_madeAt 29 = .ok (.if_icmp .le 7, 3) := by decide +kernel
theorem dX11_madeAt_32 : decode cX11_madeAt 32 = .ok (.sipush (-10000), 3) := by decide +kernel
theorem dX11_madeAt_35 : decode cX11_madeAt 35 = .ok (.ireturn, 1) := by decide +kernel
theorem dX11_madeAt_36 : decode cX11_madeAt 36 = .ok (.aload_n 0, 1) := by decide +kernel
theorem dX11_madeAt_37 : decode cX11_madeAt 37 = .ok (.getfield 60, 3) := by decide +kernel
theorem dX11_madeAt_40 : decode cX11_madeAt 40 = .ok (.aload_n 0, 1) := by decide +kernel
theorem dX11_madeAt_41 : decode cX11_madeAt 41 = .ok (.getfield 19, 3) := by decide +kernel
theorem dX11_madeAt_44 : decode cX11_madeAt 44 = .ok (.iconst 0, 1) := by decide +kernel
theorem dX11_madeAt_45 : decode cX11_madeAt 45 = .ok (.invokevirtual 226, 3) := by decide +kernel
theorem dX11_madeAt_48 : decode cX11_madeAt 48 = .ok (.aload_n 0, 1) := by decide +kernel
theorem dX11_madeAt_49 : decode cX11_madeAt 49 = .ok (.getfield 81, 3) := by decide +kernel
theorem dX11_madeAt_52 : decode cX11_madeAt 52 = .ok (.iload_n 1, 1) := by decide +kernel
theorem dX11_madeAt_53 : decode cX11_madeAt 53 = .ok (.iload_n 2, 1) := by decide +kernel
theorem dX11_madeAt_54 : decode cX11_madeAt 54 = .ok (.iload_n 3, 1) := by decide +kernel
theorem dX11_madeAt_55 : decode cX11_madeAt 55 = .ok (.aload_n 0, 1) := by decide +kernel
theorem dX11_madeAt_56 : decode cX11_madeAt 56 = .ok (.getfield 60, 3) := by decide +kernel
theorem dX11_madeAt_59 : decode cX11_madeAt 59 = .ok (.invokevirtual 322, 3) := by decide +kernel
theorem dX11_madeAt_62 : decode cX11_madeAt 62 = .ok (.iload 5, 2) := by decide +kernel
theorem dX11_madeAt_64 : decode cX11_madeAt 64 = .ok (.ifCond .ne 16, 3) := by decide +kernel
theorem dX11_madeAt_67 : decode cX11_madeAt 67 = .ok (.aload_n 0, 1) := by decide +kernel
theorem dX11_madeAt_68 : decode cX11_madeAt 68 = .ok (.getfield 81, 3) := by decide +kernel
theorem dX11_madeAt_71 : decode cX11_madeAt 71 = .ok (.getfield 331, 3) := by decide +kernel
theorem dX11_madeAt_74 : decode cX11_madeAt 74 = .ok (.iload 4, 2) := by decide +kernel
theorem dX11_madeAt_76 : decode cX11_madeAt 76 = .ok (.iaload, 1) := by decide +kernel
theorem dX11_madeAt_77 : decode cX11_madeAt 77 = .ok (.goto 13, 3) := by decide +kernel
theorem dX11_madeAt_80 : decode cX11_madeAt 80 = .ok (.aload_n 0, 1) := by decide +kernel
theorem dX11_madeAt_81 : decode cX11_madeAt 81 = .ok (.getfield 81, 3) := by decide +kernel
theorem dX11_madeAt_84 : decode cX11_madeAt 84 = .ok (.getfield 332, 3) := by decide +kernel
theorem dX11_madeAt_87 : decode cX11_madeAt 87 = .ok (.iload 4, 2) := by decide +kernel
theorem dX11_madeAt_89 : decode cX11_madeAt 89 = .ok (.iaload, 1) := by decide +kernel
theorem dX11_madeAt_90 : decode cX11_madeAt 90 = .ok (.ireturn, 1) := by decide +kernel
theorem dX11_odds_0 : decode cX11_odds 0 = .ok (.iload_n 2, 1) := by decide +kernel
theorem dX11_odds_1 : decode cX11_odds 1 = .ok (.iload_n 3, 1) := by decide +kernel
theorem dX11_odds_2 : decode cX11_odds 2 = .ok (.invokestatic 315, 3) := by decide +kernel
theorem dX11_odds_5 : decode cX11_odds 5 = .ok (.ifCond .eq 17, 3) := by decide +kernel
theorem dX11_odds_8 : decode cX11_odds 8 = .ok (.iload 4, 2) := by decide +kernel
theorem dX11_odds_10 : decode cX11_odds 10 = .ok (.iconst 1, 1) := by decide +kernel
theorem dX11_odds_11 : decode cX11_odds 11 = .ok (.if_icmp .lt 11, 3) := by decide +kernel
theorem dX11_odds_14 : decode cX11_odds 14 = .ok (.iload 4, 2) := by decide +kernel
theorem dX11_odds_16 : decode cX11_odds 16 = .ok (.sipush 200, 3) := by decide +kernel
theorem dX11_odds_19 : decode cX11_odds 19 = .ok (.if_icmp .le 5, 3) := by decide +kernel
theorem dX11_odds_22 : decode cX11_odds 22 = .ok (.iconst (-1), 1) := by decide +kernel
theorem dX11_odds_23 : decode cX11_odds 23 = .ok (.ireturn, 1) := by decide +kernel
theorem dX11_odds_24 : decode cX11_odds 24 = .ok (.aload_n 0, 1) := by decide +kernel
theorem dX11_odds_25 : decode cX11_odds 25 = .ok (.getfield 60, 3) := by decide +kernel
theorem dX11_odds_28 : decode cX11_odds 28 = .ok (.aload_n 0, 1) := by decide +kernel
theorem dX11_odds_29 : decode cX11_odds 29 = .ok (.getfield 19, 3) := by decide +kernel
theorem dX11_odds_32 : decode cX11_odds 32 = .ok (.iconst 0, 1) := by decide +kernel
theorem dX11_odds_33 : decode cX11_odds 33 = .ok (.invokevirtual 226, 3) := by decide +kernel
theorem dX11_odds_36 : decode cX11_odds 36 = .ok (.aload_n 0, 1) := by decide +kernel
theorem dX11_odds_37 : decode cX11_odds 37 = .ok (.getfield 67, 3) := by decide +kernel
theorem dX11_odds_40 : decode cX11_odds 40 = .ok (.aload_n 0, 1) := by decide +kernel
theorem dX11_odds_41 : decode cX11_odds 41 = .ok (.getfield 60, 3) := by decide +kernel
theorem dX11_odds_44 : decode cX11_odds 44 = .ok (.aload_n 0, 1) := by decide +kernel
theorem dX11_odds_45 : decode cX11_odds 45 = .ok (.getfield 19, 3) := by decide +kernel
theorem dX11_odds_48 : decode cX11_odds 48 = .ok (.getfield 232, 3) := by decide +kernel
theorem dX11_odds_51 : decode cX11_odds 51 = .ok (.invokevirtual 318, 3) := by decide +kernel
theorem dX11_odds_54 : decode cX11_odds 54 = .ok (.iconst 0, 1) := by decide +kernel
theorem dX11_odds_55 : decode cX11_odds 55 = .ok (.istore 6, 2) := by decide +kernel
theorem dX11_odds_57 : decode cX11_odds 57 = .ok (.iconst 0, 1) := by decide +kernel
theorem dX11_odds_58 : decode cX11_odds 58 = .ok (.istore 7, 2) := by decide +kernel
theorem dX11_odds_60 : decode cX11_odds 60 = .ok (.iload 7, 2) := by decide +kernel
theorem dX11_odds_62 : decode cX11_odds 62 = .ok (.iload 4, 2) := by decide +kernel
theorem dX11_odds_64 : decode cX11_odds 64 = .ok (.if_icmp .ge 49, 3) := by decide +kernel
theorem dX11_odds_67 : decode cX11_odds 67 = .ok (.aload_n 0, 1) := by decide +kernel
theorem dX11_odds_68 : decode cX11_odds 68 = .ok (.getfield 81, 3) := by decide +kernel
theorem dX11_odds_71 : decode cX11_odds 71 = .ok (.iload_n 1, 1) := by decide +kernel
theorem dX11_odds_72 : decode cX11_odds 72 = .ok (.iload 7, 2) := by decide +kernel
theorem dX11_odds_74 : decode cX11_odds 74 = .ok (.iadd, 1) := by decide +kernel
theorem dX11_odds_75 : decode cX11_odds 75 = .ok (.iload_n 2, 1) := by decide +kernel
theorem dX11_odds_76 : decode cX11_odds 76 = .ok (.iload_n 3, 1) := by decide +kernel
theorem dX11_odds_77 : decode cX11_odds 77 = .ok (.aload_n 0, 1) := by decide +kernel
theorem dX11_odds_78 : decode cX11_odds 78 = .ok (.getfield 60, 3) := by decide +kernel
theorem dX11_odds_81 : decode cX11_odds 81 = .ok (.invokevirtual 322, 3) := by decide +kernel
theorem dX11_odds_84 : decode cX11_odds 84 = .ok (.aload_n 0, 1) := by decide +kernel
theorem dX11_odds_85 : decode cX11_odds 85 = .ok (.getfield 81, 3) := by decide +kernel
theorem dX11_odds_88 : decode cX11_odds 88 = .ok (.iload_n 2, 1) := by decide +kernel
theorem dX11_odds_89 : decode cX11_odds 89 = .ok (.aload_n 0, 1) := by decide +kernel
theorem dX11_odds_90 : decode cX11_odds 90 = .ok (.getfield 67, 3) := by decide +kernel
theorem dX11_odds_93 : decode cX11_odds 93 = .ok (.getfield 326, 3) := by decide +kernel
theorem dX11_odds_96 : decode cX11_odds 96 = .ok (.invokevirtual 328, 3) := by decide +kernel
theorem dX11_odds_99 : decode cX11_odds 99 = .ok (.iload 5, 2) := by decide +kernel
theorem dX11_odds_101 : decode cX11_odds 101 = .ok (.if_icmp .lt 6, 3) := by decide +kernel
theorem dX11_odds_104 : decode cX11_odds 104 = .ok (.iinc 6 1, 3) := by decide +kernel
theorem dX11_odds_107 : decode cX11_odds 107 = .ok (.iinc 7 1, 3) := by decide +kernel
theorem dX11_odds_110 : decode cX11_odds 110 = .ok (.goto (-50), 3) := by decide +kernel
theorem dX11_odds_113 : decode cX11_odds 113 = .ok (.iload 6, 2) := by decide +kernel
theorem dX11_odds_115 : decode cX11_odds 115 = .ok (.ireturn, 1) := by decide +kernel
theorem dX11_counts_0 : decode cX11_counts 0 = .ok (.iload_n 1, 1) := by decide +kernel
theorem dX11_counts_1 : decode cX11_counts 1 = .ok (.iconst 1, 1) := by decide +kernel
theorem dX11_counts_2 : decode cX11_counts 2 = .ok (.if_icmp .lt 31, 3) := by decide +kernel
theorem dX11_counts_5 : decode cX11_counts 5 = .ok (.iload_n 1, 1) := by decide +kernel
theorem dX11_counts_6 : decode cX11_counts 6 = .ok (.bipush 100, 2) := by decide +kernel
theorem dX11_counts_8 : decode cX11_counts 8 = .ok (.if_icmp .gt 25, 3) := by decide +kernel
theorem dX11_counts_11 : decode cX11_counts 11 = .ok (.iload_n 2, 1) := by decide +kernel
theorem dX11_counts_12 : decode cX11_counts 12 = .ok (.iconst 1, 1) := by decide +kernel
theorem dX11_counts_13 : decode cX11_counts 13 = .ok (.if_icmp .lt 20, 3) := by decide +kernel
theorem dX11_counts_16 : decode cX11_counts 16 = .ok (.iload_n 2, 1) := by decide +kernel
theorem dX11_counts_17 : decode cX11_counts 17 = .ok (.bipush 100, 2) := by decide +kernel
theorem dX11_counts_19 : decode cX11_counts 19 = .ok (.if_icmp .gt 14, 3) := by decide +kernel
theorem dX11_counts_22 : decode cX11_counts 22 = .ok (.iload_n 3, 1) := by decide +kernel
theorem dX11_counts_23 : decode cX11_counts 23 = .ok (.iconst 1, 1) := by decide +kernel
theorem dX11_counts_24 : decode cX11_counts 24 = .ok (.if_icmp .lt 9, 3) := by decide +kernel
theorem dX11_counts_27 : decode cX11_counts 27 = .ok (.iload_n 3, 1) := by decide +kernel
theorem dX11_counts_28 : decode cX11_counts 28 = .ok (.bipush 100, 2) := by decide +kernel
theorem dX11_counts_30 : decode cX11_counts 30 = .ok (.if_icmp .le 5, 3) := by decide +kernel
theorem dX11_counts_33 : decode cX11_counts 33 = .ok (.iconst (-1), 1) := by decide +kernel
theorem dX11_counts_34 : decode cX11_counts 34 = .ok (.ireturn, 1) := by decide +kernel
theorem dX11_counts_35 : decode cX11_counts 35 = .ok (.iload 4, 2) := by decide +kernel
theorem dX11_counts_37 : decode cX11_counts 37 = .ok (.iconst 1, 1) := by decide +kernel
theorem dX11_counts_38 : decode cX11_counts 38 = .ok (.if_icmp .lt 23, 3) := by decide +kernel
theorem dX11_counts_41 : decode cX11_counts 41 = .ok (.iload 4, 2) := by decide +kernel
theorem dX11_counts_43 : decode cX11_counts 43 = .ok (.sipush 9999, 3) := by decide +kernel
theorem dX11_counts_46 : decode cX11_counts 46 = .ok (.if_icmp .gt 15, 3) := by decide +kernel
theorem dX11_counts_49 : decode cX11_counts 49 = .ok (.iload 5, 2) := by decide +kernel
theorem dX11_counts_51 : decode cX11_counts 51 = .ok (.ifCond .lt 10, 3) := by decide +kernel
theorem dX11_counts_54 : decode cX11_counts 54 = .ok (.iload 5, 2) := by decide +kernel
theorem dX11_counts_56 : decode cX11_counts 56 = .ok (.bipush 99, 2) := by decide +kernel
theorem dX11_counts_58 : decode cX11_counts 58 = .ok (.if_icmp .le 5, 3) := by decide +kernel
theorem dX11_counts_61 : decode cX11_counts 61 = .ok (.iconst (-1), 1) := by decide +kernel
theorem dX11_counts_62 : decode cX11_counts 62 = .ok (.ireturn, 1) := by decide +kernel
theorem dX11_counts_63 : decode cX11_counts 63 = .ok (.iload_n 1, 1) := by decide +kernel
theorem dX11_counts_64 : decode cX11_counts 64 = .ok (.iload_n 3, 1) := by decide +kernel
theorem dX11_counts_65 : decode cX11_counts 65 = .ok (.imul, 1) := by decide +kernel
theorem dX11_counts_66 : decode cX11_counts 66 = .ok (.iload 4, 2) := by decide +kernel
theorem dX11_counts_68 : decode cX11_counts 68 = .ok (.iload_n 2, 1) := by decide +kernel
theorem dX11_counts_69 : decode cX11_counts 69 = .ok (.imul, 1) := by decide +kernel
theorem dX11_counts_70 : decode cX11_counts 70 = .ok (.isub, 1) := by decide +kernel
theorem dX11_counts_71 : decode cX11_counts 71 = .ok (.invokestatic 333, 3) := by decide +kernel
theorem dX11_counts_74 : decode cX11_counts 74 = .ok (.iload 5, 2) := by decide +kernel
theorem dX11_counts_76 : decode cX11_counts 76 = .ok (.iload_n 2, 1) := by decide +kernel
theorem dX11_counts_77 : decode cX11_counts 77 = .ok (.imul, 1) := by decide +kernel
theorem dX11_counts_78 : decode cX11_counts 78 = .ok (.if_icmp .gt 7, 3) := by decide +kernel
theorem dX11_counts_81 : decode cX11_counts 81 = .ok (.iconst 1, 1) := by decide +kernel
theorem dX11_counts_82 : decode cX11_counts 82 = .ok (.goto 4, 3) := by decide +kernel
theorem dX11_counts_85 : decode cX11_counts 85 = .ok (.iconst 0, 1) := by decide +kernel
theorem dX11_counts_86 : decode cX11_counts 86 = .ok (.ireturn, 1) := by decide +kernel
theorem dX11_anything_0 : decode cX11_anything 0 = .ok (.iload_n 1, 1) := by decide +kernel
theorem dX11_anything_1 : decode cX11_anything 1 = .ok (.iconst 1, 1) := by decide +kernel
theorem dX11_anything_2 : decode cX11_anything 2 = .ok (.if_icmp .lt 31, 3) := by decide +kernel
theorem dX11_anything_5 : decode cX11_anything 5 = .ok (.iload_n 1, 1) := by decide +kernel
theorem dX11_anything_6 : decode cX11_anything 6 = .ok (.bipush 100, 2) := by decide +kernel
theorem dX11_anything_8 : decode cX11_anything 8 = .ok (.if_icmp .gt 25, 3) := by decide +kernel
theorem dX11_anything_11 : decode cX11_anything 11 = .ok (.iload_n 2, 1) := by decide +kernel
theorem dX11_anything_12 : decode cX11_anything 12 = .ok (.iconst 1, 1) := by decide +kernel
theorem dX11_anything_13 : decode cX11_anything 13 = .ok (.if_icmp .lt 20, 3) := by decide +kernel
theorem dX11_anything_16 : decode cX11_anything 16 = .ok (.iload_n 2, 1) := by decide +kernel
theorem dX11_anything_17 : decode cX11_anything 17 = .ok (.bipush 20, 2) := by decide +kernel
theorem dX11_anything_19 : decode cX11_anything 19 = .ok (.if_icmp .gt 14, 3) := by decide +kernel
theorem dX11_anything_22 : decode cX11_anything 22 = .ok (.iload_n 3, 1) := by decide +kernel
theorem dX11_anything_23 : decode cX11_anything 23 = .ok (.iconst 1, 1) := by decide +kernel
theorem dX11_anything_24 : decode cX11_anything 24 = .ok (.if_icmp .lt 9, 3) := by decide +kernel
theorem dX11_anything_27 : decode cX11_anything 27 = .ok (.iload_n 3, 1) := by decide +kernel
theorem dX11_anything_28 : decode cX11_anything 28 = .ok (.bipush 20, 2) := by decide +kernel
theorem dX11_anything_30 : decode cX11_anything 30 = .ok (.if_icmp .le 5, 3) := by decide +kernel
theorem dX11_anything_33 : decode cX11_anything 33 = .ok (.iconst (-1), 1) := by decide +kernel
theorem dX11_anything_34 : decode cX11_anything 34 = .ok (.ireturn, 1) := by decide +kernel
theorem dX11_anything_35 : decode cX11_anything 35 = .ok (.iload 4, 2) := by decide +kernel
theorem dX11_anything_37 : decode cX11_anything 37 = .ok (.ifCond .lt 24, 3) := by decide +kernel
theorem dX11_anything_40 : decode cX11_anything 40 = .ok (.iload 4, 2) := by decide +kernel
theorem dX11_anything_42 : decode cX11_anything 42 = .ok (.bipush 9, 2) := by decide +kernel
theorem dX11_anything_44 : decode cX11_anything 44 = .ok (.if_icmp .gt 17, 3) := by decide +kernel
theorem dX11_anything_47 : decode cX11_anything 47 = .ok (.iload 5, 2) := by decide +kernel
theorem dX11_anything_49 : decode cX11_anything 49 = .ok (.iconst 1, 1) := by decide +kernel
theorem dX11_anything_50 : decode cX11_anything 50 = .ok (.if_icmp .lt 11, 3) := by decide +kernel
theorem dX11_anything_53 : decode cX11_anything 53 = .ok (.iload 5, 2) := by decide +kernel
theorem dX11_anything_55 : decode cX11_anything 55 = .ok (.sipush 2000, 3) := by decide +kernel
theorem dX11_anything_58 : decode cX11_anything 58 = .ok (.if_icmp .le 5, 3) := by decide +kernel
theorem dX11_anything_61 : decode cX11_anything 61 = .ok (.iconst (-1), 1) := by decide +kernel
theorem dX11_anything_62 : decode cX11_anything 62 = .ok (.ireturn, 1) := by decide +kernel
theorem dX11_anything_63 : decode cX11_anything 63 = .ok (.iconst 0, 1) := by decide +kernel
theorem dX11_anything_64 : decode cX11_anything 64 = .ok (.istore 6, 2) := by decide +kernel
theorem dX11_anything_66 : decode cX11_anything 66 = .ok (.iload 6, 2) := by decide +kernel
theorem dX11_anything_68 : decode cX11_anything 68 = .ok (.iload 5, 2) := by decide +kernel
theorem dX11_anything_70 : decode cX11_anything 70 = .ok (.if_icmp .gt 17, 3) := by decide +kernel
theorem dX11_anything_73 : decode cX11_anything 73 = .ok (.aload_n 0, 1) := by decide +kernel
theorem dX11_anything_74 : decode cX11_anything 74 = .ok (.getfield 96, 3) := by decide +kernel
theorem dX11_anything_77 : decode cX11_anything 77 = .ok (.iload 6, 2) := by decide +kernel
theorem dX11_anything_79 : decode cX11_anything 79 = .ok (.iconst 0, 1) := by decide +kernel
theorem dX11_anything_80 : decode cX11_anything 80 = .ok (.bastore, 1) := by decide +kernel
theorem dX11_anything_81 : decode cX11_anything 81 = .ok (.iinc 6 1, 3) := by decide +kernel
theorem dX11_anything_84 : decode cX11_anything 84 = .ok (.goto (-18), 3) := by decide +kernel
theorem dX11_anything_87 : decode cX11_anything 87 = .ok (.iconst 1, 1) := by decide +kernel
theorem dX11_anything_88 : decode cX11_anything 88 = .ok (.istore 6, 2) := by decide +kernel
theorem dX11_anything_90 : decode cX11_anything 90 = .ok (.iload 6, 2) := by decide +kernel
theorem dX11_anything_92 : decode cX11_anything 92 = .ok (.iload_n 2, 1) := by decide +kernel
theorem dX11_anything_93 : decode cX11_anything 93 = .ok (.if_icmp .gt 38, 3) := by decide +kernel
theorem dX11_anything_96 : decode cX11_anything 96 = .ok (.iconst 1, 1) := by decide +kernel
theorem dX11_anything_97 : decode cX11_anything 97 = .ok (.istore 7, 2) := by decide +kernel
theorem dX11_anything_99 : decode cX11_anything 99 = .ok (.iload 7, 2) := by decide +kernel
theorem dX11_anything_101 : decode cX11_anything 101 = .ok (.iload_n 3, 1) := by decide +kernel
theorem dX11_anything_102 : decode cX11_anything 102 = .ok (.if_icmp .gt 23, 3) := by decide +kernel
theorem dX11_anything_105 : decode cX11_anything 105 = .ok (.aload_n 0, 1) := by decide +kernel
theorem dX11_anything_106 : decode cX11_anything 106 = .ok (.iload_n 1, 1) := by decide +kernel
theorem dX11_anything_107 : decode cX11_anything 107 = .ok (.iload 7, 2) := by decide +kernel
theorem dX11_anything_109 : decode cX11_anything 109 = .ok (.imul, 1) := by decide +kernel
theorem dX11_anything_110 : decode cX11_anything 110 = .ok (.iload 6, 2) := by decide +kernel
theorem dX11_anything_112 : decode cX11_anything 112 = .ok (.iload 4, 2) := by decide +kernel
theorem dX11_anything_114 : decode cX11_anything 114 = .ok (.iload 5, 2) := by decide +kernel
theorem dX11_anything_116 : decode cX11_anything 116 = .ok (.invokevirtual 338, 3) := by decide +kernel
theorem dX11_anything_119 : decode cX11_anything 119 = .ok (.iinc 7 1, 3) := by decide +kernel
theorem dX11_anything_122 : decode cX11_anything 122 = .ok (.goto (-23), 3) := by decide +kernel
theorem dX11_anything_125 : decode cX11_anything 125 = .ok (.iinc 6 1, 3) := by decide +kernel
theorem dX11_anything_128 : decode cX11_anything 128 = .ok (.goto (-38), 3) := by decide +kernel
theorem dX11_anything_131 : decode cX11_anything 131 = .ok (.aload_n 0, 1) := by decide +kernel
theorem dX11_anything_132 : decode cX11_anything 132 = .ok (.iload 5, 2) := by decide +kernel
theorem dX11_anything_134 : decode cX11_anything 134 = .ok (.invokevirtual 291, 3) := by decide +kernel
theorem dX11_anything_137 : decode cX11_anything 137 = .ok (.ireturn, 1) := by decide +kernel
theorem dX11_life_0 : decode cX11_life 0 = .ok (.iload_n 1, 1) := by decide +kernel
theorem dX11_life_1 : decode cX11_life 1 = .ok (.invokestatic 219, 3) := by decide +kernel
theorem dX11_life_4 : decode cX11_life 4 = .ok (.ifCond .eq 36, 3) := by decide +kernel
theorem dX11_life_7 : decode cX11_life 7 = .ok (.iload_n 2, 1) := by decide +kernel
theorem dX11_life_8 : decode cX11_life 8 = .ok (.iconst 1, 1) := by decide +kernel
theorem dX11_life_9 : decode cX11_life 9 = .ok (.if_icmp .lt 31, 3) := by decide +kernel
theorem dX11_life_12 : decode cX11_life 12 = .ok (.iload_n 2, 1) := by decide +kernel
theorem dX11_life_13 : decode cX11_life 13 = .ok (.bipush 90, 2) := by decide +kernel
theorem dX11_life_15 : decode cX11_life 15 = .ok (.if_icmp .gt 25, 3) := by decide +kernel
theorem dX11_life_18 : decode cX11_life 18 = .ok (.iload_n 3, 1) := by decide +kernel
theorem dX11_life_19 : decode cX11_life 19 = .ok (.iconst 2, 1) := by decide +kernel
theorem dX11_life_20 : decode cX11_life 20 = .ok (.if_icmp .lt 20, 3) := by decide +kernel
theorem dX11_life_23 : decode cX11_life 23 = .ok (.iload_n 3, 1) := by decide +kernel
theorem dX11_life_24 : decode cX11_life 24 = .ok (.bipush 60, 2) := by decide +kernel
theorem dX11_life_26 : decode cX11_life 26 = .ok (.if_icmp .gt 14, 3) := by decide +kernel
theorem dX11_life_29 : decode cX11_life 29 = .ok (.iload 4, 2) := by decide +kernel
theorem dX11_life_31 : decode cX11_life 31 = .ok (.ifCond .lt 9, 3) := by decide +kernel
theorem dX11_life_34 : decode cX11_life 34 = .ok (.iload 4, 2) := by decide +kernel
theorem dX11_life_36 : decode cX11_life 36 = .ok (.iload_n 3, 1) := by decide +kernel
theorem dX11_life_37 : decode cX11_life 37 = .ok (.if_icmp .lt 5, 3) := by decide +kernel
theorem dX11_life_40 : decode cX11_life 40 = .ok (.iconst (-1), 1) := by decide +kernel
theorem dX11_life_41 : decode cX11_life 41 = .ok (.ireturn, 1) := by decide +kernel
theorem dX11_life_42 : decode cX11_life 42 = .ok (.iconst 0, 1) := by decide +kernel
theorem dX11_life_43 : decode cX11_life 43 = .ok (.istore 5, 2) := by decide +kernel
theorem dX11_life_45 : decode cX11_life 45 = .ok (.iload_n 1, 1) := by decide +kernel
theorem dX11_life_46 : decode cX11_life 46 = .ok (.istore 6, 2) := by decide +kernel
theorem dX11_life_48 : decode cX11_life 48 = .ok (.iload 6, 2) := by decide +kernel
theorem dX11_life_50 : decode cX11_life 50 = .ok (.iload_n 1, 1) := by decide +kernel
theorem dX11_life_51 : decode cX11_life 51 = .ok (.iload_n 2, 1) := by decide +kernel
theorem dX11_life_52 : decode cX11_life 52 = .ok (.iadd, 1) := by decide +kernel
theorem dX11_life_53 : decode cX11_life 53 = .ok (.if_icmp .ge 21, 3) := by decide +kernel
theorem dX11_life_56 : decode cX11_life 56 = .ok (.iload 6, 2) := by decide +kernel
theorem dX11_life_58 : decode cX11_life 58 = .ok (.iload_n 3, 1) := by decide +kernel
theorem dX11_life_59 : decode cX11_life 59 = .ok (.irem, 1) := by decide +kernel
theorem dX11_life_60 : decode cX11_life 60 = .ok (.iload 4, 2) := by decide +kernel
theorem dX11_life_62 : decode cX11_life 62 = .ok (.if_icmp .ne 6, 3) := by decide +kernel
theorem dX11_life_65 : decode cX11_life 65 = .ok (.iinc 5 1, 3) := by decide +kernel
theorem dX11_life_68 : decode cX11_life 68 = .ok (.iinc 6 1, 3) := by decide +kernel
theorem dX11_life_71 : decode cX11_life 71 = .ok (.goto (-23), 3) := by decide +kernel
theorem dX11_life_74 : decode cX11_life 74 = .ok (.iload 5, 2) := by decide +kernel
theorem dX11_life_76 : decode cX11_life 76 = .ok (.ireturn, 1) := by decide +kernel
theorem dX11_seen_0 : decode cX11_seen 0 = .ok (.iload_n 1, 1) := by decide +kernel
theorem dX11_seen_1 : decode cX11_seen 1 = .ok (.ifCond .lt 42, 3) := by decide +kernel
theorem dX11_seen_4 : decode cX11_seen 4 = .ok (.iload_n 1, 1) := by decide +kernel
theorem dX11_seen_5 : decode cX11_seen 5 = .ok (.bipush 12, 2) := by decide +kernel
theorem dX11_seen_7 : decode cX11_seen 7 = .ok (.if_icmp .gt 36, 3) := by decide +kernel
theorem dX11_seen_10 : decode cX11_seen 10 = .ok (.iload_n 2, 1) := by decide +kernel
theorem dX11_seen_11 : decode cX11_seen 11 = .ok (.ifCond .lt 32, 3) := by decide +kernel
theorem dX11_seen_14 : decode cX11_seen 14 = .ok (.iload_n 2, 1) := by decide +kernel
theorem dX11_seen_15 : decode cX11_seen 15 = .ok (.bipush 13, 2) := by decide +kernel
theorem dX11_seen_17 : decode cX11_seen 17 = .ok (.if_icmp .gt 26, 3) := by decide +kernel
theorem dX11_seen_20 : decode cX11_seen 20 = .ok (.iload 4, 2) := by decide +kernel
theorem dX11_seen_22 : decode cX11_seen 22 = .ok (.iconst 1, 1) := by decide +kernel
theorem dX11_seen_23 : decode cX11_seen 23 = .ok (.if_icmp .lt 20, 3) := by decide +kernel
theorem dX11_seen_26 : decode cX11_seen 26 = .ok (.iload 4, 2) := by decide +kernel
theorem dX11_seen_28 : decode cX11_seen 28 = .ok (.bipush 9, 2) := by decide +kernel
theorem dX11_seen_30 : decode cX11_seen 30 = .ok (.if_icmp .gt 13, 3) := by decide +kernel
theorem dX11_seen_33 : decode cX11_seen 33 = .ok (.iload_n 3, 1) := by decide +kernel
theorem dX11_seen_34 : decode cX11_seen 34 = .ok (.ifCond .lt 9, 3) := by decide +kernel
theorem dX11_seen_37 : decode cX11_seen 37 = .ok (.iload_n 3, 1) := by decide +kernel
theorem dX11_seen_38 : decode cX11_seen 38 = .ok (.iload 4, 2) := by decide +kernel
theorem dX11_seen_40 : decode cX11_seen 40 = .ok (.if_icmp .le 7, 3) := by decide +kernel
theorem dX11_seen_43 : decode cX11_seen 43 = .ok (.ldc2_w 309, 3) := by decide +kernel
theorem dX11_seen_46 : decode cX11_seen 46 = .ok (.lreturn, 1) := by decide +kernel
theorem dX11_seen_47 : decode cX11_seen 47 = .ok (.iload_n 1, 1) := by decide +kernel
theorem dX11_seen_48 : decode cX11_seen 48 = .ok (.iload_n 2, 1) := by decide +kernel
theorem dX11_seen_49 : decode cX11_seen 49 = .ok (.iload_n 3, 1) := by decide +kernel
theorem dX11_seen_50 : decode cX11_seen 50 = .ok (.iload 4, 2) := by decide +kernel
theorem dX11_seen_52 : decode cX11_seen 52 = .ok (.iload_n 3, 1) := by decide +kernel
theorem dX11_seen_53 : decode cX11_seen 53 = .ok (.isub, 1) := by decide +kernel
theorem dX11_seen_54 : decode cX11_seen 54 = .ok (.invokestatic 311, 3) := by decide +kernel
theorem dX11_seen_57 : decode cX11_seen 57 = .ok (.lreturn, 1) := by decide +kernel
theorem dX11_say_0 : decode cX11_say 0 = .ok (.iload_n 1, 1) := by decide +kernel
theorem dX11_say_1 : decode cX11_say 1 = .ok (.ifCond .lt 25, 3) := by decide +kernel
theorem dX11_say_4 : decode cX11_say 4 = .ok (.iload_n 1, 1) := by decide +kernel
theorem dX11_say_5 : decode cX11_say 5 = .ok (.sipush 196, 3) := by decide +kernel
theorem dX11_say_8 : decode cX11_say 8 = .ok (.if_icmp .ge 18, 3) := by decide +kernel
theorem dX11_say_11 : decode cX11_say 11 = .ok (.iload_n 2, 1) := by decide +kernel
theorem dX11_say_12 : decode cX11_say 12 = .ok (.invokestatic 219, 3) := by decide +kernel
theorem dX11_say_15 : decode cX11_say 15 = .ok (.ifCond .eq 11, 3) := by decide +kernel
theorem dX11_say_18 : decode cX11_say 18 = .ok (.aload_n 0, 1) := by decide +kernel
theorem dX11_say_19 : decode cX11_say 19 = .ok (.iload_n 3, 1) := by decide +kernel
theorem dX11_say_20 : decode cX11_say 20 = .ok (.invokevirtual 152, 3) := by decide +kernel
theorem dX11_say_23 : decode cX11_say 23 = .ok (.ifCond .ne 5, 3) := by decide +kernel
theorem dX11_say_26 : decode cX11_say 26 = .ok (.iconst (-1), 1) := by decide +kernel
theorem dX11_say_27 : decode cX11_say 27 = .ok (.ireturn, 1) := by decide +kernel
theorem dX11_say_28 : decode cX11_say 28 = .ok (.aload_n 0, 1) := by decide +kernel
theorem dX11_say_29 : decode cX11_say 29 = .ok (.getfield 53, 3) := by decide +kernel
theorem dX11_say_32 : decode cX11_say 32 = .ok (.aload_n 0, 1) := by decide +kernel
theorem dX11_say_33 : decode cX11_say 33 = .ok (.getfield 19, 3) := by decide +kernel
theorem dX11_say_36 : decode cX11_say 36 = .ok (.aload_n 0, 1) := by decide +kernel
theorem dX11_say_37 : decode cX11_say 37 = .ok (.getfield 38, 3) := by decide +kernel
theorem dX11_say_40 : decode cX11_say 40 = .ok (.iload_n 3, 1) := by decide +kernel
theorem dX11_say_41 : decode cX11_say 41 = .ok (.invokevirtual 155, 3) := by decide +kernel
theorem dX11_say_44 : decode cX11_say 44 = .ok (.aload_n 0, 1) := by decide +kernel
theorem dX11_say_45 : decode cX11_say 45 = .ok (.getfield 53, 3) := by decide +kernel
theorem dX11_say_48 : decode cX11_say 48 = .ok (.iload_n 1, 1) := by decide +kernel
theorem dX11_say_49 : decode cX11_say 49 = .ok (.invokevirtual 190, 3) := by decide +kernel
theorem dX11_say_52 : decode cX11_say 52 = .ok (.ifCond .ne 5, 3) := by decide +kernel
theorem dX11_say_55 : decode cX11_say 55 = .ok (.iconst 0, 1) := by decide +kernel
theorem dX11_say_56 : decode cX11_say 56 = .ok (.ireturn, 1) := by decide +kernel
theorem dX11_say_57 : decode cX11_say 57 = .ok (.aload_n 0, 1) := by decide +kernel
theorem dX11_say_58 : decode cX11_say 58 = .ok (.getfield 53, 3) := by decide +kernel
theorem dX11_say_61 : decode cX11_say 61 = .ok (.aload_n 0, 1) := by decide +kernel
theorem dX11_say_62 : decode cX11_say 62 = .ok (.getfield 19, 3) := by decide +kernel
theorem dX11_say_65 : decode cX11_say 65 = .ok (.iload_n 1, 1) := by decide +kernel
theorem dX11_say_66 : decode cX11_say 66 = .ok (.iconst (-1), 1) := by decide +kernel
theorem dX11_say_67 : decode cX11_say 67 = .ok (.invokevirtual 193, 3) := by decide +kernel
theorem dX11_say_70 : decode cX11_say 70 = .ok (.ifCond .ne 5, 3) := by decide +kernel
theorem dX11_say_73 : decode cX11_say 73 = .ok (.iconst 1, 1) := by decide +kernel
theorem dX11_say_74 : decode cX11_say 74 = .ok (.ireturn, 1) := by decide +kernel
theorem dX11_say_75 : decode cX11_say 75 = .ok (.iconst 1, 1) := by decide +kernel
theorem dX11_say_76 : decode cX11_say 76 = .ok (.aload_n 0, 1) := by decide +kernel
theorem dX11_say_77 : decode cX11_say 77 = .ok (.getfield 19, 3) := by decide +kernel
theorem dX11_say_80 : decode cX11_say 80 = .ok (.getfield 341, 3) := by decide +kernel
theorem dX11_say_83 : decode cX11_say 83 = .ok (.ishl, 1) := by decide +kernel
theorem dX11_say_84 : decode cX11_say 84 = .ok (.iconst 1, 1) := by decide +kernel
theorem dX11_say_85 : decode cX11_say 85 = .ok (.isub, 1) := by decide +kernel
theorem dX11_say_86 : decode cX11_say 86 = .ok (.istore 4, 2) := by decide +kernel
theorem dX11_say_88 : decode cX11_say 88 = .ok (.aload_n 0, 1) := by decide +kernel
theorem dX11_say_89 : decode cX11_say 89 = .ok (.getfield 53, 3) := by decide +kernel
theorem dX11_say_92 : decode cX11_say 92 = .ok (.iload_n 1, 1) := by decide +kernel
theorem dX11_say_93 : decode cX11_say 93 = .ok (.invokevirtual 229, 3) := by decide +kernel
theorem dX11_say_96 : decode cX11_say 96 = .ok (.istore 5, 2) := by decide +kernel
theorem dX11_say_98 : decode cX11_say 98 = .ok (.aload_n 0, 1) := by decide +kernel
theorem dX11_say_99 : decode cX11_say 99 = .ok (.getfield 60, 3) := by decide +kernel
theorem dX11_say_102 : decode cX11_say 102 = .ok (.aload_n 0, 1) := by decide +kernel
theorem dX11_say_103 : decode cX11_say 103 = .ok (.getfield 19, 3) := by decide +kernel
theorem dX11_say_106 : decode cX11_say 106 = .ok (.iload_n 2, 1) := by decide +kernel
theorem dX11_say_107 : decode cX11_say 107 = .ok (.invokevirtual 226, 3) := by decide +kernel
theorem dX11_say_110 : decode cX11_say 110 = .ok (.aload_n 0, 1) := by decide +kernel
theorem dX11_say_111 : decode cX11_say 111 = .ok (.iload 5, 2) := by decide +kernel
theorem dX11_say_113 : decode cX11_say 113 = .ok (.iload 4, 2) := by decide +kernel
theorem dX11_say_115 : decode cX11_say 115 = .ok (.iconst 0, 1) := by decide +kernel
theorem dX11_say_116 : decode cX11_say 116 = .ok (.invokevirtual 253, 3) := by decide +kernel
theorem dX11_say_119 : decode cX11_say 119 = .ok (.ifCond .ne 5, 3) := by decide +kernel
theorem dX11_say_122 : decode cX11_say 122 = .ok (.iconst 2, 1) := by decide +kernel
theorem dX11_say_123 : decode cX11_say 123 = .ok (.ireturn, 1) := by decide +kernel
theorem dX11_say_124 : decode cX11_say 124 = .ok (.aload_n 0, 1) := by decide +kernel
theorem dX11_say_125 : decode cX11_say 125 = .ok (.iload 4, 2) := by decide +kernel
theorem dX11_say_127 : decode cX11_say 127 = .ok (.iload_n 2, 1) := by decide +kernel
theorem dX11_say_128 : decode cX11_say 128 = .ok (.iload_n 3, 1) := by decide +kernel
theorem dX11_say_129 : decode cX11_say 129 = .ok (.iconst (-1), 1) := by decide +kernel
theorem dX11_say_130 : decode cX11_say 130 = .ok (.invokevirtual 260, 3) := by decide +kernel
theorem dX11_say_133 : decode cX11_say 133 = .ok (.aload_n 0, 1) := by decide +kernel
theorem dX11_say_134 : decode cX11_say 134 = .ok (.getfield 67, 3) := by decide +kernel
theorem dX11_say_137 : decode cX11_say 137 = .ok (.invokevirtual 264, 3) := by decide +kernel
theorem dX11_say_140 : decode cX11_say 140 = .ok (.bipush 18, 2) := by decide +kernel
theorem dX11_say_142 : decode cX11_say 142 = .ok (.if_icmp .le 5, 3) := by decide +kernel
theorem dX11_say_145 : decode cX11_say 145 = .ok (.iconst 3, 1) := by decide +kernel
theorem dX11_say_146 : decode cX11_say 146 = .ok (.ireturn, 1) := by decide +kernel
theorem dX11_say_147 : decode cX11_say 147 = .ok (.aload_n 0, 1) := by decide +kernel
theorem dX11_say_148 : decode cX11_say 148 = .ok (.getfield 53, 3) := by decide +kernel
theorem dX11_say_151 : decode cX11_say 151 = .ok (.aload_n 0, 1) := by decide +kernel
theorem dX11_say_152 : decode cX11_say 152 = .ok (.getfield 19, 3) := by decide +kernel
theorem dX11_say_155 : decode cX11_say 155 = .ok (.iload_n 1, 1) := by decide +kernel
theorem dX11_say_156 : decode cX11_say 156 = .ok (.invokevirtual 197, 3) := by decide +kernel
theorem dX11_say_159 : decode cX11_say 159 = .ok (.aload_n 0, 1) := by decide +kernel
theorem dX11_say_160 : decode cX11_say 160 = .ok (.getfield 53, 3) := by decide +kernel
theorem dX11_say_163 : decode cX11_say 163 = .ok (.getfield 201, 3) := by decide +kernel
theorem dX11_say_166 : decode cX11_say 166 = .ok (.iconst 5, 1) := by decide +kernel
theorem dX11_say_167 : decode cX11_say 167 = .ok (.iaload, 1) := by decide +kernel
theorem dX11_say_168 : decode cX11_say 168 = .ok (.ifCond .ne 18, 3) := by decide +kernel
theorem dX11_say_171 : decode cX11_say 171 = .ok (.aload_n 0, 1) := by decide +kernel
theorem dX11_say_172 : decode cX11_say 172 = .ok (.getfield 53, 3) := by decide +kernel
theorem dX11_say_175 : decode cX11_say 175 = .ok (.getfield 201, 3) := by decide +kernel
theorem dX11_say_178 : decode cX11_say 178 = .ok (.bipush 6, 2) := by decide +kernel
theorem dX11_say_180 : decode cX11_say 180 = .ok (.iaload, 1) := by decide +kernel
theorem dX11_say_181 : decode cX11_say 181 = .ok (.ifCond .ne 5, 3) := by decide +kernel
theorem dX11_say_184 : decode cX11_say 184 = .ok (.iconst 4, 1) := by decide +kernel
theorem dX11_say_185 : decode cX11_say 185 = .ok (.ireturn, 1) := by decide +kernel
theorem dX11_say_186 : decode cX11_say 186 = .ok (.aload_n 0, 1) := by decide +kernel
theorem dX11_say_187 : decode cX11_say 187 = .ok (.iload 5, 2) := by decide +kernel
theorem dX11_say_189 : decode cX11_say 189 = .ok (.iload 4, 2) := by decide +kernel
theorem dX11_say_191 : decode cX11_say 191 = .ok (.iconst 1, 1) := by decide +kernel
theorem dX11_say_192 : decode cX11_say 192 = .ok (.invokevirtual 253, 3) := by decide +kernel
theorem dX11_say_195 : decode cX11_say 195 = .ok (.ifCond .eq 8, 3) := by decide +kernel
theorem dX11_say_198 : decode cX11_say 198 = .ok (.bipush 6, 2) := by decide +kernel
theorem dX11_say_200 : decode cX11_say 200 = .ok (.goto 4, 3) := by decide +kernel
theorem dX11_say_203 : decode cX11_say 203 = .ok (.iconst 5, 1) := by decide +kernel
theorem dX11_say_204 : decode cX11_say 204 = .ok (.ireturn, 1) := by decide +kernel
theorem dX11_hold_0 : decode cX11_hold 0 = .ok (.iload_n 1, 1) := by decide +kernel
theorem dX11_hold_1 : decode cX11_hold 1 = .ok (.ifCond .lt 8, 3) := by decide +kernel
theorem dX11_hold_4 : decode cX11_hold 4 = .ok (.iload_n 1, 1) := by decide +kernel
theorem dX11_hold_5 : decode cX11_hold 5 = .ok (.iconst 3, 1) := by decide +kernel
theorem dX11_hold_6 : decode cX11_hold 6 = .ok (.if_icmp .lt 5, 3) := by decide +kernel
theorem dX11_hold_9 : decode cX11_hold 9 = .ok (.iconst 0, 1) := by decide +kernel
theorem dX11_hold_10 : decode cX11_hold 10 = .ok (.ireturn, 1) := by decide +kernel
theorem dX11_hold_11 : decode cX11_hold 11 = .ok (.aload_n 0, 1) := by decide +kernel
theorem dX11_hold_12 : decode cX11_hold 12 = .ok (.getfield 42, 3) := by decide +kernel
theorem dX11_hold_15 : decode cX11_hold 15 = .ok (.iload_n 1, 1) := by decide +kernel
theorem dX11_hold_16 : decode cX11_hold 16 = .ok (.aaload, 1) := by decide +kernel
theorem dX11_hold_17 : decode cX11_hold 17 = .ok (.ifnull 12, 3) := by decide +kernel
theorem dX11_hold_20 : decode cX11_hold 20 = .ok (.aload_n 0, 1) := by decide +kernel
theorem dX11_hold_21 : decode cX11_hold 21 = .ok (.getfield 46, 3) := by decide +kernel
theorem dX11_hold_24 : decode cX11_hold 24 = .ok (.iload_n 1, 1) := by decide +kernel
theorem dX11_hold_25 : decode cX11_hold 25 = .ok (.aaload, 1) := by decide +kernel
theorem dX11_hold_26 : decode cX11_hold 26 = .ok (.ifnonnull 29, 3) := by decide +kernel
theorem dX11_hold_29 : decode cX11_hold 29 = .ok (.aload_n 0, 1) := by decide +kernel
theorem dX11_hold_30 : decode cX11_hold 30 = .ok (.getfield 42, 3) := by decide +kernel
theorem dX11_hold_33 : decode cX11_hold 33 = .ok (.iload_n 1, 1) := by decide +kernel
theorem dX11_hold_34 : decode cX11_hold 34 = .ok (.new 16, 3) := by decide +kernel
theorem dX11_hold_37 : decode cX11_hold 37 = .ok (.dup, 1) := by decide +kernel
theorem dX11_hold_38 : decode cX11_hold 38 = .ok (.invokespecial 18, 3) := by decide +kernel
theorem dX11_hold_41 : decode cX11_hold 41 = .ok (.aastore, 1) := by decide +kernel
theorem dX11_hold_42 : decode cX11_hold 42 = .ok (.aload_n 0, 1) := by decide +kernel
theorem dX11_hold_43 : decode cX11_hold 43 = .ok (.getfield 46, 3) := by decide +kernel
theorem dX11_hold_46 : decode cX11_hold 46 = .ok (.iload_n 1, 1) := by decide +kernel
theorem dX11_hold_47 : decode cX11_hold 47 = .ok (.new 35, 3) := by decide +kernel
theorem dX11_hold_50 : decode cX11_hold 50 = .ok (.dup, 1) := by decide +kernel
theorem dX11_hold_51 : decode cX11_hold 51 = .ok (.invokespecial 37, 3) := by decide +kernel
theorem dX11_hold_54 : decode cX11_hold 54 = .ok (.aastore, 1) := by decide +kernel
theorem dX11_hold_55 : decode cX11_hold 55 = .ok (.aload_n 0, 1) := by decide +kernel
theorem dX11_hold_56 : decode cX11_hold 56 = .ok (.getfield 42, 3) := by decide +kernel
theorem dX11_hold_59 : decode cX11_hold 59 = .ok (.iload_n 1, 1) := by decide +kernel
theorem dX11_hold_60 : decode cX11_hold 60 = .ok (.aaload, 1) := by decide +kernel
theorem dX11_hold_61 : decode cX11_hold 61 = .ok (.aload_n 0, 1) := by decide +kernel
theorem dX11_hold_62 : decode cX11_hold 62 = .ok (.getfield 19, 3) := by decide +kernel
theorem dX11_hold_65 : decode cX11_hold 65 = .ok (.invokevirtual 344, 3) := by decide +kernel
theorem dX11_hold_68 : decode cX11_hold 68 = .ok (.aload_n 0, 1) := by decide +kernel
theorem dX11_hold_69 : decode cX11_hold 69 = .ok (.getfield 46, 3) := by decide +kernel
theorem dX11_hold_72 : decode cX11_hold 72 = .ok (.iload_n 1, 1) := by decide +kernel
theorem dX11_hold_73 : decode cX11_hold 73 = .ok (.aaload, 1) := by decide +kernel
theorem dX11_hold_74 : decode cX11_hold 74 = .ok (.aload_n 0, 1) := by decide +kernel
theorem dX11_hold_75 : decode cX11_hold 75 = .ok (.getfield 38, 3) := by decide +kernel
theorem dX11_hold_78 : decode cX11_hold 78 = .ok (.invokevirtual 347, 3) := by decide +kernel
theorem dX11_hold_81 : decode cX11_hold 81 = .ok (.iconst 1, 1) := by decide +kernel
theorem dX11_hold_82 : decode cX11_hold 82 = .ok (.ireturn, 1) := by decide +kernel
theorem dX11_again_0 : decode cX11_again 0 = .ok (.iload_n 1, 1) := by decide +kernel
theorem dX11_again_1 : decode cX11_again 1 = .ok (.ifCond .lt 26, 3) := by decide +kernel
theorem dX11_again_4 : decode cX11_again 4 = .ok (.iload_n 1, 1) := by decide +kernel
theorem dX11_again_5 : decode cX11_again 5 = .ok (.iconst 3, 1) := by decide +kernel
theorem dX11_again_6 : decode cX11_again 6 = .ok (.if_icmp .ge 21, 3) := by decide +kernel
theorem dX11_again_9 : decode cX11_again 9 = .ok (.aload_n 0, 1) := by decide +kernel
theorem dX11_again_10 : decode cX11_again 10 = .ok (.getfield 42, 3) := by decide +kernel
theorem dX11_again_13 : decode cX11_again 13 = .ok (.iload_n 1, 1) := by decide +kernel
theorem dX11_again_14 : decode cX11_again 14 = .ok (.aaload, 1) := by decide +kernel
theorem dX11_again_15 : decode cX11_again 15 = .ok (.ifnull 12, 3) := by decide +kernel
theorem dX11_again_18 : decode cX11_again 18 = .ok (.aload_n 0, 1) := by decide +kernel
theorem dX11_again_19 : decode cX11_again 19 = .ok (.getfield 46, 3) := by decide +kernel
theorem dX11_again_22 : decode cX11_again 22 = .ok (.iload_n 1, 1) := by decide +kernel
theorem dX11_again_23 : decode cX11_again 23 = .ok (.aaload, 1) := by decide +kernel
theorem dX11_again_24 : decode cX11_again 24 = .ok (.ifnonnull 5, 3) := by decide +kernel
theorem dX11_again_27 : decode cX11_again 27 = .ok (.iconst 0, 1) := by decide +kernel
theorem dX11_again_28 : decode cX11_again 28 = .ok (.ireturn, 1) := by decide +kernel
theorem dX11_again_29 : decode cX11_again 29 = .ok (.aload_n 0, 1) := by decide +kernel
theorem dX11_again_30 : decode cX11_again 30 = .ok (.getfield 19, 3) := by decide +kernel
theorem dX11_again_33 : decode cX11_again 33 = .ok (.aload_n 0, 1) := by decide +kernel
theorem dX11_again_34 : decode cX11_again 34 = .ok (.getfield 42, 3) := by decide +kernel
theorem dX11_again_37 : decode cX11_again 37 = .ok (.iload_n 1, 1) := by decide +kernel
theorem dX11_again_38 : decode cX11_again 38 = .ok (.aaload, 1) := by decide +kernel
theorem dX11_again_39 : decode cX11_again 39 = .ok (.invokevirtual 344, 3) := by decide +kernel
theorem dX11_again_42 : decode cX11_again 42 = .ok (.aload_n 0, 1) := by decide +kernel
theorem dX11_again_43 : decode cX11_again 43 = .ok (.getfield 38, 3) := by decide +kernel
theorem dX11_again_46 : decode cX11_again 46 = .ok (.aload_n 0, 1) := by decide +kernel
theorem dX11_again_47 : decode cX11_again 47 = .ok (.getfield 46, 3) := by decide +kernel
theorem dX11_again_50 : decode cX11_again 50 = .ok (.iload_n 1, 1) := by decide +kernel
theorem dX11_again_51 : decode cX11_again 51 = .ok (.aaload, 1) := by decide +kernel
theorem dX11_again_52 : decode cX11_again 52 = .ok (.invokevirtual 347, 3) := by decide +kernel
theorem dX11_again_55 : decode cX11_again 55 = .ok (.iconst 1, 1) := by decide +kernel
theorem dX11_again_56 : decode cX11_again 56 = .ok (.ireturn, 1) := by decide +kernel
theorem dX11_count_0 : decode cX11_count 0 = .ok (.iload_n 1, 1) := by decide +kernel
theorem dX11_count_1 : decode cX11_count 1 = .ok (.tableswitch 126 0 9 #[55, 60, 68, 76, 84, 92, 100, 108, 113, 121], 55) := by decide +kernel
theorem dX11_count_56 : decode cX11_count 56 = .ok (.aload_n 0, 1) := by decide +kernel
theorem dX11_count_57 : decode cX11_count 57 = .ok (.invokevirtual 124, 3) := by decide +kernel
theorem dX11_count_60 : decode cX11_count 60 = .ok (.ireturn, 1) := by decide +kernel
theorem dX11_count_61 : decode cX11_count 61 = .ok (.aload_n 0, 1) := by decide +kernel
theorem dX11_count_62 : decode cX11_count 62 = .ok (.getfield 19, 3) := by decide +kernel
theorem dX11_count_65 : decode cX11_count 65 = .ok (.getfield 350, 3) := by decide +kernel
theorem dX11_count_68 : decode cX11_count 68 = .ok (.ireturn, 1) := by decide +kernel
theorem dX11_count_69 : decode cX11_count 69 = .ok (.aload_n 0, 1) := by decide +kernel
theorem dX11_count_70 : decode cX11_count 70 = .ok (.getfield 19, 3) := by decide +kernel
theorem dX11_count_73 : decode cX11_count 73 = .ok (.getfield 353, 3) := by decide +kernel
theorem dX11_count_76 : decode cX11_count 76 = .ok (.ireturn, 1) := by decide +kernel
theorem dX11_count_77 : decode cX11_count 77 = .ok (.aload_n 0, 1) := by decide +kernel
theorem dX11_count_78 : decode cX11_count 78 = .ok (.getfield 19, 3) := by decide +kernel
theorem dX11_count_81 : decode cX11_count 81 = .ok (.getfield 341, 3) := by decide +kernel
theorem dX11_count_84 : decode cX11_count 84 = .ok (.ireturn, 1) := by decide +kernel
theorem dX11_count_85 : decode cX11_count 85 = .ok (.aload_n 0, 1) := by decide +kernel
theorem dX11_count_86 : decode cX11_count 86 = .ok (.getfield 19, 3) := by decide +kernel
theorem dX11_count_89 : decode cX11_count 89 = .ok (.getfield 285, 3) := by decide +kernel
theorem dX11_count_92 : decode cX11_count 92 = .ok (.ireturn, 1) := by decide +kernel
theorem dX11_count_93 : decode cX11_count 93 = .ok (.aload_n 0, 1) := by decide +kernel
theorem dX11_count_94 : decode cX11_count 94 = .ok (.getfield 19, 3) := by decide +kernel
theorem dX11_count_97 : decode cX11_count 97 = .ok (.getfield 232, 3) := by decide +kernel
theorem dX11_count_100 : decode cX11_count 100 = .ok (.ireturn, 1) := by decide +kernel
theorem dX11_count_101 : decode cX11_count 101 = .ok (.aload_n 0, 1) := by decide +kernel
theorem dX11_count_102 : decode cX11_count 102 = .ok (.getfield 38, 3) := by decide +kernel
theorem dX11_count_105 : decode cX11_count 105 = .ok (.getfield 128, 3) := by decide +kernel
theorem dX11_count_108 : decode cX11_count 108 = .ok (.ireturn, 1) := by decide +kernel
theorem dX11_count_109 : decode cX11_count 109 = .ok (.aload_n 0, 1) := by decide +kernel
theorem dX11_count_110 : decode cX11_count 110 = .ok (.getfield 85, 3) := by decide +kernel
theorem dX11_count_113 : decode cX11_count 113 = .ok (.ireturn, 1) := by decide +kernel
theorem dX11_count_114 : decode cX11_count 114 = .ok (.aload_n 0, 1) := by decide +kernel
theorem dX11_count_115 : decode cX11_count 115 = .ok (.getfield 12, 3) := by decide +kernel
theorem dX11_count_118 : decode cX11_count 118 = .ok (.getfield 100, 3) := by decide +kernel
theorem dX11_count_121 : decode cX11_count 121 = .ok (.ireturn, 1) := by decide +kernel
theorem dX11_count_122 : decode cX11_count 122 = .ok (.aload_n 0, 1) := by decide +kernel
theorem dX11_count_123 : decode cX11_count 123 = .ok (.invokevirtual 356, 3) := by decide +kernel
theorem dX11_count_126 : decode cX11_count 126 = .ok (.ireturn, 1) := by decide +kernel
theorem dX11_count_127 : decode cX11_count 127 = .ok (.iconst (-1), 1) := by decide +kernel
theorem dX11_count_128 : decode cX11_count 128 = .ok (.ireturn, 1) := by decide +kernel
theorem dX11_thingsInAll_0 : decode cX11_thingsInAll 0 = .ok (.aload_n 0, 1) := by decide +kernel
theorem dX11_thingsInAll_1 : decode cX11_thingsInAll 1 = .ok (.getfield 19, 3) := by decide +kernel
theorem dX11_thingsInAll_4 : decode cX11_thingsInAll 4 = .ok (.getfield 359, 3) := by decide +kernel
theorem dX11_thingsInAll_7 : decode cX11_thingsInAll 7 = .ok (.aload_n 0, 1) := by decide +kernel
theorem dX11_thingsInAll_8 : decode cX11_thingsInAll 8 = .ok (.getfield 38, 3) := by decide +kernel
theorem dX11_thingsInAll_11 : decode cX11_thingsInAll 11 = .ok (.getfield 143, 3) := by decide +kernel
theorem dX11_thingsInAll_14 : decode cX11_thingsInAll 14 = .ok (.iadd, 1) := by decide +kernel
theorem dX11_thingsInAll_15 : decode cX11_thingsInAll 15 = .ok (.ireturn, 1) := by decide +kernel
theorem dX11_isThing_0 : decode cX11_isThing 0 = .ok (.iload_n 1, 1) := by decide +kernel
theorem dX11_isThing_1 : decode cX11_isThing 1 = .ok (.ifCond .lt 21, 3) := by decide +kernel
theorem dX11_isThing_4 : decode cX11_isThing 4 = .ok (.iload_n 1, 1) := by decide +kernel
theorem dX11_isThing_5 : decode cX11_isThing 5 = .ok (.aload_n 0, 1) := by decide +kernel
theorem dX11_isThing_6 : decode cX11_isThing 6 = .ok (.invokevirtual 124, 3) := by decide +kernel
theorem dX11_isThing_9 : decode cX11_isThing 9 = .ok (.if_icmp .ge 13, 3) := by decide +kernel
theorem dX11_isThing_12 : decode cX11_isThing 12 = .ok (.iload_n 1, 1) := by decide +kernel
theorem dX11_isThing_13 : decode cX11_isThing 13 = .ok (.bipush 14, 2) := by decide +kernel
theorem dX11_isThing_15 : decode cX11_isThing 15 = .ok (.if_icmp .ge 7, 3) := by decide +kernel
theorem dX11_isThing_18 : decode cX11_isThing 18 = .ok (.iconst 1, 1) := by decide +kernel
theorem dX11_isThing_19 : decode cX11_isThing 19 = .ok (.goto 4, 3) := by decide +kernel
theorem dX11_isThing_22 : decode cX11_isThing 22 = .ok (.iconst 0, 1) := by decide +kernel
theorem dX11_isThing_23 : decode cX11_isThing 23 = .ok (.ireturn, 1) := by decide +kernel
theorem dX11_isSpot_0 : decode cX11_isSpot 0 = .ok (.iload_n 0, 1) := by decide +kernel
theorem dX11_isSpot_1 : decode cX11_isSpot 1 = .ok (.ifCond .lt 25, 3) := by decide +kernel
theorem dX11_isSpot_4 : decode cX11_isSpot 4 = .ok (.iload_n 0, 1) := by decide +kernel
theorem dX11_isSpot_5 : decode cX11_isSpot 5 = .ok (.sipush 999, 3) := by decide +kernel
theorem dX11_isSpot_8 : decode cX11_isSpot 8 = .ok (.if_icmp .gt 18, 3) := by decide +kernel
theorem dX11_isSpot_11 : decode cX11_isSpot 11 = .ok (.iload_n 1, 1) := by decide +kernel
theorem dX11_isSpot_12 : decode cX11_isSpot 12 = .ok (.ifCond .lt 14, 3) := by decide +kernel
theorem dX11_isSpot_15 : decode cX11_isSpot 15 = .ok (.iload_n 1, 1) := by decide +kernel
theorem dX11_isSpot_16 : decode cX11_isSpot 16 = .ok (.sipush 999, 3) := by decide +kernel
theorem dX11_isSpot_19 : decode cX11_isSpot 19 = .ok (.if_icmp .gt 7, 3) := by decide +kernel
theorem dX11_isSpot_22 : decode cX11_isSpot 22 = .ok (.iconst 1, 1) := by decide +kernel
theorem dX11_isSpot_23 : decode cX11_isSpot 23 = .ok (.goto 4, 3) := by decide +kernel
theorem dX11_isSpot_26 : decode cX11_isSpot 26 = .ok (.iconst 0, 1) := by decide +kernel
theorem dX11_isSpot_27 : decode cX11_isSpot 27 = .ok (.ireturn, 1) := by decide +kernel
theorem dX11_isAge_0 : decode cX11_isAge 0 = .ok (.iload_n 0, 1) := by decide +kernel
theorem dX11_isAge_1 : decode cX11_isAge 1 = .ok (.ifCond .lt 14, 3) := by decide +kernel
theorem dX11_isAge_4 : decode cX11_isAge 4 = .ok (.iload_n 0, 1) := by decide +kernel
theorem dX11_isAge_5 : decode cX11_isAge 5 = .ok (.sipush 9999, 3) := by decide +kernel
theorem dX11_isAge_8 : decode cX11_isAge 8 = .ok (.if_icmp .gt 7, 3) := by decide +kernel
theorem dX11_isAge_11 : decode cX11_isAge 11 = .ok (.iconst 1, 1) := by decide +kernel
theorem dX11_isAge_12 : decode cX11_isAge 12 = .ok (.goto 4, 3) := by decide +kernel
theorem dX11_isAge_15 : decode cX11_isAge 15 = .ok (.iconst 0, 1) := by decide +kernel
theorem dX11_isAge_16 : decode cX11_isAge 16 = .ok (.ireturn, 1) := by decide +kernel
theorem dX11_isDegree_0 : decode cX11_isDegree 0 = .ok (.iload_n 0, 1) := by decide +kernel
theorem dX11_isDegree_1 : decode cX11_isDegree 1 = .ok (.ifCond .lt 14, 3) := by decide +kernel
theorem dX11_isDegree_4 : decode cX11_isDegree 4 = .ok (.iload_n 0, 1) := by decide +kernel
theorem dX11_isDegree_5 : decode cX11_isDegree 5 = .ok (.sipush 360, 3) := by decide +kernel
theorem dX11_isDegree_8 : decode cX11_isDegree 8 = .ok (.if_icmp .ge 7, 3) := by decide +kernel
theorem dX11_isDegree_11 : decode cX11_isDegree 11 = .ok (.iconst 1, 1) := by decide +kernel
theorem dX11_isDegree_12 : decode cX11_isDegree 12 = .ok (.goto 4, 3) := by decide +kernel
theorem dX11_isDegree_15 : decode cX11_isDegree 15 = .ok (.iconst 0, 1) := by decide +kernel
theorem dX11_isDegree_16 : decode cX11_isDegree 16 = .ok (.ireturn, 1) := by decide +kernel
theorem dX11_isYear_0 : decode cX11_isYear 0 = .ok (.iload_n 0, 1) := by decide +kernel
theorem dX11_isYear_1 : decode cX11_isYear 1 = .ok (.ifCond .lt 14, 3) := by decide +kernel
theorem dX11_isYear_4 : decode cX11_isYear 4 = .ok (.iload_n 0, 1) := by decide +kernel
theorem dX11_isYear_5 : decode cX11_isYear 5 = .ok (.sipush 5000, 3) := by decide +kernel
theorem dX11_isYear_8 : decode cX11_isYear 8 = .ok (.if_icmp .gt 7, 3) := by decide +kernel
theorem dX11_isYear_11 : decode cX11_isYear 11 = .ok (.iconst 1, 1) := by decide +kernel
theorem dX11_isYear_12 : decode cX11_isYear 12 = .ok (.goto 4, 3) := by decide +kernel
theorem dX11_isYear_15 : decode cX11_isYear 15 = .ok (.iconst 0, 1) := by decide +kernel
theorem dX11_isYear_16 : decode cX11_isYear 16 = .ok (.ireturn, 1) := by decide +kernel
theorem dX11_isYears_0 : decode cX11_isYears 0 = .ok (.iload_n 0, 1) := by decide +kernel
theorem dX11_isYears_1 : decode cX11_isYears 1 = .ok (.invokestatic 219, 3) := by decide +kernel
theorem dX11_isYears_4 : decode cX11_isYears 4 = .ok (.ifCond .eq 43, 3) := by decide +kernel
theorem dX11_isYears_7 : decode cX11_isYears 7 = .ok (.iload_n 1, 1) := by decide +kernel
theorem dX11_isYears_8 : decode cX11_isYears 8 = .ok (.iconst 1, 1) := by decide +kernel
theorem dX11_isYears_9 : decode cX11_isYears 9 = .ok (.if_icmp .lt 38, 3) := by decide +kernel
theorem dX11_isYears_12 : decode cX11_isYears 12 = .ok (.iload_n 1, 1) := by decide +kernel
theorem dX11_isYears_13 : decode cX11_isYears 13 = .ok (.bipush 100, 2) := by decide +kernel
theorem dX11_isYears_15 : decode cX11_isYears 15 = .ok (.if_icmp .gt 32, 3) := by decide +kernel
theorem dX11_isYears_18 : decode cX11_isYears 18 = .ok (.iload_n 2, 1) := by decide +kernel
theorem dX11_isYears_19 : decode cX11_isYears 19 = .ok (.iconst 1, 1) := by decide +kernel
theorem dX11_isYears_20 : decode cX11_isYears 20 = .ok (.if_icmp .lt 27, 3) := by decide +kernel
theorem dX11_isYears_23 : decode cX11_isYears 23 = .ok (.iload_n 2, 1) := by decide +kernel
theorem dX11_isYears_24 : decode cX11_isYears 24 = .ok (.sipush 200, 3) := by decide +kernel
theorem dX11_isYears_27 : decode cX11_isYears 27 = .ok (.if_icmp .gt 20, 3) := by decide +kernel
theorem dX11_isYears_30 : decode cX11_isYears 30 = .ok (.iload_n 0, 1) := by decide +kernel
theorem dX11_isYears_31 : decode cX11_isYears 31 = .ok (.iload_n 1, 1) := by decide +kernel
theorem dX11_isYears_32 : decode cX11_isYears 32 = .ok (.iload_n 2, 1) := by decide +kernel
theorem dX11_isYears_33 : decode cX11_isYears 33 = .ok (.iconst 1, 1) := by decide +kernel
theorem dX11_isYears_34 : decode cX11_isYears 34 = .ok (.isub, 1) := by decide +kernel
theorem dX11_isYears_35 : decode cX11_isYears 35 = .ok (.imul, 1) := by decide +kernel
theorem dX11_isYears_36 : decode cX11_isYears 36 = .ok (.iadd, 1) := by decide +kernel
theorem dX11_isYears_37 : decode cX11_isYears 37 = .ok (.invokestatic 219, 3) := by decide +kernel
theorem dX11_isYears_40 : decode cX11_isYears 40 = .ok (.ifCond .eq 7, 3) := by decide +kernel
theorem dX11_isYears_43 : decode cX11_isYears 43 = .ok (.iconst 1, 1) := by decide +kernel
theorem dX11_isYears_44 : decode cX11_isYears 44 = .ok (.goto 4, 3) := by decide +kernel
theorem dX11_isYears_47 : decode cX11_isYears 47 = .ok (.iconst 0, 1) := by decide +kernel
theorem dX11_isYears_48 : decode cX11_isYears 48 = .ok (.ireturn, 1) := by decide +kernel
theorem dX11_isMade_0 : decode cX11_isMade 0 = .ok (.iload_n 0, 1) := by decide +kernel
theorem dX11_isMade_1 : decode cX11_isMade 1 = .ok (.iconst 1, 1) := by decide +kernel
theorem dX11_isMade_2 : decode cX11_isMade 2 = .ok (.if_icmp .lt 22, 3) := by decide +kernel
theorem dX11_isMade_5 : decode cX11_isMade 5 = .ok (.iload_n 0, 1) := by decide +kernel
theorem dX11_isMade_6 : decode cX11_isMade 6 = .ok (.bipush 7, 2) := by decide +kernel
theorem dX11_isMade_8 : decode cX11_isMade 8 = .ok (.if_icmp .gt 16, 3) := by decide +kernel
theorem dX11_isMade_11 : decode cX11_isMade 11 = .ok (.iload_n 1, 1) := by decide +kernel
theorem dX11_isMade_12 : decode cX11_isMade 12 = .ok (.ifCond .lt 12, 3) := by decide +kernel
theorem dX11_isMade_15 : decode cX11_isMade 15 = .ok (.iload_n 1, 1) := by decide +kernel
theorem dX11_isMade_16 : decode cX11_isMade 16 = .ok (.iload_n 0, 1) := by decide +kernel
theorem dX11_isMade_17 : decode cX11_isMade 17 = .ok (.if_icmp .gt 7, 3) := by decide +kernel
theorem dX11_isMade_20 : decode cX11_isMade 20 = .ok (.iconst 1, 1) := by decide +kernel
theorem dX11_isMade_21 : decode cX11_isMade 21 = .ok (.goto 4, 3) := by decide +kernel
theorem dX11_isMade_24 : decode cX11_isMade 24 = .ok (.iconst 0, 1) := by decide +kernel
theorem dX11_isMade_25 : decode cX11_isMade 25 = .ok (.ireturn, 1) := by decide +kernel
theorem dX11_isKnown_0 : decode cX11_isKnown 0 = .ok (.iload_n 1, 1) := by decide +kernel
theorem dX11_isKnown_1 : decode cX11_isKnown 1 = .ok (.ifCond .lt 18, 3) := by decide +kernel
theorem dX11_isKnown_4 : decode cX11_isKnown 4 = .ok (.iload_n 1, 1) := by decide +kernel
theorem dX11_isKnown_5 : decode cX11_isKnown 5 = .ok (.aload_n 0, 1) := by decide +kernel
theorem dX11_isKnown_6 : decode cX11_isKnown 6 = .ok (.getfield 38, 3) := by decide +kernel
theorem dX11_isKnown_9 : decode cX11_isKnown 9 = .ok (.getfield 128, 3) := by decide +kernel
theorem dX11_isKnown_12 : decode cX11_isKnown 12 = .ok (.if_icmp .gt 7, 3) := by decide +kernel
theorem dX11_isKnown_15 : decode cX11_isKnown 15 = .ok (.iconst 1, 1) := by decide +kernel
theorem dX11_isKnown_16 : decode cX11_isKnown 16 = .ok (.goto 4, 3) := by decide +kernel
theorem dX11_isKnown_19 : decode cX11_isKnown 19 = .ok (.iconst 0, 1) := by decide +kernel
theorem dX11_isKnown_20 : decode cX11_isKnown 20 = .ok (.ireturn, 1) := by decide +kernel
theorem dX11_isPlace_0 : decode cX11_isPlace 0 = .ok (.iload_n 1, 1) := by decide +kernel
theorem dX11_isPlace_1 : decode cX11_isPlace 1 = .ok (.ifCond .lt 18, 3) := by decide +kernel
theorem dX11_isPlace_4 : decode cX11_isPlace 4 = .ok (.iload_n 1, 1) := by decide +kernel
theorem dX11_isPlace_5 : decode cX11_isPlace 5 = .ok (.aload_n 0, 1) := by decide +kernel
theorem dX11_isPlace_6 : decode cX11_isPlace 6 = .ok (.getfield 19, 3) := by decide +kernel
theorem dX11_isPlace_9 : decode cX11_isPlace 9 = .ok (.getfield 341, 3) := by decide +kernel
theorem dX11_isPlace_12 : decode cX11_isPlace 12 = .ok (.if_icmp .ge 7, 3) := by decide +kernel
theorem dX11_isPlace_15 : decode cX11_isPlace 15 = .ok (.iconst 1, 1) := by decide +kernel
theorem dX11_isPlace_16 : decode cX11_isPlace 16 = .ok (.goto 4, 3) := by decide +kernel
theorem dX11_isPlace_19 : decode cX11_isPlace 19 = .ok (.iconst 0, 1) := by decide +kernel
theorem dX11_isPlace_20 : decode cX11_isPlace 20 = .ok (.ireturn, 1) := by decide +kernel
theorem dX11_isAsked_0 : decode cX11_isAsked 0 = .ok (.iload_n 1, 1) := by decide +kernel
theorem dX11_isAsked_1 : decode cX11_isAsked 1 = .ok (.ifCond .lt 35, 3) := by decide +kernel
theorem dX11_isAsked_4 : decode cX11_isAsked 4 = .ok (.iload_n 1, 1) := by decide +kernel
theorem dX11_isAsked_5 : decode cX11_isAsked 5 = .ok (.iconst 1, 1) := by decide +kernel
theorem dX11_isAsked_6 : decode cX11_isAsked 6 = .ok (.aload_n 0, 1) := by decide +kernel
theorem dX11_isAsked_7 : decode cX11_isAsked 7 = .ok (.getfield 19, 3) := by decide +kernel
theorem dX11_isAsked_10 : decode cX11_isAsked 10 = .ok (.getfield 341, 3) := by decide +kernel
theorem dX11_isAsked_13 : decode cX11_isAsked 13 = .ok (.ishl, 1) := by decide +kernel
theorem dX11_isAsked_14 : decode cX11_isAsked 14 = .ok (.if_icmp .ge 22, 3) := by decide +kernel
theorem dX11_isAsked_17 : decode cX11_isAsked 17 = .ok (.iload_n 2, 1) := by decide +kernel
theorem dX11_isAsked_18 : decode cX11_isAsked 18 = .ok (.invokestatic 219, 3) := by decide +kernel
theorem dX11_isAsked_21 : decode cX11_isAsked 21 = .ok (.ifCond .eq 15, 3) := by decide +kernel
theorem dX11_isAsked_24 : decode cX11_isAsked 24 = .ok (.aload_n 0, 1) := by decide +kernel
theorem dX11_isAsked_25 : decode cX11_isAsked 25 = .ok (.iload_n 3, 1) := by decide +kernel
theorem dX11_isAsked_26 : decode cX11_isAsked 26 = .ok (.invokevirtual 152, 3) := by decide +kernel
theorem dX11_isAsked_29 : decode cX11_isAsked 29 = .ok (.ifCond .eq 7, 3) := by decide +kernel
theorem dX11_isAsked_32 : decode cX11_isAsked 32 = .ok (.iconst 1, 1) := by decide +kernel
theorem dX11_isAsked_33 : decode cX11_isAsked 33 = .ok (.goto 4, 3) := by decide +kernel
theorem dX11_isAsked_36 : decode cX11_isAsked 36 = .ok (.iconst 0, 1) := by decide +kernel
theorem dX11_isAsked_37 : decode cX11_isAsked 37 = .ok (.ireturn, 1) := by decide +kernel
theorem dX11_slotsHeld_0 : decode cX11_slotsHeld 0 = .ok (.iconst 0, 1) := by decide +kernel
theorem dX11_slotsHeld_1 : decode cX11_slotsHeld 1 = .ok (.istore_n 1, 1) := by decide +kernel
theorem dX11_slotsHeld_2 : decode cX11_slotsHeld 2 = .ok (.iconst 0, 1) := by decide +kernel
theorem dX11_slotsHeld_3 : decode cX11_slotsHeld 3 = .ok (.istore_n 2, 1) := by decide +kernel
theorem dX11_slotsHeld_4 : decode cX11_slotsHeld 4 = .ok (.iload_n 2, 1) := by decide +kernel
theorem dX11_slotsHeld_5 : decode cX11_slotsHeld 5 = .ok (.iconst 3, 1) := by decide +kernel
theorem dX11_slotsHeld_6 : decode cX11_slotsHeld 6 = .ok (.if_icmp .ge 21, 3) := by decide +kernel
theorem dX11_slotsHeld_9 : decode cX11_slotsHeld 9 = .ok (.aload_n 0, 1) := by decide +kernel
theorem dX11_slotsHeld_10 : decode cX11_slotsHeld 10 = .ok (.getfield 42, 3) := by decide +kernel
theorem dX11_slotsHeld_13 : decode cX11_slotsHeld 13 = .ok (.iload_n 2, 1) := by decide +kernel
theorem dX11_slotsHeld_14 : decode cX11_slotsHeld 14 = .ok (.aaload, 1) := by decide +kernel
theorem dX11_slotsHeld_15 : decode cX11_slotsHeld 15 = .ok (.ifnull 6, 3) := by decide +kernel
theorem dX11_slotsHeld_18 : decode cX11_slotsHeld 18 = .ok (.iinc 1 1, 3) := by decide +kernel
theorem dX11_slotsHeld_21 : decode cX11_slotsHeld 21 = .ok (.iinc 2 1, 3) := by decide +kernel
theorem dX11_slotsHeld_24 : decode cX11_slotsHeld 24 = .ok (.goto (-20), 3) := by decide +kernel
theorem dX11_slotsHeld_27 : decode cX11_slotsHeld 27 = .ok (.iload_n 1, 1) := by decide +kernel
theorem dX11_slotsHeld_28 : decode cX11_slotsHeld 28 = .ok (.ireturn, 1) := by decide +kernel
theorem dX11_lookAt_0 : decode cX11_lookAt 0 = .ok (.aload_n 0, 1) := by decide +kernel
theorem dX11_lookAt_1 : decode cX11_lookAt 1 = .ok (.getfield 53, 3) := by decide +kernel
theorem dX11_lookAt_4 : decode cX11_lookAt 4 = .ok (.aload_n 0, 1) := by decide +kernel
theorem dX11_lookAt_5 : decode cX11_lookAt 5 = .ok (.getfield 19, 3) := by decide +kernel
theorem dX11_lookAt_8 : decode cX11_lookAt 8 = .ok (.aload_n 0, 1) := by decide +kernel
theorem dX11_lookAt_9 : decode cX11_lookAt 9 = .ok (.getfield 38, 3) := by decide +kernel
theorem dX11_lookAt_12 : decode cX11_lookAt 12 = .ok (.iload_n 2, 1) := by decide +kernel
theorem dX11_lookAt_13 : decode cX11_lookAt 13 = .ok (.invokevirtual 155, 3) := by decide +kernel
theorem dX11_lookAt_16 : decode cX11_lookAt 16 = .ok (.aload_n 0, 1) := by decide +kernel
theorem dX11_lookAt_17 : decode cX11_lookAt 17 = .ok (.getfield 53, 3) := by decide +kernel
theorem dX11_lookAt_20 : decode cX11_lookAt 20 = .ok (.aload_n 0, 1) := by decide +kernel
theorem dX11_lookAt_21 : decode cX11_lookAt 21 = .ok (.getfield 19, 3) := by decide +kernel
theorem dX11_lookAt_24 : decode cX11_lookAt 24 = .ok (.iload_n 3, 1) := by decide +kernel
theorem dX11_lookAt_25 : decode cX11_lookAt 25 = .ok (.invokevirtual 207, 3) := by decide +kernel
theorem dX11_lookAt_28 : decode cX11_lookAt 28 = .ok (.aload_n 0, 1) := by decide +kernel
theorem dX11_lookAt_29 : decode cX11_lookAt 29 = .ok (.getfield 60, 3) := by decide +kernel
theorem dX11_lookAt_32 : decode cX11_lookAt 32 = .ok (.aload_n 0, 1) := by decide +kernel
theorem dX11_lookAt_33 : decode cX11_lookAt 33 = .ok (.getfield 19, 3) := by decide +kernel
theorem dX11_lookAt_36 : decode cX11_lookAt 36 = .ok (.iload_n 1, 1) := by decide +kernel
theorem dX11_lookAt_37 : decode cX11_lookAt 37 = .ok (.invokevirtual 226, 3) := by decide +kernel
theorem dX11_lookAt_40 : decode cX11_lookAt 40 = .ok (.return_, 1) := by decide +kernel
theorem dX11_turnAll_0 : decode cX11_turnAll 0 = .ok (.aload_n 0, 1) := by decide +kernel
theorem dX11_turnAll_1 : decode cX11_turnAll 1 = .ok (.iload_n 2, 1) := by decide +kernel
theorem dX11_turnAll_2 : decode cX11_turnAll 2 = .ok (.iload_n 3, 1) := by decide +kernel
theorem dX11_turnAll_3 : decode cX11_turnAll 3 = .ok (.iload 4, 2) := by decide +kernel
theorem dX11_turnAll_5 : decode cX11_turnAll 5 = .ok (.invokevirtual 243, 3) := by decide +kernel
theorem dX11_turnAll_8 : decode cX11_turnAll 8 = .ok (.aload_n 0, 1) := by decide +kernel
theorem dX11_turnAll_9 : decode cX11_turnAll 9 = .ok (.getfield 67, 3) := by decide +kernel
theorem dX11_turnAll_12 : decode cX11_turnAll 12 = .ok (.aload_n 0, 1) := by decide +kernel
theorem dX11_turnAll_13 : decode cX11_turnAll 13 = .ok (.getfield 53, 3) := by decide +kernel
theorem dX11_turnAll_16 : decode cX11_turnAll 16 = .ok (.invokevirtual 360, 3) := by decide +kernel
theorem dX11_turnAll_19 : decode cX11_turnAll 19 = .ok (.aload_n 0, 1) := by decide +kernel
theorem dX11_turnAll_20 : decode cX11_turnAll 20 = .ok (.getfield 67, 3) := by decide +kernel
theorem dX11_turnAll_23 : decode cX11_turnAll 23 = .ok (.aload_n 0, 1) := by decide +kernel
theorem dX11_turnAll_24 : decode cX11_turnAll 24 = .ok (.getfield 60, 3) := by decide +kernel
theorem dX11_turnAll_27 : decode cX11_turnAll 27 = .ok (.aload_n 0, 1) := by decide +kernel
theorem dX11_turnAll_28 : decode cX11_turnAll 28 = .ok (.getfield 19, 3) := by decide +kernel
theorem dX11_turnAll_31 : decode cX11_turnAll 31 = .ok (.getfield 232, 3) := by decide +kernel
theorem dX11_turnAll_34 : decode cX11_turnAll 34 = .ok (.invokevirtual 318, 3) := by decide +kernel
theorem dX11_turnAll_37 : decode cX11_turnAll 37 = .ok (.aload_n 0, 1) := by decide +kernel
theorem dX11_turnAll_38 : decode cX11_turnAll 38 = .ok (.getfield 67, 3) := by decide +kernel
theorem dX11_turnAll_41 : decode cX11_turnAll 41 = .ok (.iload_n 1, 1) := by decide +kernel
theorem dX11_turnAll_42 : decode cX11_turnAll 42 = .ok (.invokevirtual 364, 3) := by decide +kernel
theorem dX11_turnAll_45 : decode cX11_turnAll 45 = .ok (.return_, 1) := by decide +kernel
theorem dX11_strikes_0 : decode cX11_strikes 0 = .ok (.aload_n 0, 1) := by decide +kernel
theorem dX11_strikes_1 : decode cX11_strikes 1 = .ok (.getfield 60, 3) := by decide +kernel
theorem dX11_strikes_4 : decode cX11_strikes 4 = .ok (.iload_n 1, 1) := by decide +kernel
theorem dX11_strikes_5 : decode cX11_strikes 5 = .ok (.aload_n 0, 1) := by decide +kernel
theorem dX11_strikes_6 : decode cX11_strikes 6 = .ok (.getfield 19, 3) := by decide +kernel
theorem dX11_strikes_9 : decode cX11_strikes 9 = .ok (.getfield 232, 3) := by decide +kernel
theorem dX11_strikes_12 : decode cX11_strikes 12 = .ok (.iload_n 3, 1) := by decide +kernel
theorem dX11_strikes_13 : decode cX11_strikes 13 = .ok (.invokevirtual 235, 3) := by decide +kernel
theorem dX11_strikes_16 : decode cX11_strikes 16 = .ok (.iload_n 2, 1) := by decide +kernel
theorem dX11_strikes_17 : decode cX11_strikes 17 = .ok (.iand, 1) := by decide +kernel
theorem dX11_strikes_18 : decode cX11_strikes 18 = .ok (.ifCond .eq 7, 3) := by decide +kernel
theorem dX11_strikes_21 : decode cX11_strikes 21 = .ok (.iconst 1, 1) := by decide +kernel
theorem dX11_strikes_22 : decode cX11_strikes 22 = .ok (.goto 4, 3) := by decide +kernel
theorem dX11_strikes_25 : decode cX11_strikes 25 = .ok (.iconst 0, 1) := by decide +kernel
theorem dX11_strikes_26 : decode cX11_strikes 26 = .ok (.ireturn, 1) := by decide +kernel
theorem dX11_hitsTurned_0 : decode cX11_hitsTurned 0 = .ok (.iconst 0, 1) := by decide +kernel
theorem dX11_hitsTurned_1 : decode cX11_hitsTurned 1 = .ok (.istore 4, 2) := by decide +kernel
theorem dX11_hitsTurned_3 : decode cX11_hitsTurned 3 = .ok (.iconst 0, 1) := by decide +kernel
theorem dX11_hitsTurned_4 : decode cX11_hitsTurned 4 = .ok (.istore 5, 2) := by decide +kernel
theorem dX11_hitsTurned_6 : decode cX11_hitsTurned 6 = .ok (.iload 5, 2) := by decide +kernel
theorem dX11_hitsTurned_8 : decode cX11_hitsTurned 8 = .ok (.aload_n 0, 1) := by decide +kernel
theorem dX11_hitsTurned_9 : decode cX11_hitsTurned 9 = .ok (.getfield 53, 3) := by decide +kernel
theorem dX11_hitsTurned_12 : decode cX11_hitsTurned 12 = .ok (.getfield 210, 3) := by decide +kernel
theorem dX11_hitsTurned_15 : decode cX11_hitsTurned 15 = .ok (.if_icmp .ge 35, 3) := by decide +kernel
theorem dX11_hitsTurned_18 : decode cX11_hitsTurned 18 = .ok (.aload_n 0, 1) := by decide +kernel
theorem dX11_hitsTurned_19 : decode cX11_hitsTurned 19 = .ok (.aload_n 0, 1) := by decide +kernel
theorem dX11_hitsTurned_20 : decode cX11_hitsTurned 20 = .ok (.getfield 53, 3) := by decide +kernel
theorem dX11_hitsTurned_23 : decode cX11_hitsTurned 23 = .ok (.getfield 250, 3) := by decide +kernel
theorem dX11_hitsTurned_26 : decode cX11_hitsTurned 26 = .ok (.iload 5, 2) := by decide +kernel
theorem dX11_hitsTurned_28 : decode cX11_hitsTurned 28 = .ok (.iaload, 1) := by decide +kernel
theorem dX11_hitsTurned_29 : decode cX11_hitsTurned 29 = .ok (.iload_n 2, 1) := by decide +kernel
theorem dX11_hitsTurned_30 : decode cX11_hitsTurned 30 = .ok (.invokestatic 367, 3) := by decide +kernel
theorem dX11_hitsTurned_33 : decode cX11_hitsTurned 33 = .ok (.iload_n 1, 1) := by decide +kernel
theorem dX11_hitsTurned_34 : decode cX11_hitsTurned 34 = .ok (.iload_n 3, 1) := by decide +kernel
theorem dX11_hitsTurned_35 : decode cX11_hitsTurned 35 = .ok (.invokevirtual 253, 3) := by decide +kernel
theorem dX11_hitsTurned_38 : decode cX11_hitsTurned 38 = .ok (.ifCond .eq 6, 3) := by decide +kernel
theorem dX11_hitsTurned_41 : decode cX11_hitsTurned 41 = .ok (.iinc 4 1, 3) := by decide +kernel
theorem dX11_hitsTurned_44 : decode cX11_hitsTurned 44 = .ok (.iinc 5 1, 3) := by decide +kernel
theorem dX11_hitsTurned_47 : decode cX11_hitsTurned 47 = .ok (.goto (-41), 3) := by decide +kernel
theorem dX11_hitsTurned_50 : decode cX11_hitsTurned 50 = .ok (.iload 4, 2) := by decide +kernel
theorem dX11_hitsTurned_52 : decode cX11_hitsTurned 52 = .ok (.ireturn, 1) := by decide +kernel
theorem dX11_hitsNow_0 : decode cX11_hitsNow 0 = .ok (.aload_n 0, 1) := by decide +kernel
theorem dX11_hitsNow_1 : decode cX11_hitsNow 1 = .ok (.iload_n 1, 1) := by decide +kernel
theorem dX11_hitsNow_2 : decode cX11_hitsNow 2 = .ok (.iconst 0, 1) := by decide +kernel
theorem dX11_hitsNow_3 : decode cX11_hitsNow 3 = .ok (.iconst 0, 1) := by decide +kernel
theorem dX11_hitsNow_4 : decode cX11_hitsNow 4 = .ok (.invokevirtual 247, 3) := by decide +kernel
theorem dX11_hitsNow_7 : decode cX11_hitsNow 7 = .ok (.ireturn, 1) := by decide +kernel
theorem dX11_hitsIn_0 : decode cX11_hitsIn 0 = .ok (.aload_n 0, 1) := by decide +kernel
theorem dX11_hitsIn_1 : decode cX11_hitsIn 1 = .ok (.getfield 60, 3) := by decide +kernel
theorem dX11_hitsIn_4 : decode cX11_hitsIn 4 = .ok (.aload_n 0, 1) := by decide +kernel
theorem dX11_hitsIn_5 : decode cX11_hitsIn 5 = .ok (.getfield 19, 3) := by decide +kernel
theorem dX11_hitsIn_8 : decode cX11_hitsIn 8 = .ok (.iload_n 2, 1) := by decide +kernel
theorem dX11_hitsIn_9 : decode cX11_hitsIn 9 = .ok (.invokevirtual 226, 3) := by decide +kernel
theorem dX11_hitsIn_12 : decode cX11_hitsIn 12 = .ok (.aload_n 0, 1) := by decide +kernel
theorem dX11_hitsIn_13 : decode cX11_hitsIn 13 = .ok (.iload_n 1, 1) := by decide +kernel
theorem dX11_hitsIn_14 : decode cX11_hitsIn 14 = .ok (.invokevirtual 288, 3) := by decide +kernel
theorem dX11_hitsIn_17 : decode cX11_hitsIn 17 = .ok (.ireturn, 1) := by decide +kernel
theorem dX11_hitsOf_0 : decode cX11_hitsOf 0 = .ok (.iconst 0, 1) := by decide +kernel
theorem dX11_hitsOf_1 : decode cX11_hitsOf 1 = .ok (.istore_n 3, 1) := by decide +kernel
theorem dX11_hitsOf_2 : decode cX11_hitsOf 2 = .ok (.iconst 0, 1) := by decide +kernel
theorem dX11_hitsOf_3 : decode cX11_hitsOf 3 = .ok (.istore 4, 2) := by decide +kernel
theorem dX11_hitsOf_5 : decode cX11_hitsOf 5 = .ok (.iload 4, 2) := by decide +kernel
theorem dX11_hitsOf_7 : decode cX11_hitsOf 7 = .ok (.aload_n 0, 1) := by decide +kernel
theorem dX11_hitsOf_8 : decode cX11_hitsOf 8 = .ok (.getfield 53, 3) := by decide +kernel
theorem dX11_hitsOf_11 : decode cX11_hitsOf 11 = .ok (.getfield 210, 3) := by decide +kernel
theorem dX11_hitsOf_14 : decode cX11_hitsOf 14 = .ok (.if_icmp .ge 73, 3) := by decide +kernel
theorem dX11_hitsOf_17 : decode cX11_hitsOf 17 = .ok (.aload_n 0, 1) := by decide +kernel
theorem dX11_hitsOf_18 : decode cX11_hitsOf 18 = .ok (.getfield 53, 3) := by decide +kernel
theorem dX11_hitsOf_21 : decode cX11_hitsOf 21 = .ok (.getfield 257, 3) := by decide +kernel
theorem dX11_hitsOf_24 : decode cX11_hitsOf 24 = .ok (.iload 4, 2) := by decide +kernel
theorem dX11_hitsOf_26 : decode cX11_hitsOf 26 = .ok (.iaload, 1) := by decide +kernel
theorem dX11_hitsOf_27 : decode cX11_hitsOf 27 = .ok (.istore 5, 2) := by decide +kernel
theorem dX11_hitsOf_29 : decode cX11_hitsOf 29 = .ok (.iload 5, 2) := by decide +kernel
theorem dX11_hitsOf_31 : decode cX11_hitsOf 31 = .ok (.bipush 14, 2) := by decide +kernel
theorem dX11_hitsOf_33 : decode cX11_hitsOf 33 = .ok (.idiv, 1) := by decide +kernel
theorem dX11_hitsOf_34 : decode cX11_hitsOf 34 = .ok (.iload_n 1, 1) := by decide +kernel
theorem dX11_hitsOf_35 : decode cX11_hitsOf 35 = .ok (.if_icmp .eq 12, 3) := by decide +kernel
theorem dX11_hitsOf_38 : decode cX11_hitsOf 38 = .ok (.iload 5, 2) := by decide +kernel
theorem dX11_hitsOf_40 : decode cX11_hitsOf 40 = .ok (.bipush 14, 2) := by decide +kernel
theorem dX11_hitsOf_42 : decode cX11_hitsOf 42 = .ok (.irem, 1) := by decide +kernel
theorem dX11_hitsOf_43 : decode cX11_hitsOf 43 = .ok (.iload_n 1, 1) := by decide +kernel
theorem dX11_hitsOf_44 : decode cX11_hitsOf 44 = .ok (.if_icmp .ne 7, 3) := by decide +kernel
theorem dX11_hitsOf_47 : decode cX11_hitsOf 47 = .ok (.iconst 1, 1) := by decide +kernel
theorem dX11_hitsOf_48 : decode cX11_hitsOf 48 = .ok (.goto 4, 3) := by decide +kernel
theorem dX11_hitsOf_51 : decode cX11_hitsOf 51 = .ok (.iconst 0, 1) := by decide +kernel
theorem dX11_hitsOf_52 : decode cX11_hitsOf 52 = .ok (.istore 6, 2) := by decide +kernel
theorem dX11_hitsOf_54 : decode cX11_hitsOf 54 = .ok (.iload 6, 2) := by decide +kernel
theorem dX11_hitsOf_56 : decode cX11_hitsOf 56 = .ok (.ifCond .eq 25, 3) := by decide +kernel
theorem dX11_hitsOf_59 : decode cX11_hitsOf 59 = .ok (.aload_n 0, 1) := by decide +kernel
theorem dX11_hitsOf_60 : decode cX11_hitsOf 60 = .ok (.aload_n 0, 1) := by decide +kernel
theorem dX11_hitsOf_61 : decode cX11_hitsOf 61 = .ok (.getfield 53, 3) := by decide +kernel
theorem dX11_hitsOf_64 : decode cX11_hitsOf 64 = .ok (.getfield 250, 3) := by decide +kernel
theorem dX11_hitsOf_67 : decode cX11_hitsOf 67 = .ok (.iload 4, 2) := by decide +kernel
theorem dX11_hitsOf_69 : decode cX11_hitsOf 69 = .ok (.iaload, 1) := by decide +kernel
theorem dX11_hitsOf_70 : decode cX11_hitsOf 70 = .ok (.iload_n 2, 1) := by decide +kernel
theorem dX11_hitsOf_71 : decode cX11_hitsOf 71 = .ok (.iconst 0, 1) := by decide +kernel
theorem dX11_hitsOf_72 : decode cX11_hitsOf 72 = .ok (.invokevirtual 253, 3) := by decide +kernel
theorem dX11_hitsOf_75 : decode cX11_hitsOf 75 = .ok (.ifCond .eq 6, 3) := by decide +kernel
theorem dX11_hitsOf_78 : decode cX11_hitsOf 78 = .ok (.iinc 3 1, 3) := by decide +kernel
theorem dX11_hitsOf_81 : decode cX11_hitsOf 81 = .ok (.iinc 4 1, 3) := by decide +kernel
theorem dX11_hitsOf_84 : decode cX11_hitsOf 84 = .ok (.goto (-79), 3) := by decide +kernel
theorem dX11_hitsOf_87 : decode cX11_hitsOf 87 = .ok (.iload_n 3, 1) := by decide +kernel
theorem dX11_hitsOf_88 : decode cX11_hitsOf 88 = .ok (.ireturn, 1) := by decide +kernel
theorem dX11_near_0 : decode cX11_near 0 = .ok (.iconst 0, 1) := by decide +kernel
theorem dX11_near_1 : decode cX11_near 1 = .ok (.istore 4, 2) := by decide +kernel
theorem dX11_near_3 : decode cX11_near 3 = .ok (.iconst 0, 1) := by decide +kernel
theorem dX11_near_4 : decode cX11_near 4 = .ok (.istore 5, 2) := by decide +kernel
theorem dX11_near_6 : decode cX11_near 6 = .ok (.iload 5, 2) := by decide +kernel
theorem dX11_near_8 : decode cX11_near 8 = .ok (.aload_n 0, 1) := by decide +kernel
theorem dX11_near_9 : decode cX11_near 9 = .ok (.getfield 85, 3) := by decide +kernel
theorem dX11_near_12 : decode cX11_near 12 = .ok (.if_icmp .ge 24, 3) := by decide +kernel
theorem dX11_near_15 : decode cX11_near 15 = .ok (.aload_n 3, 1) := by decide +kernel
theorem dX11_near_16 : decode cX11_near 16 = .ok (.iload 5, 2) := by decide +kernel
theorem dX11_near_18 : decode cX11_near 18 = .ok (.iaload, 1) := by decide +kernel
theorem dX11_near_19 : decode cX11_near 19 = .ok (.iload_n 1, 1) := by decide +kernel
theorem dX11_near_20 : decode cX11_near 20 = .ok (.invokestatic 370, 3) := by decide +kernel
theorem dX11_near_23 : decode cX11_near 23 = .ok (.iload_n 2, 1) := by decide +kernel
theorem dX11_near_24 : decode cX11_near 24 = .ok (.if_icmp .gt 6, 3) := by decide +kernel
theorem dX11_near_27 : decode cX11_near 27 = .ok (.iinc 4 1, 3) := by decide +kernel
theorem dX11_near_30 : decode cX11_near 30 = .ok (.iinc 5 1, 3) := by decide +kernel
theorem dX11_near_33 : decode cX11_near 33 = .ok (.goto (-27), 3) := by decide +kernel
theorem dX11_near_36 : decode cX11_near 36 = .ok (.iload 4, 2) := by decide +kernel
theorem dX11_near_38 : decode cX11_near 38 = .ok (.ireturn, 1) := by decide +kernel
theorem dX11_markRounds_0 : decode cX11_markRounds 0 = .ok (.iload_n 2, 1) := by decide +kernel
theorem dX11_markRounds_1 : decode cX11_markRounds 1 = .ok (.iconst 1, 1) := by decide +kernel
theorem dX11_markRounds_2 : decode cX11_markRounds 2 = .ok (.if_icmp .ge 4, 3) := by decide +kernel
theorem dX11_markRounds_5 : decode cX11_markRounds 5 = .ok (.return_, 1) := by decide +kernel
theorem dX11_markRounds_6 : decode cX11_markRounds 6 = .ok (.iconst 1, 1) := by decide +kernel
theorem dX11_markRounds_7 : decode cX11_markRounds 7 = .ok (.iload_n 1, 1) := by decide +kernel
theorem dX11_markRounds_8 : decode cX11_markRounds 8 = .ok (.iload_n 2, 1) := by decide +kernel
theorem dX11_markRounds_9 : decode cX11_markRounds 9 = .ok (.idiv, 1) := by decide +kernel
theorem dX11_markRounds_10 : decode cX11_markRounds 10 = .ok (.iload_n 3, 1) := by decide +kernel
theorem dX11_markRounds_11 : decode cX11_markRounds 11 = .ok (.isub, 1) := by decide +kernel
theorem dX11_markRounds_12 : decode cX11_markRounds 12 = .ok (.invokestatic 373, 3) := by decide +kernel
theorem dX11_markRounds_15 : decode cX11_markRounds 15 = .ok (.istore 5, 2) := by decide +kernel
theorem dX11_markRounds_17 : decode cX11_markRounds 17 = .ok (.iload 4, 2) := by decide +kernel
theorem dX11_markRounds_19 : decode cX11_markRounds 19 = .ok (.iload_n 1, 1) := by decide +kernel
theorem dX11_markRounds_20 : decode cX11_markRounds 20 = .ok (.iload_n 2, 1) := by decide +kernel
theorem dX11_markRounds_21 : decode cX11_markRounds 21 = .ok (.idiv, 1) := by decide +kernel
theorem dX11_markRounds_22 : decode cX11_markRounds 22 = .ok (.iload_n 3, 1) := by decide +kernel
theorem dX11_markRounds_23 : decode cX11_markRounds 23 = .ok (.iadd, 1) := by decide +kernel
theorem dX11_markRounds_24 : decode cX11_markRounds 24 = .ok (.iconst 1, 1) := by decide +kernel
theorem dX11_markRounds_25 : decode cX11_markRounds 25 = .ok (.iadd, 1) := by decide +kernel
theorem dX11_markRounds_26 : decode cX11_markRounds 26 = .ok (.invokestatic 376, 3) := by decide +kernel
theorem dX11_markRounds_29 : decode cX11_markRounds 29 = .ok (.istore 6, 2) := by decide +kernel
theorem dX11_markRounds_31 : decode cX11_markRounds 31 = .ok (.iload 5, 2) := by decide +kernel
theorem dX11_markRounds_33 : decode cX11_markRounds 33 = .ok (.istore 7, 2) := by decide +kernel
theorem dX11_markRounds_35 : decode cX11_markRounds 35 = .ok (.iload 7, 2) := by decide +kernel
theorem dX11_markRounds_37 : decode cX11_markRounds 37 = .ok (.iload 6, 2) := by decide +kernel
theorem dX11_markRounds_39 : decode cX11_markRounds 39 = .ok (.if_icmp .gt 32, 3) := by decide +kernel
theorem dX11_markRounds_42 : decode cX11_markRounds 42 = .ok (.iload_n 1, 1) := by decide +kernel
theorem dX11_markRounds_43 : decode cX11_markRounds 43 = .ok (.iload 7, 2) := by decide +kernel
theorem dX11_markRounds_45 : decode cX11_markRounds 45 = .ok (.iload_n 2, 1) := by decide +kernel
theorem dX11_markRounds_46 : decode cX11_markRounds 46 = .ok (.imul, 1) := by decide +kernel
theorem dX11_markRounds_47 : decode cX11_markRounds 47 = .ok (.isub, 1) := by decide +kernel
theorem dX11_markRounds_48 : decode cX11_markRounds 48 = .ok (.invokestatic 333, 3) := by decide +kernel
theorem dX11_markRounds_51 : decode cX11_markRounds 51 = .ok (.iload_n 3, 1) := by decide +kernel
theorem dX11_markRounds_52 : decode cX11_markRounds 52 = .ok (.iload_n 2, 1) := by decide +kernel
theorem dX11_markRounds_53 : decode cX11_markRounds 53 = .ok (.imul, 1) := by decide +kernel
theorem dX11_markRounds_54 : decode cX11_markRounds 54 = .ok (.if_icmp .gt 11, 3) := by decide +kernel
theorem dX11_markRounds_57 : decode cX11_markRounds 57 = .ok (.aload_n 0, 1) := by decide +kernel
theorem dX11_markRounds_58 : decode cX11_markRounds 58 = .ok (.getfield 96, 3) := by decide +kernel
theorem dX11_markRounds_61 : decode cX11_markRounds 61 = .ok (.iload 7, 2) := by decide +kernel
theorem dX11_markRounds_63 : decode cX11_markRounds 63 = .ok (.iconst 1, 1) := by decide +kernel
theorem dX11_markRounds_64 : decode cX11_markRounds 64 = .ok (.bastore, 1) := by decide +kernel
theorem dX11_markRounds_65 : decode cX11_markRounds 65 = .ok (.iinc 7 1, 3) := by decide +kernel
theorem dX11_markRounds_68 : decode cX11_markRounds 68 = .ok (.goto (-33), 3) := by decide +kernel
theorem dX11_markRounds_71 : decode cX11_markRounds 71 = .ok (.return_, 1) := by decide +kernel
theorem dX11_markedUpTo_0 : decode cX11_markedUpTo 0 = .ok (.iconst 0, 1) := by decide +kernel
theorem dX11_markedUpTo_1 : decode cX11_markedUpTo 1 = .ok (.istore_n 2, 1) := by decide +kernel
theorem dX11_markedUpTo_2 : decode cX11_markedUpTo 2 = .ok (.iconst 0, 1) := by decide +kernel
theorem dX11_markedUpTo_3 : decode cX11_markedUpTo 3 = .ok (.istore_n 3, 1) := by decide +kernel
theorem dX11_markedUpTo_4 : decode cX11_markedUpTo 4 = .ok (.iload_n 3, 1) := by decide +kernel
theorem dX11_markedUpTo_5 : decode cX11_markedUpTo 5 = .ok (.iload_n 1, 1) := by decide +kernel
theorem dX11_markedUpTo_6 : decode cX11_markedUpTo 6 = .ok (.if_icmp .gt 28, 3) := by decide +kernel
theorem dX11_markedUpTo_9 : decode cX11_markedUpTo 9 = .ok (.iload_n 3, 1) := by decide +kernel
theorem dX11_markedUpTo_10 : decode cX11_markedUpTo 10 = .ok (.sipush 2000, 3) := by decide +kernel
theorem dX11_markedUpTo_13 : decode cX11_markedUpTo 13 = .ok (.if_icmp .gt 21, 3) := by decide +kernel
theorem dX11_markedUpTo_16 : decode cX11_markedUpTo 16 = .ok (.aload_n 0, 1) := by decide +kernel
theorem dX11_markedUpTo_17 : decode cX11_markedUpTo 17 = .ok (.getfield 96, 3) := by decide +kernel
theorem dX11_markedUpTo_20 : decode cX11_markedUpTo 20 = .ok (.iload_n 3, 1) := by decide +kernel
theorem dX11_markedUpTo_21 : decode cX11_markedUpTo 21 = .ok (.baload, 1) := by decide +kernel
theorem dX11_markedUpTo_22 : decode cX11_markedUpTo 22 = .ok (.ifCond .eq 6, 3) := by decide +kernel
theorem dX11_markedUpTo_25 : decode cX11_markedUpTo 25 = .ok (.iinc 2 1, 3) := by decide +kernel
theorem dX11_markedUpTo_28 : decode cX11_markedUpTo 28 = .ok (.iinc 3 1, 3) := by decide +kernel
theorem dX11_markedUpTo_31 : decode cX11_markedUpTo 31 = .ok (.goto (-27), 3) := by decide +kernel
theorem dX11_markedUpTo_34 : decode cX11_markedUpTo 34 = .ok (.iload_n 2, 1) := by decide +kernel
theorem dX11_markedUpTo_35 : decode cX11_markedUpTo 35 = .ok (.ireturn, 1) := by decide +kernel
theorem dX11_ways_0 : decode cX11_ways 0 = .ok (.lconst 0, 1) := by decide +kernel
theorem dX11_ways_1 : decode cX11_ways 1 = .ok (.lstore 4, 2) := by decide +kernel
theorem dX11_ways_3 : decode cX11_ways 3 = .ok (.lconst 1, 1) := by decide +kernel
theorem dX11_ways_4 : decode cX11_ways 4 = .ok (.lstore 6, 2) := by decide +kernel
theorem dX11_ways_6 : decode cX11_ways 6 = .ok (.iconst 0, 1) := by decide +kernel
theorem dX11_ways_7 : decode cX11_ways 7 = .ok (.istore 8, 2) := by decide +kernel
theorem dX11_ways_9 : decode cX11_ways 9 = .ok (.iload 8, 2) := by decide +kernel
theorem dX11_ways_11 : decode cX11_ways 11 = .ok (.iload_n 0, 1) := by decide +kernel
theorem dX11_ways_12 : decode cX11_ways 12 = .ok (.if_icmp .gt 54, 3) := by decide +kernel
theorem dX11_ways_15 : decode cX11_ways 15 = .ok (.iload 8, 2) := by decide +kernel
theorem dX11_ways_17 : decode cX11_ways 17 = .ok (.iload_n 1, 1) := by decide +kernel
theorem dX11_ways_18 : decode cX11_ways 18 = .ok (.if_icmp .lt 26, 3) := by decide +kernel
theorem dX11_ways_21 : decode cX11_ways 21 = .ok (.lload 4, 2) := by decide +kernel
theorem dX11_ways_23 : decode cX11_ways 23 = .ok (.lload 6, 2) := by decide +kernel
theorem dX11_ways_25 : decode cX11_ways 25 = .ok (.iload_n 2, 1) := by decide +kernel
theorem dX11_ways_26 : decode cX11_ways 26 = .ok (.iload 8, 2) := by decide +kernel
theorem dX11_ways_28 : decode cX11_ways 28 = .ok (.invokestatic 379, 3) := by decide +kernel
theorem dX11_ways_31 : decode cX11_ways 31 = .ok (.lmul, 1) := by decide +kernel
theorem dX11_ways_32 : decode cX11_ways 32 = .ok (.iload_n 3, 1) := by decide +kernel
theorem dX11_ways_33 : decode cX11_ways 33 = .ok (.iload_n 0, 1) := by decide +kernel
theorem dX11_ways_34 : decode cX11_ways 34 = .ok (.iload 8, 2) := by decide +kernel
theorem dX11_ways_36 : decode cX11_ways 36 = .ok (.isub, 1) := by decide +kernel
theorem dX11_ways_37 : decode cX11_ways 37 = .ok (.invokestatic 379, 3) := by decide +kernel
theorem dX11_ways_40 : decode cX11_ways 40 = .ok (.lmul, 1) := by decide +kernel
theorem dX11_ways_41 : decode cX11_ways 41 = .ok (.ladd, 1) := by decide +kernel
theorem dX11_ways_42 : decode cX11_ways 42 = .ok (.lstore 4, 2) := by decide +kernel
theorem dX11_ways_44 : decode cX11_ways 44 = .ok (.lload 6, 2) := by decide +kernel
theorem dX11_ways_46 : decode cX11_ways 46 = .ok (.iload_n 0, 1) := by decide +kernel
theorem dX11_ways_47 : decode cX11_ways 47 = .ok (.iload 8, 2) := by decide +kernel
theorem dX11_ways_49 : decode cX11_ways 49 = .ok (.isub, 1) := by decide +kernel
theorem dX11_ways_50 : decode cX11_ways 50 = .ok (.i2l, 1) := by decide +kernel
theorem dX11_ways_51 : decode cX11_ways 51 = .ok (.lmul, 1) := by decide +kernel
theorem dX11_ways_52 : decode cX11_ways 52 = .ok (.iload 8, 2) := by decide +kernel
theorem dX11_ways_54 : decode cX11_ways 54 = .ok (.iconst 1, 1) := by decide +kernel
theorem dX11_ways_55 : decode cX11_ways 55 = .ok (.iadd, 1) := by decide +kernel
theorem dX11_ways_56 : decode cX11_ways 56 = .ok (.i2l, 1) := by decide +kernel
theorem dX11_ways_57 : decode cX11_ways 57 = .ok (.ldiv, 1) := by decide +kernel
theorem dX11_ways_58 : decode cX11_ways 58 = .ok (.lstore 6, 2) := by decide +kernel
theorem dX11_ways_60 : decode cX11_ways 60 = .ok (.iinc 8 1, 3) := by decide +kernel
theorem dX11_ways_63 : decode cX11_ways 63 = .ok (.goto (-54), 3) := by decide +kernel
theorem dX11_ways_66 : decode cX11_ways 66 = .ok (.lload 4, 2) := by decide +kernel
theorem dX11_ways_68 : decode cX11_ways 68 = .ok (.lreturn, 1) := by decide +kernel
theorem dX11_power_0 : decode cX11_power 0 = .ok (.lconst 1, 1) := by decide +kernel
theorem dX11_power_1 : decode cX11_power 1 = .ok (.lstore_n 2, 1) := by decide +kernel
theorem dX11_power_2 : decode cX11_power 2 = .ok (.iconst 0, 1) := by decide +kernel
theorem dX11_power_3 : decode cX11_power 3 = .ok (.istore 4, 2) := by decide +kernel
theorem dX11_power_5 : decode cX11_power 5 = .ok (.iload 4, 2) := by decide +kernel
theorem dX11_power_7 : decode cX11_power 7 = .ok (.iload_n 1, 1) := by decide +kernel
theorem dX11_power_8 : decode cX11_power 8 = .ok (.if_icmp .ge 14, 3) := by decide +kernel
theorem dX11_power_11 : decode cX11_power 11 = .ok (.lload_n 2, 1) := by decide +kernel
theorem dX11_power_12 : decode cX11_power 12 = .ok (.iload_n 0, 1) := by decide +kernel
theorem dX11_power_13 : decode cX11_power 13 = .ok (.i2l, 1) := by decide +kernel
theorem dX11_power_14 : decode cX11_power 14 = .ok (.lmul, 1) := by decide +kernel
theorem dX11_power_15 : decode cX11_power 15 = .ok (.lstore_n 2, 1) := by decide +kernel
theorem dX11_power_16 : decode cX11_power 16 = .ok (.iinc 4 1, 3) := by decide +kernel
theorem dX11_power_19 : decode cX11_power 19 = .ok (.goto (-14), 3) := by decide +kernel
theorem dX11_power_22 : decode cX11_power 22 = .ok (.lload_n 2, 1) := by decide +kernel
theorem dX11_power_23 : decode cX11_power 23 = .ok (.lreturn, 1) := by decide +kernel
