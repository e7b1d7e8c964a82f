theorem dX6_hide_12 : decode cX6_hide 12 = .ok (.ireturn, 1) := by decide +kernel
theorem dX6_hide_13 : decode cX6_hide 13 = .ok (.aload_n 0, 1) := by decide +kernel
theorem dX6_hide_14 : decode cX6_hide 14 = .ok (.getfield 31, 3) := by decide +kernel
theorem dX6_hide_17 : decode cX6_hide 17 = .ok (.getfield 139, 3) := by decide +kernel
theorem dX6_hide_20 : decode cX6_hide 20 = .ok (.iload_n 1, 1) := by decide +kernel
theorem dX6_hide_21 : decode cX6_hide 21 = .ok (.iaload, 1) := by decide +kernel
theorem dX6_hide_22 : decode cX6_hide 22 = .ok (.istore_n 2, 1) := by decide +kernel
theorem dX6_hide_23 : decode cX6_hide 23 = .ok (.iload_n 2, 1) := by decide +kernel
theorem dX6_hide_24 : decode cX6_hide 24 = .ok (.bipush (-9), 2) := by decide +kernel
theorem dX6_hide_26 : decode cX6_hide 26 = .ok (.if_icmp .ne 6, 3) := by decide +kernel
theorem dX6_hide_29 : decode cX6_hide 29 = .ok (.bipush (-2), 2) := by decide +kernel
theorem dX6_hide_31 : decode cX6_hide 31 = .ok (.ireturn, 1) := by decide +kernel
theorem dX6_hide_32 : decode cX6_hide 32 = .ok (.aload_n 0, 1) := by decide +kernel
theorem dX6_hide_33 : decode cX6_hide 33 = .ok (.getfield 31, 3) := by decide +kernel
theorem dX6_hide_36 : decode cX6_hide 36 = .ok (.getfield 139, 3) := by decide +kernel
theorem dX6_hide_39 : decode cX6_hide 39 = .ok (.iload_n 1, 1) := by decide +kernel
theorem dX6_hide_40 : decode cX6_hide 40 = .ok (.bipush (-9), 2) := by decide +kernel
theorem dX6_hide_42 : decode cX6_hide 42 = .ok (.iastore, 1) := by decide +kernel
theorem dX6_hide_43 : decode cX6_hide 43 = .ok (.iload_n 2, 1) := by decide +kernel
theorem dX6_hide_44 : decode cX6_hide 44 = .ok (.ireturn, 1) := by decide +kernel
theorem dX6_seen_0 : decode cX6_seen 0 = .ok (.aload_n 0, 1) := by decide +kernel
theorem dX6_seen_1 : decode cX6_seen 1 = .ok (.getfield 24, 3) := by decide +kernel
theorem dX6_seen_4 : decode cX6_seen 4 = .ok (.iload_n 1, 1) := by decide +kernel
theorem dX6_seen_5 : decode cX6_seen 5 = .ok (.invokevirtual 89, 3) := by decide +kernel
theorem dX6_seen_8 : decode cX6_seen 8 = .ok (.ifCond .eq 15, 3) := by decide +kernel
theorem dX6_seen_11 : decode cX6_seen 11 = .ok (.aload_n 0, 1) := by decide +kernel
theorem dX6_seen_12 : decode cX6_seen 12 = .ok (.getfield 31, 3) := by decide +kernel
theorem dX6_seen_15 : decode cX6_seen 15 = .ok (.getfield 139, 3) := by decide +kernel
theorem dX6_seen_18 : decode cX6_seen 18 = .ok (.iload_n 1, 1) := by decide +kernel
theorem dX6_seen_19 : decode cX6_seen 19 = .ok (.iaload, 1) := by decide +kernel
theorem dX6_seen_20 : decode cX6_seen 20 = .ok (.goto 4, 3) := by decide +kernel
theorem dX6_seen_23 : decode cX6_seen 23 = .ok (.iconst (-1), 1) := by decide +kernel
theorem dX6_seen_24 : decode cX6_seen 24 = .ok (.ireturn, 1) := by decide +kernel
theorem dX6_fits_0 : decode cX6_fits 0 = .ok (.aload_n 0, 1) := by decide +kernel
theorem dX6_fits_1 : decode cX6_fits 1 = .ok (.getfield 46, 3) := by decide +kernel
theorem dX6_fits_4 : decode cX6_fits 4 = .ok (.aload_n 0, 1) := by decide +kernel
theorem dX6_fits_5 : decode cX6_fits 5 = .ok (.getfield 24, 3) := by decide +kernel
theorem dX6_fits_8 : decode cX6_fits 8 = .ok (.aload_n 0, 1) := by decide +kernel
theorem dX6_fits_9 : decode cX6_fits 9 = .ok (.getfield 31, 3) := by decide +kernel
theorem dX6_fits_12 : decode cX6_fits 12 = .ok (.invokevirtual 142, 3) := by decide +kernel
theorem dX6_fits_15 : decode cX6_fits 15 = .ok (.aload_n 0, 1) := by decide +kernel
theorem dX6_fits_16 : decode cX6_fits 16 = .ok (.getfield 46, 3) := by decide +kernel
theorem dX6_fits_19 : decode cX6_fits 19 = .ok (.invokevirtual 146, 3) := by decide +kernel
theorem dX6_fits_22 : decode cX6_fits 22 = .ok (.ireturn, 1) := by decide +kernel
theorem dX6_sure_0 : decode cX6_sure 0 = .ok (.aload_n 0, 1) := by decide +kernel
theorem dX6_sure_1 : decode cX6_sure 1 = .ok (.getfield 24, 3) := by decide +kernel
theorem dX6_sure_4 : decode cX6_sure 4 = .ok (.iload_n 1, 1) := by decide +kernel
theorem dX6_sure_5 : decode cX6_sure 5 = .ok (.invokevirtual 97, 3) := by decide +kernel
theorem dX6_sure_8 : decode cX6_sure 8 = .ok (.ifCond .ne 5, 3) := by decide +kernel
theorem dX6_sure_11 : decode cX6_sure 11 = .ok (.iconst (-1), 1) := by decide +kernel
theorem dX6_sure_12 : decode cX6_sure 12 = .ok (.ireturn, 1) := by decide +kernel
theorem dX6_sure_13 : decode cX6_sure 13 = .ok (.aload_n 0, 1) := by decide +kernel
theorem dX6_sure_14 : decode cX6_sure 14 = .ok (.getfield 46, 3) := by decide +kernel
theorem dX6_sure_17 : decode cX6_sure 17 = .ok (.aload_n 0, 1) := by decide +kernel
theorem dX6_sure_18 : decode cX6_sure 18 = .ok (.getfield 24, 3) := by decide +kernel
theorem dX6_sure_21 : decode cX6_sure 21 = .ok (.aload_n 0, 1) := by decide +kernel
theorem dX6_sure_22 : decode cX6_sure 22 = .ok (.getfield 31, 3) := by decide +kernel
theorem dX6_sure_25 : decode cX6_sure 25 = .ok (.invokevirtual 142, 3) := by decide +kernel
theorem dX6_sure_28 : decode cX6_sure 28 = .ok (.aload_n 0, 1) := by decide +kernel
theorem dX6_sure_29 : decode cX6_sure 29 = .ok (.getfield 46, 3) := by decide +kernel
theorem dX6_sure_32 : decode cX6_sure 32 = .ok (.invokevirtual 146, 3) := by decide +kernel
theorem dX6_sure_35 : decode cX6_sure 35 = .ok (.istore_n 2, 1) := by decide +kernel
theorem dX6_sure_36 : decode cX6_sure 36 = .ok (.iload_n 2, 1) := by decide +kernel
theorem dX6_sure_37 : decode cX6_sure 37 = .ok (.ifCond .ne 6, 3) := by decide +kernel
theorem dX6_sure_40 : decode cX6_sure 40 = .ok (.bipush (-9), 2) := by decide +kernel
theorem dX6_sure_42 : decode cX6_sure 42 = .ok (.ireturn, 1) := by decide +kernel
theorem dX6_sure_43 : decode cX6_sure 43 = .ok (.aload_n 0, 1) := by decide +kernel
theorem dX6_sure_44 : decode cX6_sure 44 = .ok (.getfield 46, 3) := by decide +kernel
theorem dX6_sure_47 : decode cX6_sure 47 = .ok (.iload_n 1, 1) := by decide +kernel
theorem dX6_sure_48 : decode cX6_sure 48 = .ok (.invokevirtual 149, 3) := by decide +kernel
theorem dX6_sure_51 : decode cX6_sure 51 = .ok (.iload_n 2, 1) := by decide +kernel
theorem dX6_sure_52 : decode cX6_sure 52 = .ok (.if_icmp .ne 6, 3) := by decide +kernel
theorem dX6_sure_55 : decode cX6_sure 55 = .ok (.bipush (-4), 2) := by decide +kernel
theorem dX6_sure_57 : decode cX6_sure 57 = .ok (.ireturn, 1) := by decide +kernel
theorem dX6_sure_58 : decode cX6_sure 58 = .ok (.iconst 0, 1) := by decide +kernel
theorem dX6_sure_59 : decode cX6_sure 59 = .ok (.istore_n 3, 1) := by decide +kernel
theorem dX6_sure_60 : decode cX6_sure 60 = .ok (.iload_n 3, 1) := by decide +kernel
theorem dX6_sure_61 : decode cX6_sure 61 = .ok (.aload_n 0, 1) := by decide +kernel
theorem dX6_sure_62 : decode cX6_sure 62 = .ok (.getfield 24, 3) := by decide +kernel
theorem dX6_sure_65 : decode cX6_sure 65 = .ok (.getfield 153, 3) := by decide +kernel
theorem dX6_sure_68 : decode cX6_sure 68 = .ok (.if_icmp .ge 24, 3) := by decide +kernel
theorem dX6_sure_71 : decode cX6_sure 71 = .ok (.aload_n 0, 1) := by decide +kernel
theorem dX6_sure_72 : decode cX6_sure 72 = .ok (.getfield 46, 3) := by decide +kernel
theorem dX6_sure_75 : decode cX6_sure 75 = .ok (.iload_n 1, 1) := by decide +kernel
theorem dX6_sure_76 : decode cX6_sure 76 = .ok (.iload_n 3, 1) := by decide +kernel
theorem dX6_sure_77 : decode cX6_sure 77 = .ok (.invokevirtual 155, 3) := by decide +kernel
theorem dX6_sure_80 : decode cX6_sure 80 = .ok (.iload_n 2, 1) := by decide +kernel
theorem dX6_sure_81 : decode cX6_sure 81 = .ok (.if_icmp .ne 5, 3) := by decide +kernel
theorem dX6_sure_84 : decode cX6_sure 84 = .ok (.iload_n 3, 1) := by decide +kernel
theorem dX6_sure_85 : decode cX6_sure 85 = .ok (.ireturn, 1) := by decide +kernel
theorem dX6_sure_86 : decode cX6_sure 86 = .ok (.iinc 3 1, 3) := by decide +kernel
theorem dX6_sure_89 : decode cX6_sure 89 = .ok (.goto (-29), 3) := by decide +kernel
theorem dX6_sure_92 : decode cX6_sure 92 = .ok (.bipush (-5), 2) := by decide +kernel
theorem dX6_sure_94 : decode cX6_sure 94 = .ok (.ireturn, 1) := by decide +kernel
theorem dX6_odds_0 : decode cX6_odds 0 = .ok (.aload_n 0, 1) := by decide +kernel
theorem dX6_odds_1 : decode cX6_odds 1 = .ok (.getfield 24, 3) := by decide +kernel
theorem dX6_odds_4 : decode cX6_odds 4 = .ok (.iload_n 1, 1) := by decide +kernel
theorem dX6_odds_5 : decode cX6_odds 5 = .ok (.invokevirtual 97, 3) := by decide +kernel
theorem dX6_odds_8 : decode cX6_odds 8 = .ok (.ifCond .eq 12, 3) := by decide +kernel
theorem dX6_odds_11 : decode cX6_odds 11 = .ok (.iload_n 3, 1) := by decide +kernel
theorem dX6_odds_12 : decode cX6_odds 12 = .ok (.iconst 0, 1) := by decide +kernel
theorem dX6_odds_13 : decode cX6_odds 13 = .ok (.iconst 1, 1) := by decide +kernel
theorem dX6_odds_14 : decode cX6_odds 14 = .ok (.invokestatic 61, 3) := by decide +kernel
theorem dX6_odds_17 : decode cX6_odds 17 = .ok (.ifCond .ne 5, 3) := by decide +kernel
theorem dX6_odds_20 : decode cX6_odds 20 = .ok (.iconst (-1), 1) := by decide +kernel
theorem dX6_odds_21 : decode cX6_odds 21 = .ok (.ireturn, 1) := by decide +kernel
theorem dX6_odds_22 : decode cX6_odds 22 = .ok (.iload_n 2, 1) := by decide +kernel
theorem dX6_odds_23 : decode cX6_odds 23 = .ok (.bipush (-4), 2) := by decide +kernel
theorem dX6_odds_25 : decode cX6_odds 25 = .ok (.if_icmp .eq 16, 3) := by decide +kernel
theorem dX6_odds_28 : decode cX6_odds 28 = .ok (.aload_n 0, 1) := by decide +kernel
theorem dX6_odds_29 : decode cX6_odds 29 = .ok (.getfield 24, 3) := by decide +kernel
theorem dX6_odds_32 : decode cX6_odds 32 = .ok (.iload_n 2, 1) := by decide +kernel
theorem dX6_odds_33 : decode cX6_odds 33 = .ok (.invokevirtual 89, 3) := by decide +kernel
theorem dX6_odds_36 : decode cX6_odds 36 = .ok (.ifCond .ne 5, 3) := by decide +kernel
theorem dX6_odds_39 : decode cX6_odds 39 = .ok (.iconst (-1), 1) := by decide +kernel
theorem dX6_odds_40 : decode cX6_odds 40 = .ok (.ireturn, 1) := by decide +kernel
theorem dX6_odds_41 : decode cX6_odds 41 = .ok (.aload_n 0, 1) := by decide +kernel
theorem dX6_odds_42 : decode cX6_odds 42 = .ok (.getfield 46, 3) := by decide +kernel
theorem dX6_odds_45 : decode cX6_odds 45 = .ok (.aload_n 0, 1) := by decide +kernel
theorem dX6_odds_46 : decode cX6_odds 46 = .ok (.getfield 24, 3) := by decide +kernel
theorem dX6_odds_49 : decode cX6_odds 49 = .ok (.aload_n 0, 1) := by decide +kernel
theorem dX6_odds_50 : decode cX6_odds 50 = .ok (.getfield 31, 3) := by decide +kernel
theorem dX6_odds_53 : decode cX6_odds 53 = .ok (.invokevirtual 142, 3) := by decide +kernel
theorem dX6_odds_56 : decode cX6_odds 56 = .ok (.iload_n 2, 1) := by decide +kernel
theorem dX6_odds_57 : decode cX6_odds 57 = .ok (.bipush (-4), 2) := by decide +kernel
theorem dX6_odds_59 : decode cX6_odds 59 = .ok (.if_icmp .ne 14, 3) := by decide +kernel
theorem dX6_odds_62 : decode cX6_odds 62 = .ok (.aload_n 0, 1) := by decide +kernel
theorem dX6_odds_63 : decode cX6_odds 63 = .ok (.getfield 46, 3) := by decide +kernel
theorem dX6_odds_66 : decode cX6_odds 66 = .ok (.iload_n 1, 1) := by decide +kernel
theorem dX6_odds_67 : decode cX6_odds 67 = .ok (.invokevirtual 149, 3) := by decide +kernel
theorem dX6_odds_70 : decode cX6_odds 70 = .ok (.goto 12, 3) := by decide +kernel
theorem dX6_odds_73 : decode cX6_odds 73 = .ok (.aload_n 0, 1) := by decide +kernel
theorem dX6_odds_74 : decode cX6_odds 74 = .ok (.getfield 46, 3) := by decide +kernel
theorem dX6_odds_77 : decode cX6_odds 77 = .ok (.iload_n 1, 1) := by decide +kernel
theorem dX6_odds_78 : decode cX6_odds 78 = .ok (.iload_n 2, 1) := by decide +kernel
theorem dX6_odds_79 : decode cX6_odds 79 = .ok (.invokevirtual 155, 3) := by decide +kernel
theorem dX6_odds_82 : decode cX6_odds 82 = .ok (.istore 4, 2) := by decide +kernel
theorem dX6_odds_84 : decode cX6_odds 84 = .ok (.aload_n 0, 1) := by decide +kernel
theorem dX6_odds_85 : decode cX6_odds 85 = .ok (.getfield 46, 3) := by decide +kernel
theorem dX6_odds_88 : decode cX6_odds 88 = .ok (.invokevirtual 146, 3) := by decide +kernel
theorem dX6_odds_91 : decode cX6_odds 91 = .ok (.istore 5, 2) := by decide +kernel
theorem dX6_odds_93 : decode cX6_odds 93 = .ok (.iload 4, 2) := by decide +kernel
theorem dX6_odds_95 : decode cX6_odds 95 = .ok (.iload 5, 2) := by decide +kernel
theorem dX6_odds_97 : decode cX6_odds 97 = .ok (.invokestatic 158, 3) := by decide +kernel
theorem dX6_odds_100 : decode cX6_odds 100 = .ok (.istore 6, 2) := by decide +kernel
theorem dX6_odds_102 : decode cX6_odds 102 = .ok (.iload 6, 2) := by decide +kernel
theorem dX6_odds_104 : decode cX6_odds 104 = .ok (.ifCond .ne 5, 3) := by decide +kernel
theorem dX6_odds_107 : decode cX6_odds 107 = .ok (.iload_n 3, 1) := by decide +kernel
theorem dX6_odds_108 : decode cX6_odds 108 = .ok (.ireturn, 1) := by decide +kernel
theorem dX6_odds_109 : decode cX6_odds 109 = .ok (.iload_n 3, 1) := by decide +kernel
theorem dX6_odds_110 : decode cX6_odds 110 = .ok (.ifCond .ne 8, 3) := by decide +kernel
theorem dX6_odds_113 : decode cX6_odds 113 = .ok (.iload 4, 2) := by decide +kernel
theorem dX6_odds_115 : decode cX6_odds 115 = .ok (.goto 5, 3) := by decide +kernel
theorem dX6_odds_118 : decode cX6_odds 118 = .ok (.iload 5, 2) := by decide +kernel
theorem dX6_odds_120 : decode cX6_odds 120 = .ok (.iload 6, 2) := by decide +kernel
theorem dX6_odds_122 : decode cX6_odds 122 = .ok (.idiv, 1) := by decide +kernel
theorem dX6_odds_123 : decode cX6_odds 123 = .ok (.ireturn, 1) := by decide +kernel
theorem dX6_claim_0 : decode cX6_claim 0 = .ok (.aload_n 0, 1) := by decide +kernel
theorem dX6_claim_1 : decode cX6_claim 1 = .ok (.iload_n 1, 1) := by decide +kernel
theorem dX6_claim_2 : decode cX6_claim 2 = .ok (.iload_n 2, 1) := by decide +kernel
theorem dX6_claim_3 : decode cX6_claim 3 = .ok (.iload_n 3, 1) := by decide +kernel
theorem dX6_claim_4 : decode cX6_claim 4 = .ok (.invokevirtual 161, 3) := by decide +kernel
theorem dX6_claim_7 : decode cX6_claim 7 = .ok (.ifCond .ne 5, 3) := by decide +kernel
theorem dX6_claim_10 : decode cX6_claim 10 = .ok (.iconst (-1), 1) := by decide +kernel
theorem dX6_claim_11 : decode cX6_claim 11 = .ok (.ireturn, 1) := by decide +kernel
theorem dX6_claim_12 : decode cX6_claim 12 = .ok (.aload_n 0, 1) := by decide +kernel
theorem dX6_claim_13 : decode cX6_claim 13 = .ok (.getfield 46, 3) := by decide +kernel
theorem dX6_claim_16 : decode cX6_claim 16 = .ok (.aload_n 0, 1) := by decide +kernel
theorem dX6_claim_17 : decode cX6_claim 17 = .ok (.getfield 24, 3) := by decide +kernel
theorem dX6_claim_20 : decode cX6_claim 20 = .ok (.aload_n 0, 1) := by decide +kernel
theorem dX6_claim_21 : decode cX6_claim 21 = .ok (.getfield 31, 3) := by decide +kernel
theorem dX6_claim_24 : decode cX6_claim 24 = .ok (.invokevirtual 142, 3) := by decide +kernel
theorem dX6_claim_27 : decode cX6_claim 27 = .ok (.aload_n 0, 1) := by decide +kernel
theorem dX6_claim_28 : decode cX6_claim 28 = .ok (.getfield 46, 3) := by decide +kernel
theorem dX6_claim_31 : decode cX6_claim 31 = .ok (.iload_n 1, 1) := by decide +kernel
theorem dX6_claim_32 : decode cX6_claim 32 = .ok (.iload_n 2, 1) := by decide +kernel
theorem dX6_claim_33 : decode cX6_claim 33 = .ok (.iload_n 3, 1) := by decide +kernel
theorem dX6_claim_34 : decode cX6_claim 34 = .ok (.invokevirtual 164, 3) := by decide +kernel
theorem dX6_claim_37 : decode cX6_claim 37 = .ok (.ifCond .eq 7, 3) := by decide +kernel
theorem dX6_claim_40 : decode cX6_claim 40 = .ok (.iconst 1, 1) := by decide +kernel
theorem dX6_claim_41 : decode cX6_claim 41 = .ok (.goto 4, 3) := by decide +kernel
theorem dX6_claim_44 : decode cX6_claim 44 = .ok (.iconst 0, 1) := by decide +kernel
theorem dX6_claim_45 : decode cX6_claim 45 = .ok (.ireturn, 1) := by decide +kernel
theorem dX6_saves_0 : decode cX6_saves 0 = .ok (.aload_n 0, 1) := by decide +kernel
theorem dX6_saves_1 : decode cX6_saves 1 = .ok (.iload_n 1, 1) := by decide +kernel
theorem dX6_saves_2 : decode cX6_saves 2 = .ok (.iload_n 2, 1) := by decide +kernel
theorem dX6_saves_3 : decode cX6_saves 3 = .ok (.iload_n 3, 1) := by decide +kernel
theorem dX6_saves_4 : decode cX6_saves 4 = .ok (.invokevirtual 161, 3) := by decide +kernel
theorem dX6_saves_7 : decode cX6_saves 7 = .ok (.ifCond .ne 5, 3) := by decide +kernel
theorem dX6_saves_10 : decode cX6_saves 10 = .ok (.iconst (-1), 1) := by decide +kernel
theorem dX6_saves_11 : decode cX6_saves 11 = .ok (.ireturn, 1) := by decide +kernel
theorem dX6_saves_12 : decode cX6_saves 12 = .ok (.aload_n 0, 1) := by decide +kernel
theorem dX6_saves_13 : decode cX6_saves 13 = .ok (.getfield 46, 3) := by decide +kernel
theorem dX6_saves_16 : decode cX6_saves 16 = .ok (.aload_n 0, 1) := by decide +kernel
theorem dX6_saves_17 : decode cX6_saves 17 = .ok (.getfield 24, 3) := by decide +kernel
theorem dX6_saves_20 : decode cX6_saves 20 = .ok (.aload_n 0, 1) := by decide +kernel
theorem dX6_saves_21 : decode cX6_saves 21 = .ok (.getfield 31, 3) := by decide +kernel
theorem dX6_saves_24 : decode cX6_saves 24 = .ok (.invokevirtual 142, 3) := by decide +kernel
theorem dX6_saves_27 : decode cX6_saves 27 = .ok (.iconst 0, 1) := by decide +kernel
theorem dX6_saves_28 : decode cX6_saves 28 = .ok (.istore 4, 2) := by decide +kernel
theorem dX6_saves_30 : decode cX6_saves 30 = .ok (.iload 4, 2) := by decide +kernel
theorem dX6_saves_32 : decode cX6_saves 32 = .ok (.bipush 10, 2) := by decide +kernel
theorem dX6_saves_34 : decode cX6_saves 34 = .ok (.if_icmp .ge 68, 3) := by decide +kernel
theorem dX6_saves_37 : decode cX6_saves 37 = .ok (.iload_n 3, 1) := by decide +kernel
theorem dX6_saves_38 : decode cX6_saves 38 = .ok (.iload 4, 2) := by decide +kernel
theorem dX6_saves_40 : decode cX6_saves 40 = .ok (.isub, 1) := by decide +kernel
theorem dX6_saves_41 : decode cX6_saves 41 = .ok (.iconst 1, 1) := by decide +kernel
theorem dX6_saves_42 : decode cX6_saves 42 = .ok (.if_icmp .lt 24, 3) := by decide +kernel
theorem dX6_saves_45 : decode cX6_saves 45 = .ok (.aload_n 0, 1) := by decide +kernel
theorem dX6_saves_46 : decode cX6_saves 46 = .ok (.getfield 46, 3) := by decide +kernel
theorem dX6_saves_49 : decode cX6_saves 49 = .ok (.iload_n 1, 1) := by decide +kernel
theorem dX6_saves_50 : decode cX6_saves 50 = .ok (.iload_n 2, 1) := by decide +kernel
theorem dX6_saves_51 : decode cX6_saves 51 = .ok (.iload_n 3, 1) := by decide +kernel
theorem dX6_saves_52 : decode cX6_saves 52 = .ok (.iload 4, 2) := by decide +kernel
theorem dX6_saves_54 : decode cX6_saves 54 = .ok (.isub, 1) := by decide +kernel
theorem dX6_saves_55 : decode cX6_saves 55 = .ok (.invokevirtual 164, 3) := by decide +kernel
theorem dX6_saves_58 : decode cX6_saves 58 = .ok (.ifCond .eq 8, 3) := by decide +kernel
theorem dX6_saves_61 : decode cX6_saves 61 = .ok (.iload_n 3, 1) := by decide +kernel
theorem dX6_saves_62 : decode cX6_saves 62 = .ok (.iload 4, 2) := by decide +kernel
theorem dX6_saves_64 : decode cX6_saves 64 = .ok (.isub, 1) := by decide +kernel
theorem dX6_saves_65 : decode cX6_saves 65 = .ok (.ireturn, 1) := by decide +kernel
theorem dX6_saves_66 : decode cX6_saves 66 = .ok (.iload_n 3, 1) := by decide +kernel
theorem dX6_saves_67 : decode cX6_saves 67 = .ok (.iload 4, 2) := by decide +kernel
theorem dX6_saves_69 : decode cX6_saves 69 = .ok (.iadd, 1) := by decide +kernel
theorem dX6_saves_70 : decode cX6_saves 70 = .ok (.bipush 10, 2) := by decide +kernel
theorem dX6_saves_72 : decode cX6_saves 72 = .ok (.if_icmp .gt 24, 3) := by decide +kernel
theorem dX6_saves_75 : decode cX6_saves 75 = .ok (.aload_n 0, 1) := by decide +kernel
theorem dX6_saves_76 : decode cX6_saves 76 = .ok (.getfield 46, 3) := by decide +kernel
theorem dX6_saves_79 : decode cX6_saves 79 = .ok (.iload_n 1, 1) := by decide +kernel
theorem dX6_saves_80 : decode cX6_saves 80 = .ok (.iload_n 2, 1) := by decide +kernel
theorem dX6_saves_81 : decode cX6_saves 81 = .ok (.iload_n 3, 1) := by decide +kernel
theorem dX6_saves_82 : decode cX6_saves 82 = .ok (.iload 4, 2) := by decide +kernel
theorem dX6_saves_84 : decode cX6_saves 84 = .ok (.iadd, 1) := by decide +kernel
theorem dX6_saves_85 : decode cX6_saves 85 = .ok (.invokevirtual 164, 3) := by decide +kernel
theorem dX6_saves_88 : decode cX6_saves 88 = .ok (.ifCond .eq 8, 3) := by decide +kernel
theorem dX6_saves_91 : decode cX6_saves 91 = .ok (.iload_n 3, 1) := by decide +kernel
theorem dX6_saves_92 : decode cX6_saves 92 = .ok (.iload 4, 2) := by decide +kernel
theorem dX6_saves_94 : decode cX6_saves 94 = .ok (.iadd, 1) := by decide +kernel
theorem dX6_saves_95 : decode cX6_saves 95 = .ok (.ireturn, 1) := by decide +kernel
theorem dX6_saves_96 : decode cX6_saves 96 = .ok (.iinc 4 1, 3) := by decide +kernel
theorem dX6_saves_99 : decode cX6_saves 99 = .ok (.goto (-69), 3) := by decide +kernel
theorem dX6_saves_102 : decode cX6_saves 102 = .ok (.bipush (-9), 2) := by decide +kernel
theorem dX6_saves_104 : decode cX6_saves 104 = .ok (.ireturn, 1) := by decide +kernel
theorem dX6_scrape_0 : decode cX6_scrape 0 = .ok (.iload_n 1, 1) := by decide +kernel
theorem dX6_scrape_1 : decode cX6_scrape 1 = .ok (.iconst 0, 1) := by decide +kernel
theorem dX6_scrape_2 : decode cX6_scrape 2 = .ok (.iconst 1, 1) := by decide +kernel
theorem dX6_scrape_3 : decode cX6_scrape 3 = .ok (.invokestatic 61, 3) := by decide +kernel
theorem dX6_scrape_6 : decode cX6_scrape 6 = .ok (.ifCond .ne 5, 3) := by decide +kernel
theorem dX6_scrape_9 : decode cX6_scrape 9 = .ok (.iconst (-1), 1) := by decide +kernel
theorem dX6_scrape_10 : decode cX6_scrape 10 = .ok (.ireturn, 1) := by decide +kernel
theorem dX6_scrape_11 : decode cX6_scrape 11 = .ok (.aload_n 0, 1) := by decide +kernel
theorem dX6_scrape_12 : decode cX6_scrape 12 = .ok (.getfield 46, 3) := by decide +kernel
theorem dX6_scrape_15 : decode cX6_scrape 15 = .ok (.aload_n 0, 1) := by decide +kernel
theorem dX6_scrape_16 : decode cX6_scrape 16 = .ok (.getfield 24, 3) := by decide +kernel
theorem dX6_scrape_19 : decode cX6_scrape 19 = .ok (.aload_n 0, 1) := by decide +kernel
theorem dX6_scrape_20 : decode cX6_scrape 20 = .ok (.getfield 31, 3) := by decide +kernel
theorem dX6_scrape_23 : decode cX6_scrape 23 = .ok (.invokevirtual 142, 3) := by decide +kernel
theorem dX6_scrape_26 : decode cX6_scrape 26 = .ok (.aload_n 0, 1) := by decide +kernel
theorem dX6_scrape_27 : decode cX6_scrape 27 = .ok (.getfield 46, 3) := by decide +kernel
theorem dX6_scrape_30 : decode cX6_scrape 30 = .ok (.invokevirtual 146, 3) := by decide +kernel
theorem dX6_scrape_33 : decode cX6_scrape 33 = .ok (.ifCond .ne 6, 3) := by decide +kernel
theorem dX6_scrape_36 : decode cX6_scrape 36 = .ok (.bipush (-9), 2) := by decide +kernel
theorem dX6_scrape_38 : decode cX6_scrape 38 = .ok (.ireturn, 1) := by decide +kernel
theorem dX6_scrape_39 : decode cX6_scrape 39 = .ok (.bipush (-9), 2) := by decide +kernel
theorem dX6_scrape_41 : decode cX6_scrape 41 = .ok (.istore_n 2, 1) := by decide +kernel
theorem dX6_scrape_42 : decode cX6_scrape 42 = .ok (.bipush (-9), 2) := by decide +kernel
theorem dX6_scrape_44 : decode cX6_scrape 44 = .ok (.istore_n 3, 1) := by decide +kernel
theorem dX6_scrape_45 : decode cX6_scrape 45 = .ok (.iconst 0, 1) := by decide +kernel
theorem dX6_scrape_46 : decode cX6_scrape 46 = .ok (.istore 4, 2) := by decide +kernel
theorem dX6_scrape_48 : decode cX6_scrape 48 = .ok (.iload 4, 2) := by decide +kernel
theorem dX6_scrape_50 : decode cX6_scrape 50 = .ok (.aload_n 0, 1) := by decide +kernel
theorem dX6_scrape_51 : decode cX6_scrape 51 = .ok (.getfield 24, 3) := by decide +kernel
theorem dX6_scrape_54 : decode cX6_scrape 54 = .ok (.getfield 153, 3) := by decide +kernel
theorem dX6_scrape_57 : decode cX6_scrape 57 = .ok (.if_icmp .ge 53, 3) := by decide +kernel
theorem dX6_scrape_60 : decode cX6_scrape 60 = .ok (.aload_n 0, 1) := by decide +kernel
theorem dX6_scrape_61 : decode cX6_scrape 61 = .ok (.getfield 31, 3) := by decide +kernel
theorem dX6_scrape_64 : decode cX6_scrape 64 = .ok (.getfield 139, 3) := by decide +kernel
theorem dX6_scrape_67 : decode cX6_scrape 67 = .ok (.iload 4, 2) := by decide +kernel
theorem dX6_scrape_69 : decode cX6_scrape 69 = .ok (.iaload, 1) := by decide +kernel
theorem dX6_scrape_70 : decode cX6_scrape 70 = .ok (.bipush (-9), 2) := by decide +kernel
theorem dX6_scrape_72 : decode cX6_scrape 72 = .ok (.if_icmp .ne 32, 3) := by decide +kernel
theorem dX6_scrape_75 : decode cX6_scrape 75 = .ok (.aload_n 0, 1) := by decide +kernel
theorem dX6_scrape_76 : decode cX6_scrape 76 = .ok (.getfield 46, 3) := by decide +kernel
theorem dX6_scrape_79 : decode cX6_scrape 79 = .ok (.iload 4, 2) := by decide +kernel
theorem dX6_scrape_81 : decode cX6_scrape 81 = .ok (.invokevirtual 167, 3) := by decide +kernel
theorem dX6_scrape_84 : decode cX6_scrape 84 = .ok (.istore 5, 2) := by decide +kernel
theorem dX6_scrape_86 : decode cX6_scrape 86 = .ok (.iload_n 2, 1) := by decide +kernel
theorem dX6_scrape_87 : decode cX6_scrape 87 = .ok (.bipush (-9), 2) := by decide +kernel
theorem dX6_scrape_89 : decode cX6_scrape 89 = .ok (.if_icmp .eq 9, 3) := by decide +kernel
theorem dX6_scrape_92 : decode cX6_scrape 92 = .ok (.iload 5, 2) := by decide +kernel
theorem dX6_scrape_94 : decode cX6_scrape 94 = .ok (.iload_n 3, 1) := by decide +kernel
theorem dX6_scrape_95 : decode cX6_scrape 95 = .ok (.if_icmp .ge 9, 3) := by decide +kernel
theorem dX6_scrape_98 : decode cX6_scrape 98 = .ok (.iload 4, 2) := by decide +kernel
theorem dX6_scrape_100 : decode cX6_scrape 100 = .ok (.istore_n 2, 1) := by decide +kernel
theorem dX6_scrape_101 : decode cX6_scrape 101 = .ok (.iload 5, 2) := by decide +kernel
theorem dX6_scrape_103 : decode cX6_scrape 103 = .ok (.istore_n 3, 1) := by decide +kernel
theorem dX6_scrape_104 : decode cX6_scrape 104 = .ok (.iinc 4 1, 3) := by decide +kernel
theorem dX6_scrape_107 : decode cX6_scrape 107 = .ok (.goto (-59), 3) := by decide +kernel
theorem dX6_scrape_110 : decode cX6_scrape 110 = .ok (.iload_n 1, 1) := by decide +kernel
theorem dX6_scrape_111 : decode cX6_scrape 111 = .ok (.ifCond .ne 7, 3) := by decide +kernel
theorem dX6_scrape_114 : decode cX6_scrape 114 = .ok (.iload_n 2, 1) := by decide +kernel
theorem dX6_scrape_115 : decode cX6_scrape 115 = .ok (.goto 4, 3) := by decide +kernel
theorem dX6_scrape_118 : decode cX6_scrape 118 = .ok (.iload_n 3, 1) := by decide +kernel
theorem dX6_scrape_119 : decode cX6_scrape 119 = .ok (.ireturn, 1) := by decide +kernel
theorem dX6_swaps_0 : decode cX6_swaps 0 = .ok (.aload_n 0, 1) := by decide +kernel
theorem dX6_swaps_1 : decode cX6_swaps 1 = .ok (.getfield 53, 3) := by decide +kernel
theorem dX6_swaps_4 : decode cX6_swaps 4 = .ok (.iconst 0, 1) := by decide +kernel
theorem dX6_swaps_5 : decode cX6_swaps 5 = .ok (.putfield 170, 3) := by decide +kernel
theorem dX6_swaps_8 : decode cX6_swaps 8 = .ok (.iconst 0, 1) := by decide +kernel
theorem dX6_swaps_9 : decode cX6_swaps 9 = .ok (.istore_n 1, 1) := by decide +kernel
theorem dX6_swaps_10 : decode cX6_swaps 10 = .ok (.iload_n 1, 1) := by decide +kernel
theorem dX6_swaps_11 : decode cX6_swaps 11 = .ok (.aload_n 0, 1) := by decide +kernel
theorem dX6_swaps_12 : decode cX6_swaps 12 = .ok (.getfield 24, 3) := by decide +kernel
theorem dX6_swaps_15 : decode cX6_swaps 15 = .ok (.getfield 153, 3) := by decide +kernel
theorem dX6_swaps_18 : decode cX6_swaps 18 = .ok (.if_icmp .ge 46, 3) := by decide +kernel
theorem dX6_swaps_21 : decode cX6_swaps 21 = .ok (.aload_n 0, 1) := by decide +kernel
theorem dX6_swaps_22 : decode cX6_swaps 22 = .ok (.getfield 31, 3) := by decide +kernel
theorem dX6_swaps_25 : decode cX6_swaps 25 = .ok (.getfield 139, 3) := by decide +kernel
theorem dX6_swaps_28 : decode cX6_swaps 28 = .ok (.iload_n 1, 1) := by decide +kernel
theorem dX6_swaps_29 : decode cX6_swaps 29 = .ok (.iaload, 1) := by decide +kernel
theorem dX6_swaps_30 : decode cX6_swaps 30 = .ok (.bipush (-9), 2) := by decide +kernel
theorem dX6_swaps_32 : decode cX6_swaps 32 = .ok (.if_icmp .eq 26, 3) := by decide +kernel
theorem dX6_swaps_35 : decode cX6_swaps 35 = .ok (.aload_n 0, 1) := by decide +kernel
theorem dX6_swaps_36 : decode cX6_swaps 36 = .ok (.getfield 53, 3) := by decide +kernel
theorem dX6_swaps_39 : decode cX6_swaps 39 = .ok (.aload_n 0, 1) := by decide +kernel
theorem dX6_swaps_40 : decode cX6_swaps 40 = .ok (.iload_n 1, 1) := by decide +kernel
theorem dX6_swaps_41 : decode cX6_swaps 41 = .ok (.bipush 9, 2) := by decide +kernel
theorem dX6_swaps_43 : decode cX6_swaps 43 = .ok (.invokevirtual 135, 3) := by decide +kernel
theorem dX6_swaps_46 : decode cX6_swaps 46 = .ok (.aload_n 0, 1) := by decide +kernel
theorem dX6_swaps_47 : decode cX6_swaps 47 = .ok (.getfield 31, 3) := by decide +kernel
theorem dX6_swaps_50 : decode cX6_swaps 50 = .ok (.getfield 139, 3) := by decide +kernel
theorem dX6_swaps_53 : decode cX6_swaps 53 = .ok (.iload_n 1, 1) := by decide +kernel
theorem dX6_swaps_54 : decode cX6_swaps 54 = .ok (.iaload, 1) := by decide +kernel
theorem dX6_swaps_55 : decode cX6_swaps 55 = .ok (.invokevirtual 171, 3) := by decide +kernel
theorem dX6_swaps_58 : decode cX6_swaps 58 = .ok (.iinc 1 1, 3) := by decide +kernel
theorem dX6_swaps_61 : decode cX6_swaps 61 = .ok (.goto (-51), 3) := by decide +kernel
theorem dX6_swaps_64 : decode cX6_swaps 64 = .ok (.aload_n 0, 1) := by decide +kernel
theorem dX6_swaps_65 : decode cX6_swaps 65 = .ok (.getfield 53, 3) := by decide +kernel
theorem dX6_swaps_68 : decode cX6_swaps 68 = .ok (.invokevirtual 174, 3) := by decide +kernel
theorem dX6_swaps_71 : decode cX6_swaps 71 = .ok (.ireturn, 1) := by decide +kernel
theorem dX6_rate_0 : decode cX6_rate 0 = .ok (.aload_n 0, 1) := by decide +kernel
theorem dX6_rate_1 : decode cX6_rate 1 = .ok (.getfield 24, 3) := by decide +kernel
theorem dX6_rate_4 : decode cX6_rate 4 = .ok (.iload_n 2, 1) := by decide +kernel
theorem dX6_rate_5 : decode cX6_rate 5 = .ok (.invokevirtual 89, 3) := by decide +kernel
theorem dX6_rate_8 : decode cX6_rate 8 = .ok (.ifCond .ne 6, 3) := by decide +kernel
theorem dX6_rate_11 : decode cX6_rate 11 = .ok (.ldc 177, 2) := by decide +kernel
theorem dX6_rate_13 : decode cX6_rate 13 = .ok (.ireturn, 1) := by decide +kernel
theorem dX6_rate_14 : decode cX6_rate 14 = .ok (.iload_n 1, 1) := by decide +kernel
theorem dX6_rate_15 : decode cX6_rate 15 = .ok (.tableswitch 73 0 5 #[37, 43, 49, 55, 61, 67], 37) := by decide +kernel
theorem dX6_rate_52 : decode cX6_rate 52 = .ok (.aload_n 0, 1) := by decide +kernel
theorem dX6_rate_53 : decode cX6_rate 53 = .ok (.iload_n 2, 1) := by decide +kernel
theorem dX6_rate_54 : decode cX6_rate 54 = .ok (.invokevirtual 178, 3) := by decide +kernel
theorem dX6_rate_57 : decode cX6_rate 57 = .ok (.ireturn, 1) := by decide +kernel
theorem dX6_rate_58 : decode cX6_rate 58 = .ok (.aload_n 0, 1) := by decide +kernel
theorem dX6_rate_59 : decode cX6_rate 59 = .ok (.iload_n 2, 1) := by decide +kernel
theorem dX6_rate_60 : decode cX6_rate 60 = .ok (.invokevirtual 181, 3) := by decide +kernel
theorem dX6_rate_63 : decode cX6_rate 63 = .ok (.ireturn, 1) := by decide +kernel
theorem dX6_rate_64 : decode cX6_rate 64 = .ok (.aload_n 0, 1) := by decide +kernel
theorem dX6_rate_65 : decode cX6_rate 65 = .ok (.iload_n 2, 1) := by decide +kernel
theorem dX6_rate_66 : decode cX6_rate 66 = .ok (.invokevirtual 184, 3) := by decide +kernel
theorem dX6_rate_69 : decode cX6_rate 69 = .ok (.ireturn, 1) := by decide +kernel
theorem dX6_rate_70 : decode cX6_rate 70 = .ok (.aload_n 0, 1) := by decide +kernel
theorem dX6_rate_71 : decode cX6_rate 71 = .ok (.iload_n 2, 1) := by decide +kernel
theorem dX6_rate_72 : decode cX6_rate 72 = .ok (.invokevirtual 187, 3) := by decide +kernel
theorem dX6_rate_75 : decode cX6_rate 75 = .ok (.ireturn, 1) := by decide +kernel
theorem dX6_rate_76 : decode cX6_rate 76 = .ok (.aload_n 0, 1) := by decide +kernel
theorem dX6_rate_77 : decode cX6_rate 77 = .ok (.iload_n 2, 1) := by decide +kernel
theorem dX6_rate_78 : decode cX6_rate 78 = .ok (.invokevirtual 190, 3) := by decide +kernel
theorem dX6_rate_81 : decode cX6_rate 81 = .ok (.ireturn, 1) := by decide +kernel
theorem dX6_rate_82 : decode cX6_rate 82 = .ok (.aload_n 0, 1) := by decide +kernel
theorem dX6_rate_83 : decode cX6_rate 83 = .ok (.iload_n 2, 1) := by decide +kernel
theorem dX6_rate_84 : decode cX6_rate 84 = .ok (.invokevirtual 193, 3) := by decide +kernel
theorem dX6_rate_87 : decode cX6_rate 87 = .ok (.ireturn, 1) := by decide +kernel
theorem dX6_rate_88 : decode cX6_rate 88 = .ok (.ldc 177, 2) := by decide +kernel
theorem dX6_rate_90 : decode cX6_rate 90 = .ok (.ireturn, 1) := by decide +kernel
theorem dX6_keep_0 : decode cX6_keep 0 = .ok (.iload_n 1, 1) := by decide +kernel
theorem dX6_keep_1 : decode cX6_keep 1 = .ok (.iconst 0, 1) := by decide +kernel
theorem dX6_keep_2 : decode cX6_keep 2 = .ok (.iconst 1, 1) := by decide +kernel
theorem dX6_keep_3 : decode cX6_keep 3 = .ok (.invokestatic 61, 3) := by decide +kernel
theorem dX6_keep_6 : decode cX6_keep 6 = .ok (.ifCond .ne 5, 3) := by decide +kernel
theorem dX6_keep_9 : decode cX6_keep 9 = .ok (.iconst (-1), 1) := by decide +kernel
theorem dX6_keep_10 : decode cX6_keep 10 = .ok (.ireturn, 1) := by decide +kernel
theorem dX6_keep_11 : decode cX6_keep 11 = .ok (.aload_n 0, 1) := by decide +kernel
theorem dX6_keep_12 : decode cX6_keep 12 = .ok (.getfield 35, 3) := by decide +kernel
theorem dX6_keep_15 : decode cX6_keep 15 = .ok (.iload_n 1, 1) := by decide +kernel
theorem dX6_keep_16 : decode cX6_keep 16 = .ok (.aaload, 1) := by decide +kernel
theorem dX6_keep_17 : decode cX6_keep 17 = .ok (.aload_n 0, 1) := by decide +kernel
theorem dX6_keep_18 : decode cX6_keep 18 = .ok (.getfield 31, 3) := by decide +kernel
theorem dX6_keep_21 : decode cX6_keep 21 = .ok (.invokevirtual 196, 3) := by decide +kernel
theorem dX6_keep_24 : decode cX6_keep 24 = .ok (.aload_n 0, 1) := by decide +kernel
theorem dX6_keep_25 : decode cX6_keep 25 = .ok (.getfield 39, 3) := by decide +kernel
theorem dX6_keep_28 : decode cX6_keep 28 = .ok (.iload_n 1, 1) := by decide +kernel
theorem dX6_keep_29 : decode cX6_keep 29 = .ok (.iconst 1, 1) := by decide +kernel
theorem dX6_keep_30 : decode cX6_keep 30 = .ok (.bastore, 1) := by decide +kernel
theorem dX6_keep_31 : decode cX6_keep 31 = .ok (.aload_n 0, 1) := by decide +kernel
theorem dX6_keep_32 : decode cX6_keep 32 = .ok (.getfield 31, 3) := by decide +kernel
theorem dX6_keep_35 : decode cX6_keep 35 = .ok (.getfield 116, 3) := by decide +kernel
theorem dX6_keep_38 : decode cX6_keep 38 = .ok (.ireturn, 1) := by decide +kernel
theorem dX6_back_0 : decode cX6_back 0 = .ok (.iload_n 1, 1) := by decide +kernel
theorem dX6_back_1 : decode cX6_back 1 = .ok (.iconst 0, 1) := by decide +kernel
theorem dX6_back_2 : decode cX6_back 2 = .ok (.iconst 1, 1) := by decide +kernel
theorem dX6_back_3 : decode cX6_back 3 = .ok (.invokestatic 61, 3) := by decide +kernel
theorem dX6_back_6 : decode cX6_back 6 = .ok (.ifCond .ne 5, 3) := by decide +kernel
theorem dX6_back_9 : decode cX6_back 9 = .ok (.iconst (-1), 1) := by decide +kernel
theorem dX6_back_10 : decode cX6_back 10 = .ok (.ireturn, 1) := by decide +kernel
theorem dX6_back_11 : decode cX6_back 11 = .ok (.aload_n 0, 1) := by decide +kernel
theorem dX6_back_12 : decode cX6_back 12 = .ok (.getfield 39, 3) := by decide +kernel
theorem dX6_back_15 : decode cX6_back 15 = .ok (.iload_n 1, 1) := by decide +kernel
theorem dX6_back_16 : decode cX6_back 16 = .ok (.baload, 1) := by decide +kernel
theorem dX6_back_17 : decode cX6_back 17 = .ok (.ifCond .ne 6, 3) := by decide +kernel
theorem dX6_back_20 : decode cX6_back 20 = .ok (.bipush (-2), 2) := by decide +kernel
theorem dX6_back_22 : decode cX6_back 22 = .ok (.ireturn, 1) := by decide +kernel
theorem dX6_back_23 : decode cX6_back 23 = .ok (.aload_n 0, 1) := by decide +kernel
theorem dX6_back_24 : decode cX6_back 24 = .ok (.getfield 31, 3) := by decide +kernel
theorem dX6_back_27 : decode cX6_back 27 = .ok (.aload_n 0, 1) := by decide +kernel
theorem dX6_back_28 : decode cX6_back 28 = .ok (.getfield 35, 3) := by decide +kernel
theorem dX6_back_31 : decode cX6_back 31 = .ok (.iload_n 1, 1) := by decide +kernel
theorem dX6_back_32 : decode cX6_back 32 = .ok (.aaload, 1) := by decide +kernel
theorem dX6_back_33 : decode cX6_back 33 = .ok (.invokevirtual 196, 3) := by decide +kernel
theorem dX6_back_36 : decode cX6_back 36 = .ok (.aload_n 0, 1) := by decide +kernel
theorem dX6_back_37 : decode cX6_back 37 = .ok (.getfield 31, 3) := by decide +kernel
theorem dX6_back_40 : decode cX6_back 40 = .ok (.getfield 116, 3) := by decide +kernel
theorem dX6_back_43 : decode cX6_back 43 = .ok (.ireturn, 1) := by decide +kernel
theorem dX6_count_0 : decode cX6_count 0 = .ok (.iload_n 1, 1) := by decide +kernel
theorem dX6_count_1 : decode cX6_count 1 = .ok (.tableswitch 87 0 5 #[39, 47, 55, 63, 71, 79], 39) := by decide +kernel
theorem dX6_count_40 : decode cX6_count 40 = .ok (.aload_n 0, 1) := by decide +kernel
theorem dX6_count_41 : decode cX6_count 41 = .ok (.getfield 24, 3) := by decide +kernel
theorem dX6_count_44 : decode cX6_count 44 = .ok (.getfield 153, 3) := by decide +kernel
theorem dX6_count_47 : decode cX6_count 47 = .ok (.ireturn, 1) := by decide +kernel
theorem dX6_count_48 : decode cX6_count 48 = .ok (.aload_n 0, 1) := by decide +kernel
theorem dX6_count_49 : decode cX6_count 49 = .ok (.getfield 24, 3) := by decide +kernel
theorem dX6_count_52 : decode cX6_count 52 = .ok (.getfield 199, 3) := by decide +kernel
theorem dX6_count_55 : decode cX6_count 55 = .ok (.ireturn, 1) := by decide +kernel
theorem dX6_count_56 : decode cX6_count 56 = .ok (.aload_n 0, 1) := by decide +kernel
theorem dX6_count_57 : decode cX6_count 57 = .ok (.getfield 24, 3) := by decide +kernel
theorem dX6_count_60 : decode cX6_count 60 = .ok (.getfield 201, 3) := by decide +kernel
theorem dX6_count_63 : decode cX6_count 63 = .ok (.ireturn, 1) := by decide +kernel
theorem dX6_count_64 : decode cX6_count 64 = .ok (.aload_n 0, 1) := by decide +kernel
theorem dX6_count_65 : decode cX6_count 65 = .ok (.getfield 31, 3) := by decide +kernel
theorem dX6_count_68 : decode cX6_count 68 = .ok (.getfield 116, 3) := by decide +kernel
theorem dX6_count_71 : decode cX6_count 71 = .ok (.ireturn, 1) := by decide +kernel
theorem dX6_count_72 : decode cX6_count 72 = .ok (.aload_n 0, 1) := by decide +kernel
theorem dX6_count_73 : decode cX6_count 73 = .ok (.getfield 31, 3) := by decide +kernel
theorem dX6_count_76 : decode cX6_count 76 = .ok (.invokevirtual 204, 3) := by decide +kernel
theorem dX6_count_79 : decode cX6_count 79 = .ok (.ireturn, 1) := by decide +kernel
theorem dX6_count_80 : decode cX6_count 80 = .ok (.aload_n 0, 1) := by decide +kernel
theorem dX6_count_81 : decode cX6_count 81 = .ok (.getfield 20, 3) := by decide +kernel
theorem dX6_count_84 : decode cX6_count 84 = .ok (.getfield 65, 3) := by decide +kernel
theorem dX6_count_87 : decode cX6_count 87 = .ok (.ireturn, 1) := by decide +kernel
theorem dX6_count_88 : decode cX6_count 88 = .ok (.iconst (-1), 1) := by decide +kernel
theorem dX6_count_89 : decode cX6_count 89 = .ok (.ireturn, 1) := by decide +kernel
theorem dX6_trace_0 : decode cX6_trace 0 = .ok (.aload_n 0, 1) := by decide +kernel
theorem dX6_trace_1 : decode cX6_trace 1 = .ok (.getfield 57, 3) := by decide +kernel
theorem dX6_trace_4 : decode cX6_trace 4 = .ok (.lreturn, 1) := by decide +kernel
theorem dX6_within_0 : decode cX6_within 0 = .ok (.iload_n 0, 1) := by decide +kernel
theorem dX6_within_1 : decode cX6_within 1 = .ok (.iload_n 1, 1) := by decide +kernel
theorem dX6_within_2 : decode cX6_within 2 = .ok (.if_icmp .lt 12, 3) := by decide +kernel
theorem dX6_within_5 : decode cX6_within 5 = .ok (.iload_n 0, 1) := by decide +kernel
theorem dX6_within_6 : decode cX6_within 6 = .ok (.iload_n 2, 1) := by decide +kernel
theorem dX6_within_7 : decode cX6_within 7 = .ok (.if_icmp .gt 7, 3) := by decide +kernel
theorem dX6_within_10 : decode cX6_within 10 = .ok (.iconst 1, 1) := by decide +kernel
theorem dX6_within_11 : decode cX6_within 11 = .ok (.goto 4, 3) := by decide +kernel
theorem dX6_within_14 : decode cX6_within 14 = .ok (.iconst 0, 1) := by decide +kernel
theorem dX6_within_15 : decode cX6_within 15 = .ok (.ireturn, 1) := by decide +kernel
theorem dX6_isYear_0 : decode cX6_isYear 0 = .ok (.iload_n 0, 1) := by decide +kernel
theorem dX6_isYear_1 : decode cX6_isYear 1 = .ok (.iconst 0, 1) := by decide +kernel
theorem dX6_isYear_2 : decode cX6_isYear 2 = .ok (.bipush 9, 2) := by decide +kernel
theorem dX6_isYear_4 : decode cX6_isYear 4 = .ok (.invokestatic 61, 3) := by decide +kernel
theorem dX6_isYear_7 : decode cX6_isYear 7 = .ok (.ireturn, 1) := by decide +kernel
theorem dX6_isClaim_0 : decode cX6_isClaim 0 = .ok (.aload_n 0, 1) := by decide +kernel
theorem dX6_isClaim_1 : decode cX6_isClaim 1 = .ok (.getfield 24, 3) := by decide +kernel
theorem dX6_isClaim_4 : decode cX6_isClaim 4 = .ok (.iload_n 1, 1) := by decide +kernel
theorem dX6_isClaim_5 : decode cX6_isClaim 5 = .ok (.invokevirtual 97, 3) := by decide +kernel
theorem dX6_isClaim_8 : decode cX6_isClaim 8 = .ok (.ifCond .eq 28, 3) := by decide +kernel
theorem dX6_isClaim_11 : decode cX6_isClaim 11 = .ok (.aload_n 0, 1) := by decide +kernel
theorem dX6_isClaim_12 : decode cX6_isClaim 12 = .ok (.getfield 24, 3) := by decide +kernel
theorem dX6_isClaim_15 : decode cX6_isClaim 15 = .ok (.iload_n 2, 1) := by decide +kernel
theorem dX6_isClaim_16 : decode cX6_isClaim 16 = .ok (.invokevirtual 89, 3) := by decide +kernel
theorem dX6_isClaim_19 : decode cX6_isClaim 19 = .ok (.ifCond .eq 17, 3) := by decide +kernel
theorem dX6_isClaim_22 : decode cX6_isClaim 22 = .ok (.iload_n 3, 1) := by decide +kernel
theorem dX6_isClaim_23 : decode cX6_isClaim 23 = .ok (.iconst 1, 1) := by decide +kernel
theorem dX6_isClaim_24 : decode cX6_isClaim 24 = .ok (.bipush 10, 2) := by decide +kernel
theorem dX6_isClaim_26 : decode cX6_isClaim 26 = .ok (.invokestatic 61, 3) := by decide +kernel
theorem dX6_isClaim_29 : decode cX6_isClaim 29 = .ok (.ifCond .eq 7, 3) := by decide +kernel
theorem dX6_isClaim_32 : decode cX6_isClaim 32 = .ok (.iconst 1, 1) := by decide +kernel
theorem dX6_isClaim_33 : decode cX6_isClaim 33 = .ok (.goto 4, 3) := by decide +kernel
theorem dX6_isClaim_36 : decode cX6_isClaim 36 = .ok (.iconst 0, 1) := by decide +kernel
theorem dX6_isClaim_37 : decode cX6_isClaim 37 = .ok (.ireturn, 1) := by decide +kernel
theorem dX6_rustByHolds_0 : decode cX6_rustByHolds 0 = .ok (.aload_n 0, 1) := by decide +kernel
theorem dX6_rustByHolds_1 : decode cX6_rustByHolds 1 = .ok (.getfield 24, 3) := by decide +kernel
theorem dX6_rustByHolds_4 : decode cX6_rustByHolds 4 = .ok (.iload_n 1, 1) := by decide +kernel
theorem dX6_rustByHolds_5 : decode cX6_rustByHolds 5 = .ok (.iload_n 2, 1) := by decide +kernel
theorem dX6_rustByHolds_6 : decode cX6_rustByHolds 6 = .ok (.invokevirtual 207, 3) := by decide +kernel
theorem dX6_rustByHolds_9 : decode cX6_rustByHolds 9 = .ok (.istore_n 3, 1) := by decide +kernel
theorem dX6_rustByHolds_10 : decode cX6_rustByHolds 10 = .ok (.iconst 0, 1) := by decide +kernel
theorem dX6_rustByHolds_11 : decode cX6_rustByHolds 11 = .ok (.istore 4, 2) := by decide +kernel
theorem dX6_rustByHolds_13 : decode cX6_rustByHolds 13 = .ok (.iload 4, 2) := by decide +kernel
theorem dX6_rustByHolds_15 : decode cX6_rustByHolds 15 = .ok (.aload_n 0, 1) := by decide +kernel
theorem dX6_rustByHolds_16 : decode cX6_rustByHolds 16 = .ok (.getfield 31, 3) := by decide +kernel
theorem dX6_rustByHolds_19 : decode cX6_rustByHolds 19 = .ok (.getfield 116, 3) := by decide +kernel
theorem dX6_rustByHolds_22 : decode cX6_rustByHolds 22 = .ok (.if_icmp .ge 94, 3) := by decide +kernel
theorem dX6_rustByHolds_25 : decode cX6_rustByHolds 25 = .ok (.aload_n 0, 1) := by decide +kernel
theorem dX6_rustByHolds_26 : decode cX6_rustByHolds 26 = .ok (.getfield 31, 3) := by decide +kernel
theorem dX6_rustByHolds_29 : decode cX6_rustByHolds 29 = .ok (.getfield 126, 3) := by decide +kernel
theorem dX6_rustByHolds_32 : decode cX6_rustByHolds 32 = .ok (.iload 4, 2) := by decide +kernel
theorem dX6_rustByHolds_34 : decode cX6_rustByHolds 34 = .ok (.iaload, 1) := by decide +kernel
theorem dX6_rustByHolds_35 : decode cX6_rustByHolds 35 = .ok (.iload_n 1, 1) := by decide +kernel
theorem dX6_rustByHolds_36 : decode cX6_rustByHolds 36 = .ok (.if_icmp .ne 74, 3) := by decide +kernel
theorem dX6_rustByHolds_39 : decode cX6_rustByHolds 39 = .ok (.iload_n 2, 1) := by decide +kernel
theorem dX6_rustByHolds_40 : decode cX6_rustByHolds 40 = .ok (.aload_n 0, 1) := by decide +kernel
theorem dX6_rustByHolds_41 : decode cX6_rustByHolds 41 = .ok (.getfield 31, 3) := by decide +kernel
theorem dX6_rustByHolds_44 : decode cX6_rustByHolds 44 = .ok (.getfield 129, 3) := by decide +kernel
theorem dX6_rustByHolds_47 : decode cX6_rustByHolds 47 = .ok (.iload 4, 2) := by decide +kernel
theorem dX6_rustByHolds_49 : decode cX6_rustByHolds 49 = .ok (.iaload, 1) := by decide +kernel
theorem dX6_rustByHolds_50 : decode cX6_rustByHolds 50 = .ok (.aload_n 0, 1) := by decide +kernel
theorem dX6_rustByHolds_51 : decode cX6_rustByHolds 51 = .ok (.getfield 31, 3) := by decide +kernel
theorem dX6_rustByHolds_54 : decode cX6_rustByHolds 54 = .ok (.getfield 132, 3) := by decide +kernel
theorem dX6_rustByHolds_57 : decode cX6_rustByHolds 57 = .ok (.iload 4, 2) := by decide +kernel
theorem dX6_rustByHolds_59 : decode cX6_rustByHolds 59 = .ok (.iaload, 1) := by decide +kernel
theorem dX6_rustByHolds_60 : decode cX6_rustByHolds 60 = .ok (.iadd, 1) := by decide +kernel
theorem dX6_rustByHolds_61 : decode cX6_rustByHolds 61 = .ok (.iconst 1, 1) := by decide +kernel
theorem dX6_rustByHolds_62 : decode cX6_rustByHolds 62 = .ok (.isub, 1) := by decide +kernel
theorem dX6_rustByHolds_63 : decode cX6_rustByHolds 63 = .ok (.invokestatic 210, 3) := by decide +kernel
theorem dX6_rustByHolds_66 : decode cX6_rustByHolds 66 = .ok (.istore 5, 2) := by decide +kernel
theorem dX6_rustByHolds_68 : decode cX6_rustByHolds 68 = .ok (.iload_n 3, 1) := by decide +kernel
theorem dX6_rustByHolds_69 : decode cX6_rustByHolds 69 = .ok (.aload_n 0, 1) := by decide +kernel
theorem dX6_rustByHolds_70 : decode cX6_rustByHolds 70 = .ok (.getfield 24, 3) := by decide +kernel
theorem dX6_rustByHolds_73 : decode cX6_rustByHolds 73 = .ok (.getfield 100, 3) := by decide +kernel
theorem dX6_rustByHolds_76 : decode cX6_rustByHolds 76 = .ok (.aload_n 0, 1) := by decide +kernel
theorem dX6_rustByHolds_77 : decode cX6_rustByHolds 77 = .ok (.getfield 31, 3) := by decide +kernel
theorem dX6_rustByHolds_80 : decode cX6_rustByHolds 80 = .ok (.getfield 123, 3) := by decide +kernel
theorem dX6_rustByHolds_83 : decode cX6_rustByHolds 83 = .ok (.iload 4, 2) := by decide +kernel
theorem dX6_rustByHolds_85 : decode cX6_rustByHolds 85 = .ok (.iaload, 1) := by decide +kernel
theorem dX6_rustByHolds_86 : decode cX6_rustByHolds 86 = .ok (.iaload, 1) := by decide +kernel
theorem dX6_rustByHolds_87 : decode cX6_rustByHolds 87 = .ok (.aload_n 0, 1) := by decide +kernel
theorem dX6_rustByHolds_88 : decode cX6_rustByHolds 88 = .ok (.getfield 24, 3) := by decide +kernel
theorem dX6_rustByHolds_91 : decode cX6_rustByHolds 91 = .ok (.iload_n 1, 1) := by decide +kernel
theorem dX6_rustByHolds_92 : decode cX6_rustByHolds 92 = .ok (.aload_n 0, 1) := by decide +kernel
theorem dX6_rustByHolds_93 : decode cX6_rustByHolds 93 = .ok (.getfield 31, 3) := by decide +kernel
theorem dX6_rustByHolds_96 : decode cX6_rustByHolds 96 = .ok (.getfield 129, 3) := by decide +kernel
theorem dX6_rustByHolds_99 : decode cX6_rustByHolds 99 = .ok (.iload 4, 2) := by decide +kernel
theorem dX6_rustByHolds_101 : decode cX6_rustByHolds 101 = .ok (.iaload, 1) := by decide +kernel
theorem dX6_rustByHolds_102 : decode cX6_rustByHolds 102 = .ok (.iload 5, 2) := by decide +kernel
theorem dX6_rustByHolds_104 : decode cX6_rustByHolds 104 = .ok (.invokevirtual 215, 3) := by decide +kernel
theorem dX6_rustByHolds_107 : decode cX6_rustByHolds 107 = .ok (.imul, 1) := by decide +kernel
theorem dX6_rustByHolds_108 : decode cX6_rustByHolds 108 = .ok (.iadd, 1) := by decide +kernel
theorem dX6_rustByHolds_109 : decode cX6_rustByHolds 109 = .ok (.istore_n 3, 1) := by decide +kernel
theorem dX6_rustByHolds_110 : decode cX6_rustByHolds 110 = .ok (.iinc 4 1, 3) := by decide +kernel
theorem dX6_rustByHolds_113 : decode cX6_rustByHolds 113 = .ok (.goto (-100), 3) := by decide +kernel
theorem dX6_rustByHolds_116 : decode cX6_rustByHolds 116 = .ok (.iload_n 3, 1) := by decide +kernel
theorem dX6_rustByHolds_117 : decode cX6_rustByHolds 117 = .ok (.ireturn, 1) := by decide +kernel
theorem dX6_commonDivisor_0 : decode cX6_commonDivisor 0 = .ok (.iload_n 1, 1) := by decide +kernel
theorem dX6_commonDivisor_1 : decode cX6_commonDivisor 1 = .ok (.istore_n 2, 1) := by decide +kernel
theorem dX6_commonDivisor_2 : decode cX6_commonDivisor 2 = .ok (.iload_n 0, 1) := by decide +kernel
theorem dX6_commonDivisor_3 : decode cX6_commonDivisor 3 = .ok (.istore_n 3, 1) := by decide +kernel
theorem dX6_commonDivisor_4 : decode cX6_commonDivisor 4 = .ok (.iconst 0, 1) := by decide +kernel
theorem dX6_commonDivisor_5 : decode cX6_commonDivisor 5 = .ok (.istore 4, 2) := by decide +kernel
theorem dX6_commonDivisor_7 : decode cX6_commonDivisor 7 = .ok (.iload 4, 2) := by decide +kernel
theorem dX6_commonDivisor_9 : decode cX6_commonDivisor 9 = .ok (.bipush 64, 2) := by decide +kernel
theorem dX6_commonDivisor_11 : decode cX6_commonDivisor 11 = .ok (.if_icmp .ge 23, 3) := by decide +kernel
theorem dX6_commonDivisor_14 : decode cX6_commonDivisor 14 = .ok (.iload_n 3, 1) := by decide +kernel
theorem dX6_commonDivisor_15 : decode cX6_commonDivisor 15 = .ok (.ifCond .eq 19, 3) := by decide +kernel
theorem dX6_commonDivisor_18 : decode cX6_commonDivisor 18 = .ok (.iload_n 2, 1) := by decide +kernel
theorem dX6_commonDivisor_19 : decode cX6_commonDivisor 19 = .ok (.iload_n 3, 1) := by decide +kernel
theorem dX6_commonDivisor_20 : decode cX6_commonDivisor 20 = .ok (.irem, 1) := by decide +kernel
theorem dX6_commonDivisor_21 : decode cX6_commonDivisor 21 = .ok (.istore 5, 2) := by decide +kernel
theorem dX6_commonDivisor_23 : decode cX6_commonDivisor 23 = .ok (.iload_n 3, 1) := by decide +kernel
theorem dX6_commonDivisor_24 : decode cX6_commonDivisor 24 = .ok (.istore_n 2, 1) := by decide +kernel
theorem dX6_commonDivisor_25 : decode cX6_commonDivisor 25 = .ok (.iload 5, 2) := by decide +kernel
theorem dX6_commonDivisor_27 : decode cX6_commonDivisor 27 = .ok (.istore_n 3, 1) := by decide +kernel
theorem dX6_commonDivisor_28 : decode cX6_commonDivisor 28 = .ok (.iinc 4 1, 3) := by decide +kernel
theorem dX6_commonDivisor_31 : decode cX6_commonDivisor 31 = .ok (.goto (-24), 3) := by decide +kernel
theorem dX6_commonDivisor_34 : decode cX6_commonDivisor 34 = .ok (.iload_n 2, 1) := by decide +kernel
theorem dX6_commonDivisor_35 : decode cX6_commonDivisor 35 = .ok (.ireturn, 1) := by decide +kernel
theorem dX6_rateOfBar_0 : decode cX6_rateOfBar 0 = .ok (.aload_n 0, 1) := by decide +kernel
theorem dX6_rateOfBar_1 : decode cX6_rateOfBar 1 = .ok (.dup, 1) := by decide +kernel
theorem dX6_rateOfBar_2 : decode cX6_rateOfBar 2 = .ok (.getfield 57, 3) := by decide +kernel
theorem dX6_rateOfBar_5 : decode cX6_rateOfBar 5 = .ok (.lconst 1, 1) := by decide +kernel
theorem dX6_rateOfBar_6 : decode cX6_rateOfBar 6 = .ok (.ladd, 1) := by decide +kernel
theorem dX6_rateOfBar_7 : decode cX6_rateOfBar 7 = .ok (.putfield 57, 3) := by decide +kernel
theorem dX6_rateOfBar_10 : decode cX6_rateOfBar 10 = .ok (.aload_n 0, 1) := by decide +kernel
theorem dX6_rateOfBar_11 : decode cX6_rateOfBar 11 = .ok (.getfield 24, 3) := by decide +kernel
theorem dX6_rateOfBar_14 : decode cX6_rateOfBar 14 = .ok (.getfield 93, 3) := by decide +kernel
theorem dX6_rateOfBar_17 : decode cX6_rateOfBar 17 = .ok (.iload_n 1, 1) := by decide +kernel
theorem dX6_rateOfBar_18 : decode cX6_rateOfBar 18 = .ok (.iaload, 1) := by decide +kernel
theorem dX6_rateOfBar_19 : decode cX6_rateOfBar 19 = .ok (.ireturn, 1) := by decide +kernel
theorem dX6_rateOfRail_0 : decode cX6_rateOfRail 0 = .ok (.aload_n 0, 1) := by decide +kernel
theorem dX6_rateOfRail_1 : decode cX6_rateOfRail 1 = .ok (.dup, 1) := by decide +kernel
theorem dX6_rateOfRail_2 : decode cX6_rateOfRail 2 = .ok (.getfield 57, 3) := by decide +kernel
theorem dX6_rateOfRail_5 : decode cX6_rateOfRail 5 = .ok (.ldc2_w 219, 3) := by decide +kernel
theorem dX6_rateOfRail_8 : decode cX6_rateOfRail 8 = .ok (.ladd, 1) := by decide +kernel
theorem dX6_rateOfRail_9 : decode cX6_rateOfRail 9 = .ok (.putfield 57, 3) := by decide +kernel
theorem dX6_rateOfRail_12 : decode cX6_rateOfRail 12 = .ok (.aload_n 0, 1) := by decide +kernel
theorem dX6_rateOfRail_13 : decode cX6_rateOfRail 13 = .ok (.iload_n 1, 1) := by decide +kernel
theorem dX6_rateOfRail_14 : decode cX6_rateOfRail 14 = .ok (.invokevirtual 178, 3) := by decide +kernel
theorem dX6_rateOfRail_17 : decode cX6_rateOfRail 17 = .ok (.aload_n 0, 1) := by decide +kernel
theorem dX6_rateOfRail_18 : decode cX6_rateOfRail 18 = .ok (.getfield 24, 3) := by decide +kernel
theorem dX6_rateOfRail_21 : decode cX6_rateOfRail 21 = .ok (.iload_n 1, 1) := by decide +kernel
theorem dX6_rateOfRail_22 : decode cX6_rateOfRail 22 = .ok (.invokevirtual 221, 3) := by decide +kernel
theorem dX6_rateOfRail_25 : decode cX6_rateOfRail 25 = .ok (.iadd, 1) := by decide +kernel
theorem dX6_rateOfRail_26 : decode cX6_rateOfRail 26 = .ok (.ireturn, 1) := by decide +kernel
theorem dX6_rateOfSpike_0 : decode cX6_rateOfSpike 0 = .ok (.aload_n 0, 1) := by decide +kernel
theorem dX6_rateOfSpike_1 : decode cX6_rateOfSpike 1 = .ok (.dup, 1) := by decide +kernel
theorem dX6_rateOfSpike_2 : decode cX6_rateOfSpike 2 = .ok (.getfield 57, 3) := by decide +kernel
theorem dX6_rateOfSpike_5 : decode cX6_rateOfSpike 5 = .ok (.ldc2_w 224, 3) := by decide +kernel
theorem dX6_rateOfSpike_8 : decode cX6_rateOfSpike 8 = .ok (.ladd, 1) := by decide +kernel
theorem dX6_rateOfSpike_9 : decode cX6_rateOfSpike 9 = .ok (.putfield 57, 3) := by decide +kernel
theorem dX6_rateOfSpike_12 : decode cX6_rateOfSpike 12 = .ok (.aload_n 0, 1) := by decide +kernel
theorem dX6_rateOfSpike_13 : decode cX6_rateOfSpike 13 = .ok (.iload_n 1, 1) := by decide +kernel
theorem dX6_rateOfSpike_14 : decode cX6_rateOfSpike 14 = .ok (.invokevirtual 178, 3) := by decide +kernel
theorem dX6_rateOfSpike_17 : decode cX6_rateOfSpike 17 = .ok (.aload_n 0, 1) := by decide +kernel
theorem dX6_rateOfSpike_18 : decode cX6_rateOfSpike 18 = .ok (.getfield 31, 3) := by decide +kernel
theorem dX6_rateOfSpike_21 : decode cX6_rateOfSpike 21 = .ok (.iload_n 1, 1) := by decide +kernel
theorem dX6_rateOfSpike_22 : decode cX6_rateOfSpike 22 = .ok (.invokevirtual 226, 3) := by decide +kernel
theorem dX6_rateOfSpike_25 : decode cX6_rateOfSpike 25 = .ok (.isub, 1) := by decide +kernel
theorem dX6_rateOfSpike_26 : decode cX6_rateOfSpike 26 = .ok (.ireturn, 1) := by decide +kernel
theorem dX6_rateOfGate_0 : decode cX6_rateOfGate 0 = .ok (.aload_n 0, 1) := by decide +kernel
theorem dX6_rateOfGate_1 : decode cX6_rateOfGate 1 = .ok (.dup, 1) := by decide +kernel
theorem dX6_rateOfGate_2 : decode cX6_rateOfGate 2 = .ok (.getfield 57, 3) := by decide +kernel
theorem dX6_rateOfGate_5 : decode cX6_rateOfGate 5 = .ok (.ldc2_w 229, 3) := by decide +kernel
theorem dX6_rateOfGate_8 : decode cX6_rateOfGate 8 = .ok (.ladd, 1) := by decide +kernel
theorem dX6_rateOfGate_9 : decode cX6_rateOfGate 9 = .ok (.putfield 57, 3) := by decide +kernel
theorem dX6_rateOfGate_12 : decode cX6_rateOfGate 12 = .ok (.iconst 2, 1) := by decide +kernel
theorem dX6_rateOfGate_13 : decode cX6_rateOfGate 13 = .ok (.aload_n 0, 1) := by decide +kernel
theorem dX6_rateOfGate_14 : decode cX6_rateOfGate 14 = .ok (.iload_n 1, 1) := by decide +kernel
theorem dX6_rateOfGate_15 : decode cX6_rateOfGate 15 = .ok (.invokevirtual 181, 3) := by decide +kernel
theorem dX6_rateOfGate_18 : decode cX6_rateOfGate 18 = .ok (.imul, 1) := by decide +kernel
theorem dX6_rateOfGate_19 : decode cX6_rateOfGate 19 = .ok (.ireturn, 1) := by decide +kernel
theorem dX6_rateOfFinial_0 : decode cX6_rateOfFinial 0 = .ok (.aload_n 0, 1) := by decide +kernel
theorem dX6_rateOfFinial_1 : decode cX6_rateOfFinial 1 = .ok (.dup, 1) := by decide +kernel
theorem dX6_rateOfFinial_2 : decode cX6_rateOfFinial 2 = .ok (.getfield 57, 3) := by decide +kernel
theorem dX6_rateOfFinial_5 : decode cX6_rateOfFinial 5 = .ok (.ldc2_w 231, 3) := by decide +kernel
theorem dX6_rateOfFinial_8 : decode cX6_rateOfFinial 8 = .ok (.ladd, 1) := by decide +kernel
theorem dX6_rateOfFinial_9 : decode cX6_rateOfFinial 9 = .ok (.putfield 57, 3) := by decide +kernel
theorem dX6_rateOfFinial_12 : decode cX6_rateOfFinial 12 = .ok (.aload_n 0, 1) := by decide +kernel
theorem dX6_rateOfFinial_13 : decode cX6_rateOfFinial 13 = .ok (.iload_n 1, 1) := by decide +kernel
theorem dX6_rateOfFinial_14 : decode cX6_rateOfFinial 14 = .ok (.invokevirtual 184, 3) := by decide +kernel
theorem dX6_rateOfFinial_17 : decode cX6_rateOfFinial 17 = .ok (.iload_n 1, 1) := by decide +kernel
theorem dX6_rateOfFinial_18 : decode cX6_rateOfFinial 18 = .ok (.iadd, 1) := by decide +kernel
theorem dX6_rateOfFinial_19 : decode cX6_rateOfFinial 19 = .ok (.ireturn, 1) := by decide +kernel
theorem dX6_rateOfNewOne_0 : decode cX6_rateOfNewOne 0 = .ok (.aload_n 0, 1) := by decide +kernel
theorem dX6_rateOfNewOne_1 : decode cX6_rateOfNewOne 1 = .ok (.dup, 1) := by decide +kernel
theorem dX6_rateOfNewOne_2 : decode cX6_rateOfNewOne 2 = .ok (.getfield 57, 3) := by decide +kernel
theorem dX6_rateOfNewOne_5 : decode cX6_rateOfNewOne 5 = .ok (.ldc2_w 233, 3) := by decide +kernel
theorem dX6_rateOfNewOne_8 : decode cX6_rateOfNewOne 8 = .ok (.ladd, 1) := by decide +kernel
theorem dX6_rateOfNewOne_9 : decode cX6_rateOfNewOne 9 = .ok (.putfield 57, 3) := by decide +kernel
theorem dX6_rateOfNewOne_12 : decode cX6_rateOfNewOne 12 = .ok (.aload_n 0, 1) := by decide +kernel
theorem dX6_rateOfNewOne_13 : decode cX6_rateOfNewOne 13 = .ok (.iload_n 1, 1) := by decide +kernel
theorem dX6_rateOfNewOne_14 : decode cX6_rateOfNewOne 14 = .ok (.invokevirtual 178, 3) := by decide +kernel
theorem dX6_rateOfNewOne_17 : decode cX6_rateOfNewOne 17 = .ok (.aload_n 0, 1) := by decide +kernel
theorem dX6_rateOfNewOne_18 : decode cX6_rateOfNewOne 18 = .ok (.iload_n 1, 1) := by decide +kernel
theorem dX6_rateOfNewOne_19 : decode cX6_rateOfNewOne 19 = .ok (.bipush 9, 2) := by decide +kernel
theorem dX6_rateOfNewOne_21 : decode cX6_rateOfNewOne 21 = .ok (.invokevirtual 135, 3) := by decide +kernel
theorem dX6_rateOfNewOne_24 : decode cX6_rateOfNewOne 24 = .ok (.iadd, 1) := by decide +kernel
theorem dX6_rateOfNewOne_25 : decode cX6_rateOfNewOne 25 = .ok (.ireturn, 1) := by decide +kernel
theorem dX7_init_0 : decode cX7_init 0 = .ok (.aload_n 0, 1) := by decide +kernel
theorem dX7_init_1 : decode cX7_init 1 = .ok (.invokespecial 1, 3) := by decide +kernel
theorem dX7_init_4 : decode cX7_init 4 = .ok (.aload_n 0, 1) := by decide +kernel
theorem dX7_init_5 : decode cX7_init 5 = .ok (.sipush 300, 3) := by decide +kernel
theorem dX7_init_8 : decode cX7_init 8 = .ok (.newarray .int, 2) := by decide +kernel
theorem dX7_init_10 : decode cX7_init 10 = .ok (.putfield 7, 3) := by decide +kernel
theorem dX7_init_13 : decode cX7_init 13 = .ok (.aload_n 0, 1) := by decide +kernel
theorem dX7_init_14 : decode cX7_init 14 = .ok (.bipush 47, 2) := by decide +kernel
theorem dX7_init_16 : decode cX7_init 16 = .ok (.newarray .int, 2) := by decide +kernel
theorem dX7_init_18 : decode cX7_init 18 = .ok (.putfield 13, 3) := by decide +kernel
theorem dX7_init_21 : decode cX7_init 21 = .ok (.aload_n 0, 1) := by decide +kernel
theorem dX7_init_22 : decode cX7_init 22 = .ok (.bipush 47, 2) := by decide +kernel
theorem dX7_init_24 : decode cX7_init 24 = .ok (.newarray .int, 2) := by decide +kernel
theorem dX7_init_26 : decode cX7_init 26 = .ok (.putfield 16, 3) := by decide +kernel
theorem dX7_init_29 : decode cX7_init 29 = .ok (.aload_n 0, 1) := by decide +kernel
theorem dX7_init_30 : decode cX7_init 30 = .ok (.bipush 55, 2) := by decide +kernel
theorem dX7_init_32 : decode cX7_init 32 = .ok (.newarray .int, 2) := by decide +kernel
theorem dX7_init_34 : decode cX7_init 34 = .ok (.putfield 19, 3) := by decide +kernel
theorem dX7_init_37 : decode cX7_init 37 = .ok (.aload_n 0, 1) := by decide +kernel
theorem dX7_init_38 : decode cX7_init 38 = .ok (.bipush 110, 2) := by decide +kernel
theorem dX7_init_40 : decode cX7_init 40 = .ok (.newarray .int, 2) := by decide +kernel
theorem dX7_init_42 : decode cX7_init 42 = .ok (.putfield 22, 3) := by decide +kernel
theorem dX7_init_45 : decode cX7_init 45 = .ok (.aload_n 0, 1) := by decide +kernel
theorem dX7_init_46 : decode cX7_init 46 = .ok (.iconst 2, 1) := by decide +kernel
theorem dX7_init_47 : decode cX7_init 47 = .ok (.newarray .boolean, 2) := by decide +kernel
theorem dX7_init_49 : decode cX7_init 49 = .ok (.putfield 25, 3) := by decide +kernel
theorem dX7_init_52 : decode cX7_init 52 = .ok (.aload_n 0, 1) := by decide +kernel
theorem dX7_init_53 : decode cX7_init 53 = .ok (.bipush 6, 2) := by decide +kernel
theorem dX7_init_55 : decode cX7_init 55 = .ok (.newarray .int, 2) := by decide +kernel
theorem dX7_init_57 : decode cX7_init 57 = .ok (.putfield 29, 3) := by decide +kernel
theorem dX7_init_60 : decode cX7_init 60 = .ok (.aload_n 0, 1) := by decide +kernel
theorem dX7_init_61 : decode cX7_init 61 = .ok (.bipush 60, 2) := by decide +kernel
theorem dX7_init_63 : decode cX7_init 63 = .ok (.newarray .int, 2) := by decide +kernel
theorem dX7_init_65 : decode cX7_init 65 = .ok (.putfield 32, 3) := by decide +kernel
theorem dX7_init_68 : decode cX7_init 68 = .ok (.aload_n 0, 1) := by decide +kernel
theorem dX7_init_69 : decode cX7_init 69 = .ok (.bipush 6, 2) := by decide +kernel
theorem dX7_init_71 : decode cX7_init 71 = .ok (.newarray .int, 2) := by decide +kernel
theorem dX7_init_73 : decode cX7_init 73 = .ok (.putfield 35, 3) := by decide +kernel
theorem dX7_init_76 : decode cX7_init 76 = .ok (.aload_n 0, 1) := by decide +kernel
theorem dX7_init_77 : decode cX7_init 77 = .ok (.sipush 2400, 3) := by decide +kernel
theorem dX7_init_80 : decode cX7_init 80 = .ok (.newarray .int, 2) := by decide +kernel
theorem dX7_init_82 : decode cX7_init 82 = .ok (.putfield 38, 3) := by decide +kernel
theorem dX7_init_85 : decode cX7_init 85 = .ok (.aload_n 0, 1) := by decide +kernel
theorem dX7_init_86 : decode cX7_init 86 = .ok (.bipush 6, 2) := by decide +kernel
theorem dX7_init_88 : decode cX7_init 88 = .ok (.newarray .int, 2) := by decide +kernel
theorem dX7_init_90 : decode cX7_init 90 = .ok (.putfield 41, 3) := by decide +kernel
theorem dX7_init_93 : decode cX7_init 93 = .ok (.aload_n 0, 1) := by decide +kernel
theorem dX7_init_94 : decode cX7_init 94 = .ok (.bipush 6, 2) := by decide +kernel
theorem dX7_init_96 : decode cX7_init 96 = .ok (.newarray .int, 2) := by decide +kernel
theorem dX7_init_98 : decode cX7_init 98 = .ok (.putfield 44, 3) := by decide +kernel
theorem dX7_init_101 : decode cX7_init 101 = .ok (.aload_n 0, 1) := by decide +kernel
theorem dX7_init_102 : decode cX7_init 102 = .ok (.invokevirtual 47, 3) := by decide +kernel
theorem dX7_init_105 : decode cX7_init 105 = .ok (.pop, 1) := by decide +kernel
theorem dX7_init_106 : decode cX7_init 106 = .ok (.aload_n 0, 1) := by decide +kernel
theorem dX7_init_107 : decode cX7_init 107 = .ok (.invokevirtual 51, 3) := by decide +kernel
theorem dX7_init_110 : decode cX7_init 110 = .ok (.return_, 1) := by decide +kernel
theorem dX7_in_0 : decode cX7_in 0 = .ok (.iload_n 0, 1) := by decide +kernel
theorem dX7_in_1 : decode cX7_in 1 = .ok (.iload_n 1, 1) := by decide +kernel
theorem dX7_in_2 : decode cX7_in 2 = .ok (.if_icmp .lt 12, 3) := by decide +kernel
theorem dX7_in_5 : decode cX7_in 5 = .ok (.iload_n 0, 1) := by decide +kernel
theorem dX7_in_6 : decode cX7_in 6 = .ok (.iload_n 2, 1) := by decide +kernel
theorem dX7_in_7 : decode cX7_in 7 = .ok (.if_icmp .gt 7, 3) := by decide +kernel
theorem dX7_in_10 : decode cX7_in 10 = .ok (.iconst 1, 1) := by decide +kernel
theorem dX7_in_11 : decode cX7_in 11 = .ok (.goto 4, 3) := by decide +kernel
theorem dX7_in_14 : decode cX7_in 14 = .ok (.iconst 0, 1) := by decide +kernel
theorem dX7_in_15 : decode cX7_in 15 = .ok (.ireturn, 1) := by decide +kernel
theorem dX7_isBar_0 : decode cX7_isBar 0 = .ok (.iload_n 1, 1) := by decide +kernel
theorem dX7_isBar_1 : decode cX7_isBar 1 = .ok (.iconst 0, 1) := by decide +kernel
theorem dX7_isBar_2 : decode cX7_isBar 2 = .ok (.aload_n 0, 1) := by decide +kernel
theorem dX7_isBar_3 : decode cX7_isBar 3 = .ok (.getfield 13, 3) := by decide +kernel
theorem dX7_isBar_6 : decode cX7_isBar 6 = .ok (.iconst 0, 1) := by decide +kernel
theorem dX7_isBar_7 : decode cX7_isBar 7 = .ok (.iaload, 1) := by decide +kernel
theorem dX7_isBar_8 : decode cX7_isBar 8 = .ok (.iconst 1, 1) := by decide +kernel
theorem dX7_isBar_9 : decode cX7_isBar 9 = .ok (.isub, 1) := by decide +kernel
theorem dX7_isBar_10 : decode cX7_isBar 10 = .ok (.invokestatic 54, 3) := by decide +kernel
theorem dX7_isBar_13 : decode cX7_isBar 13 = .ok (.ireturn, 1) := by decide +kernel
theorem dX7_isPerson_0 : decode cX7_isPerson 0 = .ok (.iload_n 1, 1) := by decide +kernel
theorem dX7_isPerson_1 : decode cX7_isPerson 1 = .ok (.iconst 0, 1) := by decide +kernel
theorem dX7_isPerson_2 : decode cX7_isPerson 2 = .ok (.aload_n 0, 1) := by decide +kernel
theorem dX7_isPerson_3 : decode cX7_isPerson 3 = .ok (.getfield 13, 3) := by decide +kernel
theorem dX7_isPerson_6 : decode cX7_isPerson 6 = .ok (.iconst 1, 1) := by decide +kernel
theorem dX7_isPerson_7 : decode cX7_isPerson 7 = .ok (.iaload, 1) := by decide +kernel
theorem dX7_isPerson_8 : decode cX7_isPerson 8 = .ok (.iconst 1, 1) := by decide +kernel
theorem dX7_isPerson_9 : decode cX7_isPerson 9 = .ok (.isub, 1) := by decide +kernel
theorem dX7_isPerson_10 : decode cX7_isPerson 10 = .ok (.invokestatic 54, 3) := by decide +kernel
theorem dX7_isPerson_13 : decode cX7_isPerson 13 = .ok (.ireturn, 1) := by decide +kernel
theorem dX7_type_0 : decode cX7_type 0 = .ok (.iload_n 3, 1) := by decide +kernel
theorem dX7_type_1 : decode cX7_type 1 = .ok (.iconst 1, 1) := by decide +kernel
theorem dX7_type_2 : decode cX7_type 2 = .ok (.bipush 8, 2) := by decide +kernel
theorem dX7_type_4 : decode cX7_type 4 = .ok (.invokestatic 54, 3) := by decide +kernel
theorem dX7_type_7 : decode cX7_type 7 = .ok (.ifCond .ne 5, 3) := by decide +kernel
theorem dX7_type_10 : decode cX7_type 10 = .ok (.iconst (-1), 1) := by decide +kernel
theorem dX7_type_11 : decode cX7_type 11 = .ok (.ireturn, 1) := by decide +kernel
theorem dX7_type_12 : decode cX7_type 12 = .ok (.aload_n 0, 1) := by decide +kernel
theorem dX7_type_13 : decode cX7_type 13 = .ok (.getfield 58, 3) := by decide +kernel
theorem dX7_type_16 : decode cX7_type 16 = .ok (.iload_n 3, 1) := by decide +kernel
theorem dX7_type_17 : decode cX7_type 17 = .ok (.iadd, 1) := by decide +kernel
theorem dX7_type_18 : decode cX7_type 18 = .ok (.sipush 300, 3) := by decide +kernel
theorem dX7_type_21 : decode cX7_type 21 = .ok (.if_icmp .le 6, 3) := by decide +kernel
theorem dX7_type_24 : decode cX7_type 24 = .ok (.bipush (-3), 2) := by decide +kernel
theorem dX7_type_26 : decode cX7_type 26 = .ok (.ireturn, 1) := by decide +kernel
theorem dX7_type_27 : decode cX7_type 27 = .ok (.iload_n 3, 1) := by decide +kernel
theorem dX7_type_28 : decode cX7_type 28 = .ok (.iconst 1, 1) := by decide +kernel
theorem dX7_type_29 : decode cX7_type 29 = .ok (.isub, 1) := by decide +kernel
theorem dX7_type_30 : decode cX7_type 30 = .ok (.istore 4, 2) := by decide +kernel
theorem dX7_type_32 : decode cX7_type 32 = .ok (.iload 4, 2) := by decide +kernel
theorem dX7_type_34 : decode cX7_type 34 = .ok (.ifCond .lt 40, 3) := by decide +kernel
theorem dX7_type_37 : decode cX7_type 37 = .ok (.aload_n 0, 1) := by decide +kernel
theorem dX7_type_38 : decode cX7_type 38 = .ok (.getfield 7, 3) := by decide +kernel
theorem dX7_type_41 : decode cX7_type 41 = .ok (.aload_n 0, 1) := by decide +kernel
theorem dX7_type_42 : decode cX7_type 42 = .ok (.getfield 58, 3) := by decide +kernel
theorem dX7_type_45 : decode cX7_type 45 = .ok (.lload_n 1, 1) := by decide +kernel
theorem dX7_type_46 : decode cX7_type 46 = .ok (.bipush 8, 2) := by decide +kernel
theorem dX7_type_48 : decode cX7_type 48 = .ok (.iload 4, 2) := by decide +kernel
theorem dX7_type_50 : decode cX7_type 50 = .ok (.imul, 1) := by decide +kernel
theorem dX7_type_51 : decode cX7_type 51 = .ok (.lshr, 1) := by decide +kernel
theorem dX7_type_52 : decode cX7_type 52 = .ok (.ldc2_w 62, 3) := by decide +kernel
theorem dX7_type_55 : decode cX7_type 55 = .ok (.land, 1) := by decide +kernel
theorem dX7_type_56 : decode cX7_type 56 = .ok (.l2i, 1) := by decide +kernel
theorem dX7_type_57 : decode cX7_type 57 = .ok (.iastore, 1) := by decide +kernel
theorem dX7_type_58 : decode cX7_type 58 = .ok (.aload_n 0, 1) := by decide +kernel
theorem dX7_type_59 : decode cX7_type 59 = .ok (.dup, 1) := by decide +kernel
theorem dX7_type_60 : decode cX7_type 60 = .ok (.getfield 58, 3) := by decide +kernel
theorem dX7_type_63 : decode cX7_type 63 = .ok (.iconst 1, 1) := by decide +kernel
theorem dX7_type_64 : decode cX7_type 64 = .ok (.iadd, 1) := by decide +kernel
theorem dX7_type_65 : decode cX7_type 65 = .ok (.putfield 58, 3) := by decide +kernel
theorem dX7_type_68 : decode cX7_type 68 = .ok (.iinc 4 (-1), 3) := by decide +kernel
theorem dX7_type_71 : decode cX7_type 71 = .ok (.goto (-39), 3) := by decide +kernel
theorem dX7_type_74 : decode cX7_type 74 = .ok (.aload_n 0, 1) := by decide +kernel
theorem dX7_type_75 : decode cX7_type 75 = .ok (.getfield 58, 3) := by decide +kernel
theorem dX7_type_78 : decode cX7_type 78 = .ok (.ireturn, 1) := by decide +kernel
theorem dX7_clear_0 : decode cX7_clear 0 = .ok (.aload_n 0, 1) := by decide +kernel
theorem dX7_clear_1 : decode cX7_clear 1 = .ok (.getfield 58, 3) := by decide +kernel
theorem dX7_clear_4 : decode cX7_clear 4 = .ok (.istore_n 1, 1) := by decide +kernel
theorem dX7_clear_5 : decode cX7_clear 5 = .ok (.aload_n 0, 1) := by decide +kernel
theorem dX7_clear_6 : decode cX7_clear 6 = .ok (.iconst 0, 1) := by decide +kernel
theorem dX7_clear_7 : decode cX7_clear 7 = .ok (.putfield 58, 3) := by decide +kernel
theorem dX7_clear_10 : decode cX7_clear 10 = .ok (.iload_n 1, 1) := by decide +kernel
theorem dX7_clear_11 : decode cX7_clear 11 = .ok (.ireturn, 1) := by decide +kernel
theorem dX7_byteAt_0 : decode cX7_byteAt 0 = .ok (.iload_n 1, 1) := by decide +kernel
theorem dX7_byteAt_1 : decode cX7_byteAt 1 = .ok (.aload_n 0, 1) := by decide +kernel
theorem dX7_byteAt_2 : decode cX7_byteAt 2 = .ok (.getfield 58, 3) := by decide +kernel
theorem dX7_byteAt_5 : decode cX7_byteAt 5 = .ok (.if_icmp .ge 12, 3) := by decide +kernel
theorem dX7_byteAt_8 : decode cX7_byteAt 8 = .ok (.aload_n 0, 1) := by decide +kernel
theorem dX7_byteAt_9 : decode cX7_byteAt 9 = .ok (.getfield 7, 3) := by decide +kernel
theorem dX7_byteAt_12 : decode cX7_byteAt 12 = .ok (.iload_n 1, 1) := by decide +kernel
theorem dX7_byteAt_13 : decode cX7_byteAt 13 = .ok (.iaload, 1) := by decide +kernel
theorem dX7_byteAt_14 : decode cX7_byteAt 14 = .ok (.goto 4, 3) := by decide +kernel
theorem dX7_byteAt_17 : decode cX7_byteAt 17 = .ok (.iconst (-1), 1) := by decide +kernel
theorem dX7_byteAt_18 : decode cX7_byteAt 18 = .ok (.ireturn, 1) := by decide +kernel
theorem dX7_sortOf_0 : decode cX7_sortOf 0 = .ok (.iload_n 0, 1) := by decide +kernel
theorem dX7_sortOf_1 : decode cX7_sortOf 1 = .ok (.ifCond .ge 7, 3) := by decide +kernel
theorem dX7_sortOf_4 : decode cX7_sortOf 4 = .ok (.iconst 0, 1) := by decide +kernel
theorem dX7_sortOf_5 : decode cX7_sortOf 5 = .ok (.goto 44, 3) := by decide +kernel
theorem dX7_sortOf_8 : decode cX7_sortOf 8 = .ok (.iload_n 0, 1) := by decide +kernel
theorem dX7_sortOf_9 : decode cX7_sortOf 9 = .ok (.bipush 97, 2) := by decide +kernel
theorem dX7_sortOf_11 : decode cX7_sortOf 11 = .ok (.bipush 122, 2) := by decide +kernel
theorem dX7_sortOf_13 : decode cX7_sortOf 13 = .ok (.invokestatic 54, 3) := by decide +kernel
theorem dX7_sortOf_16 : decode cX7_sortOf 16 = .ok (.ifCond .eq 7, 3) := by decide +kernel
theorem dX7_sortOf_19 : decode cX7_sortOf 19 = .ok (.iconst 1, 1) := by decide +kernel
theorem dX7_sortOf_20 : decode cX7_sortOf 20 = .ok (.goto 29, 3) := by decide +kernel
theorem dX7_sortOf_23 : decode cX7_sortOf 23 = .ok (.iload_n 0, 1) := by decide +kernel
theorem dX7_sortOf_24 : decode cX7_sortOf 24 = .ok (.bipush 48, 2) := by decide +kernel
theorem dX7_sortOf_26 : decode cX7_sortOf 26 = .ok (.bipush 57, 2) := by decide +kernel
theorem dX7_sortOf_28 : decode cX7_sortOf 28 = .ok (.invokestatic 54, 3) := by decide +kernel
theorem dX7_sortOf_31 : decode cX7_sortOf 31 = .ok (.ifCond .eq 7, 3) := by decide +kernel
theorem dX7_sortOf_34 : decode cX7_sortOf 34 = .ok (.iconst 2, 1) := by decide +kernel
theorem dX7_sortOf_35 : decode cX7_sortOf 35 = .ok (.goto 14, 3) := by decide +kernel
theorem dX7_sortOf_38 : decode cX7_sortOf 38 = .ok (.iload_n 0, 1) := by decide +kernel
theorem dX7_sortOf_39 : decode cX7_sortOf 39 = .ok (.bipush 59, 2) := by decide +kernel
theorem dX7_sortOf_41 : decode cX7_sortOf 41 = .ok (.if_icmp .ne 7, 3) := by decide +kernel
theorem dX7_sortOf_44 : decode cX7_sortOf 44 = .ok (.iconst 3, 1) := by decide +kernel
theorem dX7_sortOf_45 : decode cX7_sortOf 45 = .ok (.goto 4, 3) := by decide +kernel
theorem dX7_sortOf_48 : decode cX7_sortOf 48 = .ok (.iconst 4, 1) := by decide +kernel
theorem dX7_sortOf_49 : decode cX7_sortOf 49 = .ok (.ireturn, 1) := by decide +kernel
theorem dX7_token_0 : decode cX7_token 0 = .ok (.aload_n 0, 1) := by decide +kernel
theorem dX7_token_1 : decode cX7_token 1 = .ok (.aload_n 0, 1) := by decide +kernel
theorem dX7_token_2 : decode cX7_token 2 = .ok (.getfield 64, 3) := by decide +kernel
theorem dX7_token_5 : decode cX7_token 5 = .ok (.invokevirtual 67, 3) := by decide +kernel
theorem dX7_token_8 : decode cX7_token 8 = .ok (.bipush 32, 2) := by decide +kernel
theorem dX7_token_10 : decode cX7_token 10 = .ok (.if_icmp .ne 16, 3) := by decide +kernel
theorem dX7_token_13 : decode cX7_token 13 = .ok (.aload_n 0, 1) := by decide +kernel
theorem dX7_token_14 : decode cX7_token 14 = .ok (.dup, 1) := by decide +kernel
theorem dX7_token_15 : decode cX7_token 15 = .ok (.getfield 64, 3) := by decide +kernel
theorem dX7_token_18 : decode cX7_token 18 = .ok (.iconst 1, 1) := by decide +kernel
theorem dX7_token_19 : decode cX7_token 19 = .ok (.iadd, 1) := by decide +kernel
theorem dX7_token_20 : decode cX7_token 20 = .ok (.putfield 64, 3) := by decide +kernel
theorem dX7_token_23 : decode cX7_token 23 = .ok (.goto (-23), 3) := by decide +kernel
theorem dX7_token_26 : decode cX7_token 26 = .ok (.aload_n 0, 1) := by decide +kernel
theorem dX7_token_27 : decode cX7_token 27 = .ok (.aload_n 0, 1) := by decide +kernel
theorem dX7_token_28 : decode cX7_token 28 = .ok (.getfield 64, 3) := by decide +kernel
theorem dX7_token_31 : decode cX7_token 31 = .ok (.putfield 71, 3) := by decide +kernel
theorem dX7_token_34 : decode cX7_token 34 = .ok (.aload_n 0, 1) := by decide +kernel
theorem dX7_token_35 : decode cX7_token 35 = .ok (.aload_n 0, 1) := by decide +kernel
theorem dX7_token_36 : decode cX7_token 36 = .ok (.aload_n 0, 1) := by decide +kernel
theorem dX7_token_37 : decode cX7_token 37 = .ok (.getfield 64, 3) := by decide +kernel
theorem dX7_token_40 : decode cX7_token 40 = .ok (.invokevirtual 67, 3) := by decide +kernel
theorem dX7_token_43 : decode cX7_token 43 = .ok (.invokestatic 74, 3) := by decide +kernel
theorem dX7_token_46 : decode cX7_token 46 = .ok (.putfield 77, 3) := by decide +kernel
theorem dX7_token_49 : decode cX7_token 49 = .ok (.aload_n 0, 1) := by decide +kernel
theorem dX7_token_50 : decode cX7_token 50 = .ok (.iconst 0, 1) := by decide +kernel
theorem dX7_token_51 : decode cX7_token 51 = .ok (.putfield 80, 3) := by decide +kernel
theorem dX7_token_54 : decode cX7_token 54 = .ok (.aload_n 0, 1) := by decide +kernel
theorem dX7_token_55 : decode cX7_token 55 = .ok (.getfield 80, 3) := by decide +kernel
theorem dX7_token_58 : decode cX7_token 58 = .ok (.ifCond .ne 10, 3) := by decide +kernel
theorem dX7_token_61 : decode cX7_token 61 = .ok (.aload_n 0, 1) := by decide +kernel
theorem dX7_token_62 : decode cX7_token 62 = .ok (.getfield 77, 3) := by decide +kernel
theorem dX7_token_65 : decode cX7_token 65 = .ok (.ifCond .ne 37, 3) := by decide +kernel
theorem dX7_token_68 : decode cX7_token 68 = .ok (.aload_n 0, 1) := by decide +kernel
theorem dX7_token_69 : decode cX7_token 69 = .ok (.getfield 77, 3) := by decide +kernel
theorem dX7_token_72 : decode cX7_token 72 = .ok (.iconst 1, 1) := by decide +kernel
theorem dX7_token_73 : decode cX7_token 73 = .ok (.if_icmp .eq 11, 3) := by decide +kernel
theorem dX7_token_76 : decode cX7_token 76 = .ok (.aload_n 0, 1) := by decide +kernel
theorem dX7_token_77 : decode cX7_token 77 = .ok (.getfield 77, 3) := by decide +kernel
theorem dX7_token_80 : decode cX7_token 80 = .ok (.iconst 2, 1) := by decide +kernel
theorem dX7_token_81 : decode cX7_token 81 = .ok (.if_icmp .ne 44, 3) := by decide +kernel
theorem dX7_token_84 : decode cX7_token 84 = .ok (.aload_n 0, 1) := by decide +kernel
theorem dX7_token_85 : decode cX7_token 85 = .ok (.aload_n 0, 1) := by decide +kernel
theorem dX7_token_86 : decode cX7_token 86 = .ok (.getfield 64, 3) := by decide +kernel
theorem dX7_token_89 : decode cX7_token 89 = .ok (.invokevirtual 67, 3) := by decide +kernel
theorem dX7_token_92 : decode cX7_token 92 = .ok (.invokestatic 74, 3) := by decide +kernel
theorem dX7_token_95 : decode cX7_token 95 = .ok (.aload_n 0, 1) := by decide +kernel
theorem dX7_token_96 : decode cX7_token 96 = .ok (.getfield 77, 3) := by decide +kernel
theorem dX7_token_99 : decode cX7_token 99 = .ok (.if_icmp .ne 26, 3) := by decide +kernel
theorem dX7_token_102 : decode cX7_token 102 = .ok (.aload_n 0, 1) := by decide +kernel
theorem dX7_token_103 : decode cX7_token 103 = .ok (.dup, 1) := by decide +kernel
theorem dX7_token_104 : decode cX7_token 104 = .ok (.getfield 64, 3) := by decide +kernel
theorem dX7_token_107 : decode cX7_token 107 = .ok (.iconst 1, 1) := by decide +kernel
theorem dX7_token_108 : decode cX7_token 108 = .ok (.iadd, 1) := by decide +kernel
theorem dX7_token_109 : decode cX7_token 109 = .ok (.putfield 64, 3) := by decide +kernel
theorem dX7_token_112 : decode cX7_token 112 = .ok (.aload_n 0, 1) := by decide +kernel
theorem dX7_token_113 : decode cX7_token 113 = .ok (.dup, 1) := by decide +kernel
theorem dX7_token_114 : decode cX7_token 114 = .ok (.getfield 80, 3) := by decide +kernel
theorem dX7_token_117 : decode cX7_token 117 = .ok (.iconst 1, 1) := by decide +kernel
theorem dX7_token_118 : decode cX7_token 118 = .ok (.iadd, 1) := by decide +kernel
theorem dX7_token_119 : decode cX7_token 119 = .ok (.putfield 80, 3) := by decide +kernel
theorem dX7_token_122 : decode cX7_token 122 = .ok (.goto (-68), 3) := by decide +kernel
theorem dX7_token_125 : decode cX7_token 125 = .ok (.return_, 1) := by decide +kernel
theorem dX7_verb_0 : decode cX7_verb 0 = .ok (.lconst 0, 1) := by decide +kernel
theorem dX7_verb_1 : decode cX7_verb 1 = .ok (.lstore_n 1, 1) := by decide +kernel
theorem dX7_verb_2 : decode cX7_verb 2 = .ok (.iconst 0, 1) := by decide +kernel
theorem dX7_verb_3 : decode cX7_verb 3 = .ok (.istore_n 3, 1) := by decide +kernel
theorem dX7_verb_4 : decode cX7_verb 4 = .ok (.iload_n 3, 1) := by decide +kernel
theorem dX7_verb_5 : decode cX7_verb 5 = .ok (.aload_n 0, 1) := by decide +kernel
theorem dX7_verb_6 : decode cX7_verb 6 = .ok (.getfield 80, 3) := by decide +kernel
theorem dX7_verb_9 : decode cX7_verb 9 = .ok (.if_icmp .ge 44, 3) := by decide +kernel
theorem dX7_verb_12 : decode cX7_verb 12 = .ok (.aload_n 0, 1) := by decide +kernel
theorem dX7_verb_13 : decode cX7_verb 13 = .ok (.getfield 80, 3) := by decide +kernel
theorem dX7_verb_16 : decode cX7_verb 16 = .ok (.bipush 7, 2) := by decide +kernel
theorem dX7_verb_18 : decode cX7_verb 18 = .ok (.if_icmp .ge 35, 3) := by decide +kernel
theorem dX7_verb_21 : decode cX7_verb 21 = .ok (.aload_n 0, 1) := by decide +kernel
theorem dX7_verb_22 : decode cX7_verb 22 = .ok (.getfield 77, 3) := by decide +kernel
theorem dX7_verb_25 : decode cX7_verb 25 = .ok (.iconst 1, 1) := by decide +kernel
theorem dX7_verb_26 : decode cX7_verb 26 = .ok (.if_icmp .ne 27, 3) := by decide +kernel
theorem dX7_verb_29 : decode cX7_verb 29 = .ok (.ldc2_w 83, 3) := by decide +kernel
theorem dX7_verb_32 : decode cX7_verb 32 = .ok (.lload_n 1, 1) := by decide +kernel
theorem dX7_verb_33 : decode cX7_verb 33 = .ok (.lmul, 1) := by decide +kernel
theorem dX7_verb_34 : decode cX7_verb 34 = .ok (.aload_n 0, 1) := by decide +kernel
theorem dX7_verb_35 : decode cX7_verb 35 = .ok (.aload_n 0, 1) := by decide +kernel
theorem dX7_verb_36 : decode cX7_verb 36 = .ok (.getfield 71, 3) := by decide +kernel
theorem dX7_verb_39 : decode cX7_verb 39 = .ok (.iload_n 3, 1) := by decide +kernel
theorem dX7_verb_40 : decode cX7_verb 40 = .ok (.iadd, 1) := by decide +kernel
theorem dX7_verb_41 : decode cX7_verb 41 = .ok (.invokevirtual 67, 3) := by decide +kernel
theorem dX7_verb_44 : decode cX7_verb 44 = .ok (.i2l, 1) := by decide +kernel
theorem dX7_verb_45 : decode cX7_verb 45 = .ok (.ladd, 1) := by decide +kernel
theorem dX7_verb_46 : decode cX7_verb 46 = .ok (.lstore_n 1, 1) := by decide +kernel
theorem dX7_verb_47 : decode cX7_verb 47 = .ok (.iinc 3 1, 3) := by decide +kernel
theorem dX7_verb_50 : decode cX7_verb 50 = .ok (.goto (-46), 3) := by decide +kernel
theorem dX7_verb_53 : decode cX7_verb 53 = .ok (.lload_n 1, 1) := by decide +kernel
theorem dX7_verb_54 : decode cX7_verb 54 = .ok (.ldc2_w 85, 3) := by decide +kernel
theorem dX7_verb_57 : decode cX7_verb 57 = .ok (.lcmp, 1) := by decide +kernel
theorem dX7_verb_58 : decode cX7_verb 58 = .ok (.ifCond .ne 7, 3) := by decide +kernel
theorem dX7_verb_61 : decode cX7_verb 61 = .ok (.iconst 0, 1) := by decide +kernel
theorem dX7_verb_62 : decode cX7_verb 62 = .ok (.goto 41, 3) := by decide +kernel
theorem dX7_verb_65 : decode cX7_verb 65 = .ok (.lload_n 1, 1) := by decide +kernel
theorem dX7_verb_66 : decode cX7_verb 66 = .ok (.ldc2_w 87, 3) := by decide +kernel
theorem dX7_verb_69 : decode cX7_verb 69 = .ok (.lcmp, 1) := by decide +kernel
theorem dX7_verb_70 : decode cX7_verb 70 = .ok (.ifCond .ne 7, 3) := by decide +kernel
theorem dX7_verb_73 : decode cX7_verb 73 = .ok (.iconst 1, 1) := by decide +kernel
theorem dX7_verb_74 : decode cX7_verb 74 = .ok (.goto 29, 3) := by decide +kernel
theorem dX7_verb_77 : decode cX7_verb 77 = .ok (.lload_n 1, 1) := by decide +kernel
theorem dX7_verb_78 : decode cX7_verb 78 = .ok (.ldc2_w 89, 3) := by decide +kernel
theorem dX7_verb_81 : decode cX7_verb 81 = .ok (.lcmp, 1) := by decide +kernel
theorem dX7_verb_82 : decode cX7_verb 82 = .ok (.ifCond .ne 7, 3) := by decide +kernel
theorem dX7_verb_85 : decode cX7_verb 85 = .ok (.iconst 2, 1) := by decide +kernel
theorem dX7_verb_86 : decode cX7_verb 86 = .ok (.goto 17, 3) := by decide +kernel
theorem dX7_verb_89 : decode cX7_verb 89 = .ok (.lload_n 1, 1) := by decide +kernel
theorem dX7_verb_90 : decode cX7_verb 90 = .ok (.ldc2_w 91, 3) := by decide +kernel
theorem dX7_verb_93 : decode cX7_verb 93 = .ok (.lcmp, 1) := by decide +kernel
theorem dX7_verb_94 : decode cX7_verb 94 = .ok (.ifCond .ne 7, 3) := by decide +kernel
theorem dX7_verb_97 : decode cX7_verb 97 = .ok (.iconst 3, 1) := by decide +kernel
theorem dX7_verb_98 : decode cX7_verb 98 = .ok (.goto 5, 3) := by decide +kernel
theorem dX7_verb_101 : decode cX7_verb 101 = .ok (.bipush (-9), 2) := by decide +kernel
theorem dX7_verb_103 : decode cX7_verb 103 = .ok (.ireturn, 1) := by decide +kernel
theorem dX7_figure_0 : decode cX7_figure 0 = .ok (.aload_n 0, 1) := by decide +kernel
theorem dX7_figure_1 : decode cX7_figure 1 = .ok (.invokevirtual 93, 3) := by decide +kernel
theorem dX7_figure_4 : decode cX7_figure 4 = .ok (.aload_n 0, 1) := by decide +kernel
theorem dX7_figure_5 : decode cX7_figure 5 = .ok (.aload_n 0, 1) := by decide +kernel
theorem dX7_figure_6 : decode cX7_figure 6 = .ok (.getfield 71, 3) := by decide +kernel
theorem dX7_figure_9 : decode cX7_figure 9 = .ok (.invokevirtual 67, 3) := by decide +kernel
theorem dX7_figure_12 : decode cX7_figure 12 = .ok (.bipush 48, 2) := by decide +kernel
theorem dX7_figure_14 : decode cX7_figure 14 = .ok (.isub, 1) := by decide +kernel
theorem dX7_figure_15 : decode cX7_figure 15 = .ok (.istore_n 3, 1) := by decide +kernel
theorem dX7_figure_16 : decode cX7_figure 16 = .ok (.aload_n 0, 1) := by decide +kernel
theorem dX7_figure_17 : decode cX7_figure 17 = .ok (.getfield 77, 3) := by decide +kernel
theorem dX7_figure_20 : decode cX7_figure 20 = .ok (.iconst 2, 1) := by decide +kernel
theorem dX7_figure_21 : decode cX7_figure 21 = .ok (.if_icmp .ne 24, 3) := by decide +kernel
theorem dX7_figure_24 : decode cX7_figure 24 = .ok (.aload_n 0, 1) := by decide +kernel
theorem dX7_figure_25 : decode cX7_figure 25 = .ok (.getfield 80, 3) := by decide +kernel
theorem dX7_figure_28 : decode cX7_figure 28 = .ok (.iconst 1, 1) := by decide +kernel
theorem dX7_figure_29 : decode cX7_figure 29 = .ok (.if_icmp .ne 16, 3) := by decide +kernel
theorem dX7_figure_32 : decode cX7_figure 32 = .ok (.iload_n 3, 1) := by decide +kernel
theorem dX7_figure_33 : decode cX7_figure 33 = .ok (.iload_n 1, 1) := by decide +kernel
theorem dX7_figure_34 : decode cX7_figure 34 = .ok (.iload_n 2, 1) := by decide +kernel
theorem dX7_figure_35 : decode cX7_figure 35 = .ok (.invokestatic 54, 3) := by decide +kernel
theorem dX7_figure_38 : decode cX7_figure 38 = .ok (.ifCond .eq 7, 3) := by decide +kernel
theorem dX7_figure_41 : decode cX7_figure 41 = .ok (.iload_n 3, 1) := by decide +kernel
theorem dX7_figure_42 : decode cX7_figure 42 = .ok (.goto 5, 3) := by decide +kernel
theorem dX7_figure_45 : decode cX7_figure 45 = .ok (.bipush (-9), 2) := by decide +kernel
theorem dX7_figure_47 : decode cX7_figure 47 = .ok (.ireturn, 1) := by decide +kernel
theorem dX7_readsBar_0 : decode cX7_readsBar 0 = .ok (.aload_n 0, 1) := by decide +kernel
theorem dX7_readsBar_1 : decode cX7_readsBar 1 = .ok (.getfield 16, 3) := by decide +kernel
theorem dX7_readsBar_4 : decode cX7_readsBar 4 = .ok (.iconst 0, 1) := by decide +kernel
theorem dX7_readsBar_5 : decode cX7_readsBar 5 = .ok (.iaload, 1) := by decide +kernel
theorem dX7_readsBar_6 : decode cX7_readsBar 6 = .ok (.bipush 6, 2) := by decide +kernel
theorem dX7_readsBar_8 : decode cX7_readsBar 8 = .ok (.if_icmp .ne 8, 3) := by decide +kernel
theorem dX7_readsBar_11 : decode cX7_readsBar 11 = .ok (.bipush (-9), 2) := by decide +kernel
theorem dX7_readsBar_13 : decode cX7_readsBar 13 = .ok (.goto 9, 3) := by decide +kernel
theorem dX7_readsBar_16 : decode cX7_readsBar 16 = .ok (.aload_n 0, 1) := by decide +kernel
theorem dX7_readsBar_17 : decode cX7_readsBar 17 = .ok (.iconst 1, 1) := by decide +kernel
theorem dX7_readsBar_18 : decode cX7_readsBar 18 = .ok (.iconst 3, 1) := by decide +kernel
theorem dX7_readsBar_19 : decode cX7_readsBar 19 = .ok (.invokevirtual 96, 3) := by decide +kernel
theorem dX7_readsBar_22 : decode cX7_readsBar 22 = .ok (.istore_n 1, 1) := by decide +kernel
theorem dX7_readsBar_23 : decode cX7_readsBar 23 = .ok (.iload_n 1, 1) := by decide +kernel
theorem dX7_readsBar_24 : decode cX7_readsBar 24 = .ok (.bipush (-9), 2) := by decide +kernel
theorem dX7_readsBar_26 : decode cX7_readsBar 26 = .ok (.if_icmp .ne 5, 3) := by decide +kernel
theorem dX7_readsBar_29 : decode cX7_readsBar 29 = .ok (.iconst 0, 1) := by decide +kernel
theorem dX7_readsBar_30 : decode cX7_readsBar 30 = .ok (.ireturn, 1) := by decide +kernel
theorem dX7_readsBar_31 : decode cX7_readsBar 31 = .ok (.aload_n 0, 1) := by decide +kernel
theorem dX7_readsBar_32 : decode cX7_readsBar 32 = .ok (.getfield 16, 3) := by decide +kernel
theorem dX7_readsBar_35 : decode cX7_readsBar 35 = .ok (.iconst 4, 1) := by decide +kernel
theorem dX7_readsBar_36 : decode cX7_readsBar 36 = .ok (.aload_n 0, 1) := by decide +kernel
theorem dX7_readsBar_37 : decode cX7_readsBar 37 = .ok (.getfield 16, 3) := by decide +kernel
theorem dX7_readsBar_40 : decode cX7_readsBar 40 = .ok (.iconst 0, 1) := by decide +kernel
theorem dX7_readsBar_41 : decode cX7_readsBar 41 = .ok (.iaload, 1) := by decide +kernel
theorem dX7_readsBar_42 : decode cX7_readsBar 42 = .ok (.iadd, 1) := by decide +kernel
theorem dX7_readsBar_43 : decode cX7_readsBar 43 = .ok (.iload_n 1, 1) := by decide +kernel
theorem dX7_readsBar_44 : decode cX7_readsBar 44 = .ok (.iastore, 1) := by decide +kernel
theorem dX7_readsBar_45 : decode cX7_readsBar 45 = .ok (.aload_n 0, 1) := by decide +kernel
theorem dX7_readsBar_46 : decode cX7_readsBar 46 = .ok (.getfield 16, 3) := by decide +kernel
theorem dX7_readsBar_49 : decode cX7_readsBar 49 = .ok (.iconst 0, 1) := by decide +kernel
theorem dX7_readsBar_50 : decode cX7_readsBar 50 = .ok (.dup2, 1) := by decide +kernel
theorem dX7_readsBar_51 : decode cX7_readsBar 51 = .ok (.iaload, 1) := by decide +kernel
theorem dX7_readsBar_52 : decode cX7_readsBar 52 = .ok (.iconst 1, 1) := by decide +kernel
theorem dX7_readsBar_53 : decode cX7_readsBar 53 = .ok (.iadd, 1) := by decide +kernel
theorem dX7_readsBar_54 : decode cX7_readsBar 54 = .ok (.iastore, 1) := by decide +kernel
theorem dX7_readsBar_55 : decode cX7_readsBar 55 = .ok (.iconst 1, 1) := by decide +kernel
theorem dX7_readsBar_56 : decode cX7_readsBar 56 = .ok (.ireturn, 1) := by decide +kernel
theorem dX7_readsPerson_0 : decode cX7_readsPerson 0 = .ok (.aload_n 0, 1) := by decide +kernel
theorem dX7_readsPerson_1 : decode cX7_readsPerson 1 = .ok (.getfield 16, 3) := by decide +kernel
theorem dX7_readsPerson_4 : decode cX7_readsPerson 4 = .ok (.iconst 1, 1) := by decide +kernel
theorem dX7_readsPerson_5 : decode cX7_readsPerson 5 = .ok (.iaload, 1) := by decide +kernel
theorem dX7_readsPerson_6 : decode cX7_readsPerson 6 = .ok (.iconst 3, 1) := by decide +kernel
theorem dX7_readsPerson_7 : decode cX7_readsPerson 7 = .ok (.if_icmp .ne 8, 3) := by decide +kernel
theorem dX7_readsPerson_10 : decode cX7_readsPerson 10 = .ok (.bipush (-9), 2) := by decide +kernel
theorem dX7_readsPerson_12 : decode cX7_readsPerson 12 = .ok (.goto 10, 3) := by decide +kernel
theorem dX7_readsPerson_15 : decode cX7_readsPerson 15 = .ok (.aload_n 0, 1) := by decide +kernel
theorem dX7_readsPerson_16 : decode cX7_readsPerson 16 = .ok (.iconst 1, 1) := by decide +kernel
theorem dX7_readsPerson_17 : decode cX7_readsPerson 17 = .ok (.bipush 9, 2) := by decide +kernel
theorem dX7_readsPerson_19 : decode cX7_readsPerson 19 = .ok (.invokevirtual 96, 3) := by decide +kernel
theorem dX7_readsPerson_22 : decode cX7_readsPerson 22 = .ok (.istore_n 1, 1) := by decide +kernel
theorem dX7_readsPerson_23 : decode cX7_readsPerson 23 = .ok (.iload_n 1, 1) := by decide +kernel
theorem dX7_readsPerson_24 : decode cX7_readsPerson 24 = .ok (.bipush (-9), 2) := by decide +kernel
theorem dX7_readsPerson_26 : decode cX7_readsPerson 26 = .ok (.if_icmp .ne 5, 3) := by decide +kernel
theorem dX7_readsPerson_29 : decode cX7_readsPerson 29 = .ok (.iconst 0, 1) := by decide +kernel
theorem dX7_readsPerson_30 : decode cX7_readsPerson 30 = .ok (.ireturn, 1) := by decide +kernel
theorem dX7_readsPerson_31 : decode cX7_readsPerson 31 = .ok (.aload_n 0, 1) := by decide +kernel
theorem dX7_readsPerson_32 : decode cX7_readsPerson 32 = .ok (.getfield 16, 3) := by decide +kernel
theorem dX7_readsPerson_35 : decode cX7_readsPerson 35 = .ok (.bipush 10, 2) := by decide +kernel
theorem dX7_readsPerson_37 : decode cX7_readsPerson 37 = .ok (.aload_n 0, 1) := by decide +kernel
theorem dX7_readsPerson_38 : decode cX7_readsPerson 38 = .ok (.getfield 16, 3) := by decide +kernel
theorem dX7_readsPerson_41 : decode cX7_readsPerson 41 = .ok (.iconst 1, 1) := by decide +kernel
theorem dX7_readsPerson_42 : decode cX7_readsPerson 42 = .ok (.iaload, 1) := by decide +kernel
theorem dX7_readsPerson_43 : decode cX7_readsPerson 43 = .ok (.iadd, 1) := by decide +kernel
theorem dX7_readsPerson_44 : decode cX7_readsPerson 44 = .ok (.iload_n 1, 1) := by decide +kernel
theorem dX7_readsPerson_45 : decode cX7_readsPerson 45 = .ok (.iastore, 1) := by decide +kernel
theorem dX7_readsPerson_46 : decode cX7_readsPerson 46 = .ok (.aload_n 0, 1) := by decide +kernel
theorem dX7_readsPerson_47 : decode cX7_readsPerson 47 = .ok (.getfield 16, 3) := by decide +kernel
theorem dX7_readsPerson_50 : decode cX7_readsPerson 50 = .ok (.iconst 1, 1) := by decide +kernel
theorem dX7_readsPerson_51 : decode cX7_readsPerson 51 = .ok (.dup2, 1) := by decide +kernel
theorem dX7_readsPerson_52 : decode cX7_readsPerson 52 = .ok (.iaload, 1) := by decide +kernel
theorem dX7_readsPerson_53 : decode cX7_readsPerson 53 = .ok (.iconst 1, 1) := by decide +kernel
theorem dX7_readsPerson_54 : decode cX7_readsPerson 54 = .ok (.iadd, 1) := by decide +kernel
theorem dX7_readsPerson_55 : decode cX7_readsPerson 55 = .ok (.iastore, 1) := by decide +kernel
theorem dX7_readsPerson_56 : decode cX7_readsPerson 56 = .ok (.iconst 1, 1) := by decide +kernel
theorem dX7_readsPerson_57 : decode cX7_readsPerson 57 = .ok (.ireturn, 1) := by decide +kernel
theorem dX7_readsRain_0 : decode cX7_readsRain 0 = .ok (.aload_n 0, 1) := by decide +kernel
theorem dX7_readsRain_1 : decode cX7_readsRain 1 = .ok (.iconst 0, 1) := by decide +kernel
theorem dX7_readsRain_2 : decode cX7_readsRain 2 = .ok (.bipush 9, 2) := by decide +kernel
theorem dX7_readsRain_4 : decode cX7_readsRain 4 = .ok (.invokevirtual 96, 3) := by decide +kernel
theorem dX7_readsRain_7 : decode cX7_readsRain 7 = .ok (.istore_n 1, 1) := by decide +kernel
theorem dX7_readsRain_8 : decode cX7_readsRain 8 = .ok (.iload_n 1, 1) := by decide +kernel
theorem dX7_readsRain_9 : decode cX7_readsRain 9 = .ok (.bipush (-9), 2) := by decide +kernel
theorem dX7_readsRain_11 : decode cX7_readsRain 11 = .ok (.if_icmp .ne 8, 3) := by decide +kernel
theorem dX7_readsRain_14 : decode cX7_readsRain 14 = .ok (.bipush (-9), 2) := by decide +kernel
theorem dX7_readsRain_16 : decode cX7_readsRain 16 = .ok (.goto 9, 3) := by decide +kernel
theorem dX7_readsRain_19 : decode cX7_readsRain 19 = .ok (.aload_n 0, 1) := by decide +kernel
theorem dX7_readsRain_20 : decode cX7_readsRain 20 = .ok (.iconst 0, 1) := by decide +kernel
theorem dX7_readsRain_21 : decode cX7_readsRain 21 = .ok (.iconst 3, 1) := by decide +kernel
theorem dX7_readsRain_22 : decode cX7_readsRain 22 = .ok (.invokevirtual 96, 3) := by decide +kernel
theorem dX7_readsRain_25 : decode cX7_readsRain 25 = .ok (.istore_n 2, 1) := by decide +kernel
theorem dX7_readsRain_26 : decode cX7_readsRain 26 = .ok (.iload_n 2, 1) := by decide +kernel
theorem dX7_readsRain_27 : decode cX7_readsRain 27 = .ok (.bipush (-9), 2) := by decide +kernel
theorem dX7_readsRain_29 : decode cX7_readsRain 29 = .ok (.if_icmp .ne 5, 3) := by decide +kernel
theorem dX7_readsRain_32 : decode cX7_readsRain 32 = .ok (.iconst 0, 1) := by decide +kernel
theorem dX7_readsRain_33 : decode cX7_readsRain 33 = .ok (.ireturn, 1) := by decide +kernel
theorem dX7_readsRain_34 : decode cX7_readsRain 34 = .ok (.aload_n 0, 1) := by decide +kernel
theorem dX7_readsRain_35 : decode cX7_readsRain 35 = .ok (.getfield 16, 3) := by decide +kernel
theorem dX7_readsRain_38 : decode cX7_readsRain 38 = .ok (.bipush 13, 2) := by decide +kernel
theorem dX7_readsRain_40 : decode cX7_readsRain 40 = .ok (.iload_n 1, 1) := by decide +kernel
theorem dX7_readsRain_41 : decode cX7_readsRain 41 = .ok (.iadd, 1) := by decide +kernel
theorem dX7_readsRain_42 : decode cX7_readsRain 42 = .ok (.iload_n 2, 1) := by decide +kernel
theorem dX7_readsRain_43 : decode cX7_readsRain 43 = .ok (.iastore, 1) := by decide +kernel
theorem dX7_readsRain_44 : decode cX7_readsRain 44 = .ok (.iconst 1, 1) := by decide +kernel
theorem dX7_readsRain_45 : decode cX7_readsRain 45 = .ok (.ireturn, 1) := by decide +kernel
theorem dX7_readsPaint_0 : decode cX7_readsPaint 0 = .ok (.aload_n 0, 1) := by decide +kernel
theorem dX7_readsPaint_1 : decode cX7_readsPaint 1 = .ok (.getfield 16, 3) := by decide +kernel
theorem dX7_readsPaint_4 : decode cX7_readsPaint 4 = .ok (.iconst 2, 1) := by decide +kernel
theorem dX7_readsPaint_5 : decode cX7_readsPaint 5 = .ok (.iaload, 1) := by decide +kernel
theorem dX7_readsPaint_6 : decode cX7_readsPaint 6 = .ok (.istore_n 1, 1) := by decide +kernel
theorem dX7_readsPaint_7 : decode cX7_readsPaint 7 = .ok (.iload_n 1, 1) := by decide +kernel
theorem dX7_readsPaint_8 : decode cX7_readsPaint 8 = .ok (.bipush 8, 2) := by decide +kernel
theorem dX7_readsPaint_10 : decode cX7_readsPaint 10 = .ok (.if_icmp .ne 8, 3) := by decide +kernel
theorem dX7_readsPaint_13 : decode cX7_readsPaint 13 = .ok (.bipush (-9), 2) := by decide +kernel
theorem dX7_readsPaint_15 : decode cX7_readsPaint 15 = .ok (.goto 16, 3) := by decide +kernel
theorem dX7_readsPaint_18 : decode cX7_readsPaint 18 = .ok (.aload_n 0, 1) := by decide +kernel
theorem dX7_readsPaint_19 : decode cX7_readsPaint 19 = .ok (.iconst 0, 1) := by decide +kernel
theorem dX7_readsPaint_20 : decode cX7_readsPaint 20 = .ok (.aload_n 0, 1) := by decide +kernel
theorem dX7_readsPaint_21 : decode cX7_readsPaint 21 = .ok (.getfield 16, 3) := by decide +kernel
theorem dX7_readsPaint_24 : decode cX7_readsPaint 24 = .ok (.iconst 0, 1) := by decide +kernel
theorem dX7_readsPaint_25 : decode cX7_readsPaint 25 = .ok (.iaload, 1) := by decide +kernel
theorem dX7_readsPaint_26 : decode cX7_readsPaint 26 = .ok (.iconst 1, 1) := by decide +kernel
theorem dX7_readsPaint_27 : decode cX7_readsPaint 27 = .ok (.isub, 1) := by decide +kernel
theorem dX7_readsPaint_28 : decode cX7_readsPaint 28 = .ok (.invokevirtual 96, 3) := by decide +kernel
theorem dX7_readsPaint_31 : decode cX7_readsPaint 31 = .ok (.istore_n 2, 1) := by decide +kernel
theorem dX7_readsPaint_32 : decode cX7_readsPaint 32 = .ok (.iload_n 2, 1) := by decide +kernel
theorem dX7_readsPaint_33 : decode cX7_readsPaint 33 = .ok (.bipush (-9), 2) := by decide +kernel
theorem dX7_readsPaint_35 : decode cX7_readsPaint 35 = .ok (.if_icmp .ne 8, 3) := by decide +kernel
theorem dX7_readsPaint_38 : decode cX7_readsPaint 38 = .ok (.bipush (-9), 2) := by decide +kernel
theorem dX7_readsPaint_40 : decode cX7_readsPaint 40 = .ok (.goto 10, 3) := by decide +kernel
theorem dX7_readsPaint_43 : decode cX7_readsPaint 43 = .ok (.aload_n 0, 1) := by decide +kernel
theorem dX7_readsPaint_44 : decode cX7_readsPaint 44 = .ok (.iconst 0, 1) := by decide +kernel
theorem dX7_readsPaint_45 : decode cX7_readsPaint 45 = .ok (.bipush 9, 2) := by decide +kernel
theorem dX7_readsPaint_47 : decode cX7_readsPaint 47 = .ok (.invokevirtual 96, 3) := by decide +kernel
theorem dX7_readsPaint_50 : decode cX7_readsPaint 50 = .ok (.istore_n 3, 1) := by decide +kernel
theorem dX7_readsPaint_51 : decode cX7_readsPaint 51 = .ok (.iload_n 3, 1) := by decide +kernel
theorem dX7_readsPaint_52 : decode cX7_readsPaint 52 = .ok (.bipush (-9), 2) := by decide +kernel
theorem dX7_readsPaint_54 : decode cX7_readsPaint 54 = .ok (.if_icmp .ne 8, 3) := by decide +kernel
theorem dX7_readsPaint_57 : decode cX7_readsPaint 57 = .ok (.bipush (-9), 2) := by decide +kernel
theorem dX7_readsPaint_59 : decode cX7_readsPaint 59 = .ok (.goto 9, 3) := by decide +kernel
theorem dX7_readsPaint_62 : decode cX7_readsPaint 62 = .ok (.aload_n 0, 1) := by decide +kernel
theorem dX7_readsPaint_63 : decode cX7_readsPaint 63 = .ok (.iconst 1, 1) := by decide +kernel
theorem dX7_readsPaint_64 : decode cX7_readsPaint 64 = .ok (.iconst 5, 1) := by decide +kernel
theorem dX7_readsPaint_65 : decode cX7_readsPaint 65 = .ok (.invokevirtual 96, 3) := by decide +kernel
theorem dX7_readsPaint_68 : decode cX7_readsPaint 68 = .ok (.istore 4, 2) := by decide +kernel
theorem dX7_readsPaint_70 : decode cX7_readsPaint 70 = .ok (.iload 4, 2) := by decide +kernel
theorem dX7_readsPaint_72 : decode cX7_readsPaint 72 = .ok (.bipush (-9), 2) := by decide +kernel
theorem dX7_readsPaint_74 : decode cX7_readsPaint 74 = .ok (.if_icmp .ne 5, 3) := by decide +kernel
theorem dX7_readsPaint_77 : decode cX7_readsPaint 77 = .ok (.iconst 0, 1) := by decide +kernel
theorem dX7_readsPaint_78 : decode cX7_readsPaint 78 = .ok (.ireturn, 1) := by decide +kernel
theorem dX7_readsPaint_79 : decode cX7_readsPaint 79 = .ok (.aload_n 0, 1) := by decide +kernel
theorem dX7_readsPaint_80 : decode cX7_readsPaint 80 = .ok (.getfield 16, 3) := by decide +kernel
theorem dX7_readsPaint_83 : decode cX7_readsPaint 83 = .ok (.bipush 23, 2) := by decide +kernel
theorem dX7_readsPaint_85 : decode cX7_readsPaint 85 = .ok (.iload_n 1, 1) := by decide +kernel
theorem dX7_readsPaint_86 : decode cX7_readsPaint 86 = .ok (.iadd, 1) := by decide +kernel
theorem dX7_readsPaint_87 : decode cX7_readsPaint 87 = .ok (.iload_n 2, 1) := by decide +kernel
theorem dX7_readsPaint_88 : decode cX7_readsPaint 88 = .ok (.iastore, 1) := by decide +kernel
theorem dX7_readsPaint_89 : decode cX7_readsPaint 89 = .ok (.aload_n 0, 1) := by decide +kernel
theorem dX7_readsPaint_90 : decode cX7_readsPaint 90 = .ok (.getfield 16, 3) := by decide +kernel
theorem dX7_readsPaint_93 : decode cX7_readsPaint 93 = .ok (.bipush 31, 2) := by decide +kernel
theorem dX7_readsPaint_95 : decode cX7_readsPaint 95 = .ok (.iload_n 1, 1) := by decide +kernel
theorem dX7_readsPaint_96 : decode cX7_readsPaint 96 = .ok (.iadd, 1) := by decide +kernel
theorem dX7_readsPaint_97 : decode cX7_readsPaint 97 = .ok (.iload_n 3, 1) := by decide +kernel
theorem dX7_readsPaint_98 : decode cX7_readsPaint 98 = .ok (.iastore, 1) := by decide +kernel
theorem dX7_readsPaint_99 : decode cX7_readsPaint 99 = .ok (.aload_n 0, 1) := by decide +kernel
theorem dX7_readsPaint_100 : decode cX7_readsPaint 100 = .ok (.getfield 16, 3) := by decide +kernel
theorem dX7_readsPaint_103 : decode cX7_readsPaint 103 = .ok (.bipush 39, 2) := by decide +kernel
theorem dX7_readsPaint_105 : decode cX7_readsPaint 105 = .ok (.iload_n 1, 1) := by decide +kernel
theorem dX7_readsPaint_106 : decode cX7_readsPaint 106 = .ok (.iadd, 1) := by decide +kernel
theorem dX7_readsPaint_107 : decode cX7_readsPaint 107 = .ok (.iload 4, 2) := by decide +kernel
theorem dX7_readsPaint_109 : decode cX7_readsPaint 109 = .ok (.iastore, 1) := by decide +kernel
theorem dX7_readsPaint_110 : decode cX7_readsPaint 110 = .ok (.aload_n 0, 1) := by decide +kernel
theorem dX7_readsPaint_111 : decode cX7_readsPaint 111 = .ok (.getfield 16, 3) := by decide +kernel
theorem dX7_readsPaint_114 : decode cX7_readsPaint 114 = .ok (.iconst 2, 1) := by decide +kernel
theorem dX7_readsPaint_115 : decode cX7_readsPaint 115 = .ok (.dup2, 1) := by decide +kernel
theorem dX7_readsPaint_116 : decode cX7_readsPaint 116 = .ok (.iaload, 1) := by decide +kernel
theorem dX7_readsPaint_117 : decode cX7_readsPaint 117 = .ok (.iconst 1, 1) := by decide +kernel
theorem dX7_readsPaint_118 : decode cX7_readsPaint 118 = .ok (.iadd, 1) := by decide +kernel
theorem dX7_readsPaint_119 : decode cX7_readsPaint 119 = .ok (.iastore, 1) := by decide +kernel
theorem dX7_readsPaint_120 : decode cX7_readsPaint 120 = .ok (.iconst 1, 1) := by decide +kernel
theorem dX7_readsPaint_121 : decode cX7_readsPaint 121 = .ok (.ireturn, 1) := by decide +kernel
theorem dX7_readsItem_0 : decode cX7_readsItem 0 = .ok (.iload_n 1, 1) := by decide +kernel
theorem dX7_readsItem_1 : decode cX7_readsItem 1 = .ok (.ifCond .ne 10, 3) := by decide +kernel
theorem dX7_readsItem_4 : decode cX7_readsItem 4 = .ok (.aload_n 0, 1) := by decide +kernel
theorem dX7_readsItem_5 : decode cX7_readsItem 5 = .ok (.invokevirtual 100, 3) := by decide +kernel
theorem dX7_readsItem_8 : decode cX7_readsItem 8 = .ok (.goto 44, 3) := by decide +kernel
theorem dX7_readsItem_11 : decode cX7_readsItem 11 = .ok (.iload_n 1, 1) := by decide +kernel
theorem dX7_readsItem_12 : decode cX7_readsItem 12 = .ok (.iconst 1, 1) := by decide +kernel
theorem dX7_readsItem_13 : decode cX7_readsItem 13 = .ok (.if_icmp .ne 10, 3) := by decide +kernel
theorem dX7_readsItem_16 : decode cX7_readsItem 16 = .ok (.aload_n 0, 1) := by decide +kernel
theorem dX7_readsItem_17 : decode cX7_readsItem 17 = .ok (.invokevirtual 103, 3) := by decide +kernel
theorem dX7_readsItem_20 : decode cX7_readsItem 20 = .ok (.goto 32, 3) := by decide +kernel
theorem dX7_readsItem_23 : decode cX7_readsItem 23 = .ok (.iload_n 1, 1) := by decide +kernel
theorem dX7_readsItem_24 : decode cX7_readsItem 24 = .ok (.iconst 2, 1) := by decide +kernel
theorem dX7_readsItem_25 : decode cX7_readsItem 25 = .ok (.if_icmp .ne 10, 3) := by decide +kernel
theorem dX7_readsItem_28 : decode cX7_readsItem 28 = .ok (.aload_n 0, 1) := by decide +kernel
theorem dX7_readsItem_29 : decode cX7_readsItem 29 = .ok (.invokevirtual 106, 3) := by decide +kernel
theorem dX7_readsItem_32 : decode cX7_readsItem 32 = .ok (.goto 20, 3) := by decide +kernel
theorem dX7_readsItem_35 : decode cX7_readsItem 35 = .ok (.iload_n 1, 1) := by decide +kernel
theorem dX7_readsItem_36 : decode cX7_readsItem 36 = .ok (.iconst 3, 1) := by decide +kernel
theorem dX7_readsItem_37 : decode cX7_readsItem 37 = .ok (.if_icmp .ne 14, 3) := by decide +kernel
theorem dX7_readsItem_40 : decode cX7_readsItem 40 = .ok (.aload_n 0, 1) := by decide +kernel
theorem dX7_readsItem_41 : decode cX7_readsItem 41 = .ok (.invokevirtual 109, 3) := by decide +kernel
theorem dX7_readsItem_44 : decode cX7_readsItem 44 = .ok (.ifCond .eq 7, 3) := by decide +kernel
theorem dX7_readsItem_47 : decode cX7_readsItem 47 = .ok (.iconst 1, 1) := by decide +kernel
theorem dX7_readsItem_48 : decode cX7_readsItem 48 = .ok (.goto 4, 3) := by decide +kernel
theorem dX7_readsItem_51 : decode cX7_readsItem 51 = .ok (.iconst 0, 1) := by decide +kernel
theorem dX7_readsItem_52 : decode cX7_readsItem 52 = .ok (.ireturn, 1) := by decide +kernel
theorem dX7_reads_0 : decode cX7_reads 0 = .ok (.iconst 0, 1) := by decide +kernel
theorem dX7_reads_1 : decode cX7_reads 1 = .ok (.istore_n 1, 1) := by decide +kernel
theorem dX7_reads_2 : decode cX7_reads 2 = .ok (.iload_n 1, 1) := by decide +kernel
theorem dX7_reads_3 : decode cX7_reads 3 = .ok (.bipush 47, 2) := by decide +kernel
theorem dX7_reads_5 : decode cX7_reads 5 = .ok (.if_icmp .ge 31, 3) := by decide +kernel
theorem dX7_reads_8 : decode cX7_reads 8 = .ok (.aload_n 0, 1) := by decide +kernel
theorem dX7_reads_9 : decode cX7_reads 9 = .ok (.getfield 16, 3) := by decide +kernel
theorem dX7_reads_12 : decode cX7_reads 12 = .ok (.iload_n 1, 1) := by decide +kernel
theorem dX7_reads_13 : decode cX7_reads 13 = .ok (.iload_n 1, 1) := by decide +kernel
theorem dX7_reads_14 : decode cX7_reads 14 = .ok (.bipush 13, 2) := by decide +kernel
theorem dX7_reads_16 : decode cX7_reads 16 = .ok (.bipush 22, 2) := by decide +kernel
theorem dX7_reads_18 : decode cX7_reads 18 = .ok (.invokestatic 54, 3) := by decide +kernel
theorem dX7_reads_21 : decode cX7_reads 21 = .ok (.ifCond .eq 7, 3) := by decide +kernel
theorem dX7_reads_24 : decode cX7_reads 24 = .ok (.iconst 1, 1) := by decide +kernel
theorem dX7_reads_25 : decode cX7_reads 25 = .ok (.goto 4, 3) := by decide +kernel
theorem dX7_reads_28 : decode cX7_reads 28 = .ok (.iconst 0, 1) := by decide +kernel
theorem dX7_reads_29 : decode cX7_reads 29 = .ok (.iastore, 1) := by decide +kernel
theorem dX7_reads_30 : decode cX7_reads 30 = .ok (.iinc 1 1, 3) := by decide +kernel
theorem dX7_reads_33 : decode cX7_reads 33 = .ok (.goto (-31), 3) := by decide +kernel
theorem dX7_reads_36 : decode cX7_reads 36 = .ok (.aload_n 0, 1) := by decide +kernel
theorem dX7_reads_37 : decode cX7_reads 37 = .ok (.iconst 0, 1) := by decide +kernel
theorem dX7_reads_38 : decode cX7_reads 38 = .ok (.putfield 64, 3) := by decide +kernel
theorem dX7_reads_41 : decode cX7_reads 41 = .ok (.aload_n 0, 1) := by decide +kernel
theorem dX7_reads_42 : decode cX7_reads 42 = .ok (.invokevirtual 93, 3) := by decide +kernel
theorem dX7_reads_45 : decode cX7_reads 45 = .ok (.aload_n 0, 1) := by decide +kernel
theorem dX7_reads_46 : decode cX7_reads 46 = .ok (.getfield 77, 3) := by decide +kernel
theorem dX7_reads_49 : decode cX7_reads 49 = .ok (.ifCond .eq 47, 3) := by decide +kernel
theorem dX7_reads_52 : decode cX7_reads 52 = .ok (.aload_n 0, 1) := by decide +kernel
theorem dX7_reads_53 : decode cX7_reads 53 = .ok (.aload_n 0, 1) := by decide +kernel
theorem dX7_reads_54 : decode cX7_reads 54 = .ok (.invokevirtual 112, 3) := by decide +kernel
theorem dX7_reads_57 : decode cX7_reads 57 = .ok (.invokevirtual 116, 3) := by decide +kernel
theorem dX7_reads_60 : decode cX7_reads 60 = .ok (.ifCond .ne 5, 3) := by decide +kernel
theorem dX7_reads_63 : decode cX7_reads 63 = .ok (.iconst 0, 1) := by decide +kernel
theorem dX7_reads_64 : decode cX7_reads 64 = .ok (.ireturn, 1) := by decide +kernel
theorem dX7_reads_65 : decode cX7_reads 65 = .ok (.aload_n 0, 1) := by decide +kernel
theorem dX7_reads_66 : decode cX7_reads 66 = .ok (.invokevirtual 93, 3) := by decide +kernel
theorem dX7_reads_69 : decode cX7_reads 69 = .ok (.aload_n 0, 1) := by decide +kernel
theorem dX7_reads_70 : decode cX7_reads 70 = .ok (.getfield 77, 3) := by decide +kernel
theorem dX7_reads_73 : decode cX7_reads 73 = .ok (.iconst 3, 1) := by decide +kernel
theorem dX7_reads_74 : decode cX7_reads 74 = .ok (.if_icmp .eq 5, 3) := by decide +kernel
theorem dX7_reads_77 : decode cX7_reads 77 = .ok (.iconst 0, 1) := by decide +kernel
theorem dX7_reads_78 : decode cX7_reads 78 = .ok (.ireturn, 1) := by decide +kernel
theorem dX7_reads_79 : decode cX7_reads 79 = .ok (.aload_n 0, 1) := by decide +kernel
theorem dX7_reads_80 : decode cX7_reads 80 = .ok (.getfield 16, 3) := by decide +kernel
theorem dX7_reads_83 : decode cX7_reads 83 = .ok (.iconst 3, 1) := by decide +kernel
theorem dX7_reads_84 : decode cX7_reads 84 = .ok (.dup2, 1) := by decide +kernel
theorem dX7_reads_85 : decode cX7_reads 85 = .ok (.iaload, 1) := by decide +kernel
theorem dX7_reads_86 : decode cX7_reads 86 = .ok (.iconst 1, 1) := by decide +kernel
theorem dX7_reads_87 : decode cX7_reads 87 = .ok (.iadd, 1) := by decide +kernel
theorem dX7_reads_88 : decode cX7_reads 88 = .ok (.iastore, 1) := by decide +kernel
theorem dX7_reads_89 : decode cX7_reads 89 = .ok (.aload_n 0, 1) := by decide +kernel
theorem dX7_reads_90 : decode cX7_reads 90 = .ok (.invokevirtual 93, 3) := by decide +kernel
theorem dX7_reads_93 : decode cX7_reads 93 = .ok (.goto (-48), 3) := by decide +kernel
theorem dX7_reads_96 : decode cX7_reads 96 = .ok (.iconst 1, 1) := by decide +kernel
theorem dX7_reads_97 : decode cX7_reads 97 = .ok (.ireturn, 1) := by decide +kernel
theorem dX7_tells_0 : decode cX7_tells 0 = .ok (.iconst 0, 1) := by decide +kernel
theorem dX7_tells_1 : decode cX7_tells 1 = .ok (.istore_n 1, 1) := by decide +kernel
theorem dX7_tells_2 : decode cX7_tells 2 = .ok (.iload_n 1, 1) := by decide +kernel
theorem dX7_tells_3 : decode cX7_tells 3 = .ok (.bipush 47, 2) := by decide +kernel
theorem dX7_tells_5 : decode cX7_tells 5 = .ok (.if_icmp .ge 21, 3) := by decide +kernel
theorem dX7_tells_8 : decode cX7_tells 8 = .ok (.aload_n 0, 1) := by decide +kernel
theorem dX7_tells_9 : decode cX7_tells 9 = .ok (.getfield 13, 3) := by decide +kernel
theorem dX7_tells_12 : decode cX7_tells 12 = .ok (.iload_n 1, 1) := by decide +kernel
theorem dX7_tells_13 : decode cX7_tells 13 = .ok (.aload_n 0, 1) := by decide +kernel
theorem dX7_tells_14 : decode cX7_tells 14 = .ok (.getfield 16, 3) := by decide +kernel
theorem dX7_tells_17 : decode cX7_tells 17 = .ok (.iload_n 1, 1) := by decide +kernel
theorem dX7_tells_18 : decode cX7_tells 18 = .ok (.iaload, 1) := by decide +kernel
theorem dX7_tells_19 : decode cX7_tells 19 = .ok (.iastore, 1) := by decide +kernel
theorem dX7_tells_20 : decode cX7_tells 20 = .ok (.iinc 1 1, 3) := by decide +kernel
theorem dX7_tells_23 : decode cX7_tells 23 = .ok (.goto (-21), 3) := by decide +kernel
theorem dX7_tells_26 : decode cX7_tells 26 = .ok (.aload_n 0, 1) := by decide +kernel
theorem dX7_tells_27 : decode cX7_tells 27 = .ok (.getfield 19, 3) := by decide +kernel
theorem dX7_tells_30 : decode cX7_tells 30 = .ok (.iconst 0, 1) := by decide +kernel
theorem dX7_tells_31 : decode cX7_tells 31 = .ok (.iconst 0, 1) := by decide +kernel
theorem dX7_tells_32 : decode cX7_tells 32 = .ok (.iastore, 1) := by decide +kernel
theorem dX7_tells_33 : decode cX7_tells 33 = .ok (.iconst 0, 1) := by decide +kernel
theorem dX7_tells_34 : decode cX7_tells 34 = .ok (.istore_n 1, 1) := by decide +kernel
theorem dX7_tells_35 : decode cX7_tells 35 = .ok (.iload_n 1, 1) := by decide +kernel
theorem dX7_tells_36 : decode cX7_tells 36 = .ok (.bipush 6, 2) := by decide +kernel
theorem dX7_tells_38 : decode cX7_tells 38 = .ok (.if_icmp .ge 20, 3) := by decide +kernel
theorem dX7_tells_41 : decode cX7_tells 41 = .ok (.aload_n 0, 1) := by decide +kernel
theorem dX7_tells_42 : decode cX7_tells 42 = .ok (.getfield 19, 3) := by decide +kernel
theorem dX7_tells_45 : decode cX7_tells 45 = .ok (.bipush 49, 2) := by decide +kernel
theorem dX7_tells_47 : decode cX7_tells 47 = .ok (.iload_n 1, 1) := by decide +kernel
theorem dX7_tells_48 : decode cX7_tells 48 = .ok (.iadd, 1) := by decide +kernel
theorem dX7_tells_49 : decode cX7_tells 49 = .ok (.bipush (-9), 2) := by decide +kernel
theorem dX7_tells_51 : decode cX7_tells 51 = .ok (.iastore, 1) := by decide +kernel
theorem dX7_tells_52 : decode cX7_tells 52 = .ok (.iinc 1 1, 3) := by decide +kernel
theorem dX7_tells_55 : decode cX7_tells 55 = .ok (.goto (-20), 3) := by decide +kernel
theorem dX7_tells_58 : decode cX7_tells 58 = .ok (.aload_n 0, 1) := by decide +kernel
theorem dX7_tells_59 : decode cX7_tells 59 = .ok (.getfield 25, 3) := by decide +kernel
theorem dX7_tells_62 : decode cX7_tells 62 = .ok (.iconst 0, 1) := by decide +kernel
theorem dX7_tells_63 : decode cX7_tells 63 = .ok (.iconst 0, 1) := by decide +kernel
theorem dX7_tells_64 : decode cX7_tells 64 = .ok (.bastore, 1) := by decide +kernel
theorem dX7_tells_65 : decode cX7_tells 65 = .ok (.aload_n 0, 1) := by decide +kernel
theorem dX7_tells_66 : decode cX7_tells 66 = .ok (.getfield 25, 3) := by decide +kernel
theorem dX7_tells_69 : decode cX7_tells 69 = .ok (.iconst 1, 1) := by decide +kernel
theorem dX7_tells_70 : decode cX7_tells 70 = .ok (.iconst 0, 1) := by decide +kernel
theorem dX7_tells_71 : decode cX7_tells 71 = .ok (.bastore, 1) := by decide +kernel
theorem dX7_tells_72 : decode cX7_tells 72 = .ok (.return_, 1) := by decide +kernel
theorem dX7_square_0 : decode cX7_square 0 = .ok (.aload_n 0, 1) := by decide +kernel
theorem dX7_square_1 : decode cX7_square 1 = .ok (.invokevirtual 47, 3) := by decide +kernel
theorem dX7_square_4 : decode cX7_square 4 = .ok (.ifCond .ne 11, 3) := by decide +kernel
theorem dX7_square_7 : decode cX7_square 7 = .ok (.bipush (-10), 2) := by decide +kernel
theorem dX7_square_9 : decode cX7_square 9 = .ok (.aload_n 0, 1) := by decide +kernel
theorem dX7_square_10 : decode cX7_square 10 = .ok (.getfield 71, 3) := by decide +kernel
theorem dX7_square_13 : decode cX7_square 13 = .ok (.isub, 1) := by decide +kernel
theorem dX7_square_14 : decode cX7_square 14 = .ok (.ireturn, 1) := by decide +kernel
theorem dX7_square_15 : decode cX7_square 15 = .ok (.aload_n 0, 1) := by decide +kernel
theorem dX7_square_16 : decode cX7_square 16 = .ok (.invokevirtual 51, 3) := by decide +kernel
theorem dX7_square_19 : decode cX7_square 19 = .ok (.aload_n 0, 1) := by decide +kernel
theorem dX7_square_20 : decode cX7_square 20 = .ok (.iconst 0, 1) := by decide +kernel
theorem dX7_square_21 : decode cX7_square 21 = .ok (.putfield 58, 3) := by decide +kernel
theorem dX7_square_24 : decode cX7_square 24 = .ok (.aload_n 0, 1) := by decide +kernel
theorem dX7_square_25 : decode cX7_square 25 = .ok (.getfield 13, 3) := by decide +kernel
theorem dX7_square_28 : decode cX7_square 28 = .ok (.iconst 3, 1) := by decide +kernel
theorem dX7_square_29 : decode cX7_square 29 = .ok (.iaload, 1) := by decide +kernel
theorem dX7_square_30 : decode cX7_square 30 = .ok (.ireturn, 1) := by decide +kernel
theorem dX7_bar_0 : decode cX7_bar 0 = .ok (.aload_n 0, 1) := by decide +kernel
theorem dX7_bar_1 : decode cX7_bar 1 = .ok (.iload_n 1, 1) := by decide +kernel
theorem dX7_bar_2 : decode cX7_bar 2 = .ok (.invokevirtual 120, 3) := by decide +kernel
theorem dX7_bar_5 : decode cX7_bar 5 = .ok (.ifCond .eq 14, 3) := by decide +kernel
theorem dX7_bar_8 : decode cX7_bar 8 = .ok (.aload_n 0, 1) := by decide +kernel
theorem dX7_bar_9 : decode cX7_bar 9 = .ok (.getfield 13, 3) := by decide +kernel
theorem dX7_bar_12 : decode cX7_bar 12 = .ok (.iconst 4, 1) := by decide +kernel
theorem dX7_bar_13 : decode cX7_bar 13 = .ok (.iload_n 1, 1) := by decide +kernel
theorem dX7_bar_14 : decode cX7_bar 14 = .ok (.iadd, 1) := by decide +kernel
theorem dX7_bar_15 : decode cX7_bar 15 = .ok (.iaload, 1) := by decide +kernel
theorem dX7_bar_16 : decode cX7_bar 16 = .ok (.goto 4, 3) := by decide +kernel
theorem dX7_bar_19 : decode cX7_bar 19 = .ok (.iconst (-1), 1) := by decide +kernel
theorem dX7_bar_20 : decode cX7_bar 20 = .ok (.ireturn, 1) := by decide +kernel
theorem dX7_person_0 : decode cX7_person 0 = .ok (.aload_n 0, 1) := by decide +kernel
theorem dX7_person_1 : decode cX7_person 1 = .ok (.iload_n 1, 1) := by decide +kernel
theorem dX7_person_2 : decode cX7_person 2 = .ok (.invokevirtual 123, 3) := by decide +kernel
theorem dX7_person_5 : decode cX7_person 5 = .ok (.ifCond .eq 15, 3) := by decide +kernel
theorem dX7_person_8 : decode cX7_person 8 = .ok (.aload_n 0, 1) := by decide +kernel
theorem dX7_person_9 : decode cX7_person 9 = .ok (.getfield 13, 3) := by decide +kernel
theorem dX7_person_12 : decode cX7_person 12 = .ok (.bipush 10, 2) := by decide +kernel
theorem dX7_person_14 : decode cX7_person 14 = .ok (.iload_n 1, 1) := by decide +kernel
theorem dX7_person_15 : decode cX7_person 15 = .ok (.iadd, 1) := by decide +kernel
theorem dX7_person_16 : decode cX7_person 16 = .ok (.iaload, 1) := by decide +kernel
theorem dX7_person_17 : decode cX7_person 17 = .ok (.goto 4, 3) := by decide +kernel
theorem dX7_person_20 : decode cX7_person 20 = .ok (.iconst (-1), 1) := by decide +kernel
theorem dX7_person_21 : decode cX7_person 21 = .ok (.ireturn, 1) := by decide +kernel
theorem dX7_rain_0 : decode cX7_rain 0 = .ok (.iload_n 1, 1) := by decide +kernel
theorem dX7_rain_1 : decode cX7_rain 1 = .ok (.iconst 0, 1) := by decide +kernel
theorem dX7_rain_2 : decode cX7_rain 2 = .ok (.bipush 9, 2) := by decide +kernel
theorem dX7_rain_4 : decode cX7_rain 4 = .ok (.invokestatic 54, 3) := by decide +kernel
theorem dX7_rain_7 : decode cX7_rain 7 = .ok (.ifCond .eq 15, 3) := by decide +kernel
theorem dX7_rain_10 : decode cX7_rain 10 = .ok (.aload_n 0, 1) := by decide +kernel
theorem dX7_rain_11 : decode cX7_rain 11 = .ok (.getfield 13, 3) := by decide +kernel
theorem dX7_rain_14 : decode cX7_rain 14 = .ok (.bipush 13, 2) := by decide +kernel
theorem dX7_rain_16 : decode cX7_rain 16 = .ok (.iload_n 1, 1) := by decide +kernel
theorem dX7_rain_17 : decode cX7_rain 17 = .ok (.iadd, 1) := by decide +kernel
theorem dX7_rain_18 : decode cX7_rain 18 = .ok (.iaload, 1) := by decide +kernel
theorem dX7_rain_19 : decode cX7_rain 19 = .ok (.goto 4, 3) := by decide +kernel
theorem dX7_rain_22 : decode cX7_rain 22 = .ok (.iconst (-1), 1) := by decide +kernel
theorem dX7_rain_23 : decode cX7_rain 23 = .ok (.ireturn, 1) := by decide +kernel
theorem dX7_paintOf_0 : decode cX7_paintOf 0 = .ok (.iconst 0, 1) := by decide +kernel
theorem dX7_paintOf_1 : decode cX7_paintOf 1 = .ok (.istore_n 3, 1) := by decide +kernel
theorem dX7_paintOf_2 : decode cX7_paintOf 2 = .ok (.iconst 0, 1) := by decide +kernel
theorem dX7_paintOf_3 : decode cX7_paintOf 3 = .ok (.istore 4, 2) := by decide +kernel
theorem dX7_paintOf_5 : decode cX7_paintOf 5 = .ok (.iload 4, 2) := by decide +kernel
theorem dX7_paintOf_7 : decode cX7_paintOf 7 = .ok (.aload_n 0, 1) := by decide +kernel
theorem dX7_paintOf_8 : decode cX7_paintOf 8 = .ok (.getfield 13, 3) := by decide +kernel
theorem dX7_paintOf_11 : decode cX7_paintOf 11 = .ok (.iconst 2, 1) := by decide +kernel
theorem dX7_paintOf_12 : decode cX7_paintOf 12 = .ok (.iaload, 1) := by decide +kernel
theorem dX7_paintOf_13 : decode cX7_paintOf 13 = .ok (.if_icmp .ge 80, 3) := by decide +kernel
theorem dX7_paintOf_16 : decode cX7_paintOf 16 = .ok (.aload_n 0, 1) := by decide +kernel
theorem dX7_paintOf_17 : decode cX7_paintOf 17 = .ok (.getfield 13, 3) := by decide +kernel
theorem dX7_paintOf_20 : decode cX7_paintOf 20 = .ok (.bipush 23, 2) := by decide +kernel
theorem dX7_paintOf_22 : decode cX7_paintOf 22 = .ok (.iload 4, 2) := by decide +kernel
theorem dX7_paintOf_24 : decode cX7_paintOf 24 = .ok (.iadd, 1) := by decide +kernel
theorem dX7_paintOf_25 : decode cX7_paintOf 25 = .ok (.iaload, 1) := by decide +kernel
theorem dX7_paintOf_26 : decode cX7_paintOf 26 = .ok (.iload_n 1, 1) := by decide +kernel
theorem dX7_paintOf_27 : decode cX7_paintOf 27 = .ok (.if_icmp .ne 18, 3) := by decide +kernel
theorem dX7_paintOf_30 : decode cX7_paintOf 30 = .ok (.iload_n 2, 1) := by decide +kernel
theorem dX7_paintOf_31 : decode cX7_paintOf 31 = .ok (.aload_n 0, 1) := by decide +kernel
theorem dX7_paintOf_32 : decode cX7_paintOf 32 = .ok (.getfield 13, 3) := by decide +kernel
theorem dX7_paintOf_35 : decode cX7_paintOf 35 = .ok (.bipush 31, 2) := by decide +kernel
theorem dX7_paintOf_37 : decode cX7_paintOf 37 = .ok (.iload 4, 2) := by decide +kernel
theorem dX7_paintOf_39 : decode cX7_paintOf 39 = .ok (.iadd, 1) := by decide +kernel
theorem dX7_paintOf_40 : decode cX7_paintOf 40 = .ok (.iaload, 1) := by decide +kernel
theorem dX7_paintOf_41 : decode cX7_paintOf 41 = .ok (.isub, 1) := by decide +kernel
theorem dX7_paintOf_42 : decode cX7_paintOf 42 = .ok (.goto 4, 3) := by decide +kernel
theorem dX7_paintOf_45 : decode cX7_paintOf 45 = .ok (.iconst (-1), 1) := by decide +kernel
theorem dX7_paintOf_46 : decode cX7_paintOf 46 = .ok (.istore 5, 2) := by decide +kernel
theorem dX7_paintOf_48 : decode cX7_paintOf 48 = .ok (.iload 5, 2) := by decide +kernel
theorem dX7_paintOf_50 : decode cX7_paintOf 50 = .ok (.ifCond .ne 7, 3) := by decide +kernel
theorem dX7_paintOf_53 : decode cX7_paintOf 53 = .ok (.iconst 2, 1) := by decide +kernel
theorem dX7_paintOf_54 : decode cX7_paintOf 54 = .ok (.goto 32, 3) := by decide +kernel
theorem dX7_paintOf_57 : decode cX7_paintOf 57 = .ok (.iload_n 3, 1) := by decide +kernel
theorem dX7_paintOf_58 : decode cX7_paintOf 58 = .ok (.ifCond .ne 27, 3) := by decide +kernel
theorem dX7_paintOf_61 : decode cX7_paintOf 61 = .ok (.iload 5, 2) := by decide +kernel
theorem dX7_paintOf_63 : decode cX7_paintOf 63 = .ok (.ifCond .le 22, 3) := by decide +kernel
theorem dX7_paintOf_66 : decode cX7_paintOf 66 = .ok (.iload 5, 2) := by decide +kernel
theorem dX7_paintOf_68 : decode cX7_paintOf 68 = .ok (.aload_n 0, 1) := by decide +kernel
theorem dX7_paintOf_69 : decode cX7_paintOf 69 = .ok (.getfield 13, 3) := by decide +kernel
theorem dX7_paintOf_72 : decode cX7_paintOf 72 = .ok (.bipush 39, 2) := by decide +kernel
theorem dX7_paintOf_74 : decode cX7_paintOf 74 = .ok (.iload 4, 2) := by decide +kernel
theorem dX7_paintOf_76 : decode cX7_paintOf 76 = .ok (.iadd, 1) := by decide +kernel
theorem dX7_paintOf_77 : decode cX7_paintOf 77 = .ok (.iaload, 1) := by decide +kernel
theorem dX7_paintOf_78 : decode cX7_paintOf 78 = .ok (.if_icmp .ge 7, 3) := by decide +kernel
theorem dX7_paintOf_81 : decode cX7_paintOf 81 = .ok (.iconst 1, 1) := by decide +kernel
theorem dX7_paintOf_82 : decode cX7_paintOf 82 = .ok (.goto 4, 3) := by decide +kernel
theorem dX7_paintOf_85 : decode cX7_paintOf 85 = .ok (.iload_n 3, 1) := by decide +kernel
theorem dX7_paintOf_86 : decode cX7_paintOf 86 = .ok (.istore_n 3, 1) := by decide +kernel
theorem dX7_paintOf_87 : decode cX7_paintOf 87 = .ok (.iinc 4 1, 3) := by decide +kernel
theorem dX7_paintOf_90 : decode cX7_paintOf 90 = .ok (.goto (-85), 3) := by decide +kernel
theorem dX7_paintOf_93 : decode cX7_paintOf 93 = .ok (.iload_n 3, 1) := by decide +kernel
theorem dX7_paintOf_94 : decode cX7_paintOf 94 = .ok (.ireturn, 1) := by decide +kernel
theorem dX7_paint_0 : decode cX7_paint 0 = .ok (.aload_n 0, 1) := by decide +kernel
theorem dX7_paint_1 : decode cX7_paint 1 = .ok (.iload_n 1, 1) := by decide +kernel
theorem dX7_paint_2 : decode cX7_paint 2 = .ok (.invokevirtual 120, 3) := by decide +kernel
theorem dX7_paint_5 : decode cX7_paint 5 = .ok (.ifCond .eq 22, 3) := by decide +kernel
theorem dX7_paint_8 : decode cX7_paint 8 = .ok (.iload_n 2, 1) := by decide +kernel
theorem dX7_paint_9 : decode cX7_paint 9 = .ok (.iconst 0, 1) := by decide +kernel
theorem dX7_paint_10 : decode cX7_paint 10 = .ok (.bipush 9, 2) := by decide +kernel
theorem dX7_paint_12 : decode cX7_paint 12 = .ok (.invokestatic 54, 3) := by decide +kernel
theorem dX7_paint_15 : decode cX7_paint 15 = .ok (.ifCond .eq 12, 3) := by decide +kernel
theorem dX7_paint_18 : decode cX7_paint 18 = .ok (.aload_n 0, 1) := by decide +kernel
theorem dX7_paint_19 : decode cX7_paint 19 = .ok (.iload_n 1, 1) := by decide +kernel
theorem dX7_paint_20 : decode cX7_paint 20 = .ok (.iload_n 2, 1) := by decide +kernel
theorem dX7_paint_21 : decode cX7_paint 21 = .ok (.invokevirtual 126, 3) := by decide +kernel
theorem dX7_paint_24 : decode cX7_paint 24 = .ok (.goto 4, 3) := by decide +kernel
theorem dX7_paint_27 : decode cX7_paint 27 = .ok (.iconst (-1), 1) := by decide +kernel
theorem dX7_paint_28 : decode cX7_paint 28 = .ok (.ireturn, 1) := by decide +kernel
theorem dX7_holds_0 : decode cX7_holds 0 = .ok (.aload_n 0, 1) := by decide +kernel
theorem dX7_holds_1 : decode cX7_holds 1 = .ok (.iload_n 1, 1) := by decide +kernel
theorem dX7_holds_2 : decode cX7_holds 2 = .ok (.invokevirtual 123, 3) := by decide +kernel
theorem dX7_holds_5 : decode cX7_holds 5 = .ok (.ifCond .eq 34, 3) := by decide +kernel
theorem dX7_holds_8 : decode cX7_holds 8 = .ok (.aload_n 0, 1) := by decide +kernel
theorem dX7_holds_9 : decode cX7_holds 9 = .ok (.iload_n 2, 1) := by decide +kernel
theorem dX7_holds_10 : decode cX7_holds 10 = .ok (.invokevirtual 120, 3) := by decide +kernel
theorem dX7_holds_13 : decode cX7_holds 13 = .ok (.ifCond .eq 26, 3) := by decide +kernel
theorem dX7_holds_16 : decode cX7_holds 16 = .ok (.iload_n 3, 1) := by decide +kernel
theorem dX7_holds_17 : decode cX7_holds 17 = .ok (.iconst 0, 1) := by decide +kernel
theorem dX7_holds_18 : decode cX7_holds 18 = .ok (.bipush 9, 2) := by decide +kernel
theorem dX7_holds_20 : decode cX7_holds 20 = .ok (.invokestatic 54, 3) := by decide +kernel
theorem dX7_holds_23 : decode cX7_holds 23 = .ok (.ifCond .eq 16, 3) := by decide +kernel
theorem dX7_holds_26 : decode cX7_holds 26 = .ok (.iload 4, 2) := by decide +kernel
theorem dX7_holds_28 : decode cX7_holds 28 = .ok (.iconst 1, 1) := by decide +kernel
theorem dX7_holds_29 : decode cX7_holds 29 = .ok (.bipush 10, 2) := by decide +kernel
theorem dX7_holds_31 : decode cX7_holds 31 = .ok (.iload_n 3, 1) := by decide +kernel
theorem dX7_holds_32 : decode cX7_holds 32 = .ok (.isub, 1) := by decide +kernel
theorem dX7_holds_33 : decode cX7_holds 33 = .ok (.invokestatic 54, 3) := by decide +kernel
theorem dX7_holds_36 : decode cX7_holds 36 = .ok (.ifCond .ne 5, 3) := by decide +kernel
theorem dX7_holds_39 : decode cX7_holds 39 = .ok (.iconst (-1), 1) := by decide +kernel
theorem dX7_holds_40 : decode cX7_holds 40 = .ok (.ireturn, 1) := by decide +kernel
theorem dX7_holds_41 : decode cX7_holds 41 = .ok (.aload_n 0, 1) := by decide +kernel
theorem dX7_holds_42 : decode cX7_holds 42 = .ok (.getfield 19, 3) := by decide +kernel
theorem dX7_holds_45 : decode cX7_holds 45 = .ok (.iconst 0, 1) := by decide +kernel
theorem dX7_holds_46 : decode cX7_holds 46 = .ok (.iaload, 1) := by decide +kernel
theorem dX7_holds_47 : decode cX7_holds 47 = .ok (.bipush 12, 2) := by decide +kernel
theorem dX7_holds_49 : decode cX7_holds 49 = .ok (.if_icmp .ne 6, 3) := by decide +kernel
theorem dX7_holds_52 : decode cX7_holds 52 = .ok (.bipush (-3), 2) := by decide +kernel
theorem dX7_holds_54 : decode cX7_holds 54 = .ok (.ireturn, 1) := by decide +kernel
theorem dX7_holds_55 : decode cX7_holds 55 = .ok (.aload_n 0, 1) := by decide +kernel
theorem dX7_holds_56 : decode cX7_holds 56 = .ok (.getfield 19, 3) := by decide +kernel
theorem dX7_holds_59 : decode cX7_holds 59 = .ok (.iconst 0, 1) := by decide +kernel
theorem dX7_holds_60 : decode cX7_holds 60 = .ok (.iaload, 1) := by decide +kernel
theorem dX7_holds_61 : decode cX7_holds 61 = .ok (.istore 5, 2) := by decide +kernel
theorem dX7_holds_63 : decode cX7_holds 63 = .ok (.aload_n 0, 1) := by decide +kernel
theorem dX7_holds_64 : decode cX7_holds 64 = .ok (.getfield 19, 3) := by decide +kernel
theorem dX7_holds_67 : decode cX7_holds 67 = .ok (.iconst 1, 1) := by decide +kernel
theorem dX7_holds_68 : decode cX7_holds 68 = .ok (.iload 5, 2) := by decide +kernel
theorem dX7_holds_70 : decode cX7_holds 70 = .ok (.iadd, 1) := by decide +kernel
theorem dX7_holds_71 : decode cX7_holds 71 = .ok (.iload_n 1, 1) := by decide +kernel
theorem dX7_holds_72 : decode cX7_holds 72 = .ok (.iastore, 1) := by decide +kernel
theorem dX7_holds_73 : decode cX7_holds 73 = .ok (.aload_n 0, 1) := by decide +kernel
theorem dX7_holds_74 : decode cX7_holds 74 = .ok (.getfield 19, 3) := by decide +kernel
theorem dX7_holds_77 : decode cX7_holds 77 = .ok (.bipush 13, 2) := by decide +kernel
theorem dX7_holds_79 : decode cX7_holds 79 = .ok (.iload 5, 2) := by decide +kernel
theorem dX7_holds_81 : decode cX7_holds 81 = .ok (.iadd, 1) := by decide +kernel
theorem dX7_holds_82 : decode cX7_holds 82 = .ok (.iload_n 2, 1) := by decide +kernel
theorem dX7_holds_83 : decode cX7_holds 83 = .ok (.iastore, 1) := by decide +kernel
theorem dX7_holds_84 : decode cX7_holds 84 = .ok (.aload_n 0, 1) := by decide +kernel
theorem dX7_holds_85 : decode cX7_holds 85 = .ok (.getfield 19, 3) := by decide +kernel
theorem dX7_holds_88 : decode cX7_holds 88 = .ok (.bipush 25, 2) := by decide +kernel
theorem dX7_holds_90 : decode cX7_holds 90 = .ok (.iload 5, 2) := by decide +kernel
theorem dX7_holds_92 : decode cX7_holds 92 = .ok (.iadd, 1) := by decide +kernel
theorem dX7_holds_93 : decode cX7_holds 93 = .ok (.iload_n 3, 1) := by decide +kernel
theorem dX7_holds_94 : decode cX7_holds 94 = .ok (.iastore, 1) := by decide +kernel
theorem dX7_holds_95 : decode cX7_holds 95 = .ok (.aload_n 0, 1) := by decide +kernel
theorem dX7_holds_96 : decode cX7_holds 96 = .ok (.getfield 19, 3) := by decide +kernel
theorem dX7_holds_99 : decode cX7_holds 99 = .ok (.bipush 37, 2) := by decide +kernel
theorem dX7_holds_101 : decode cX7_holds 101 = .ok (.iload 5, 2) := by decide +kernel
theorem dX7_holds_103 : decode cX7_holds 103 = .ok (.iadd, 1) := by decide +kernel
theorem dX7_holds_104 : decode cX7_holds 104 = .ok (.iload 4, 2) := by decide +kernel
theorem dX7_holds_106 : decode cX7_holds 106 = .ok (.iastore, 1) := by decide +kernel
theorem dX7_holds_107 : decode cX7_holds 107 = .ok (.aload_n 0, 1) := by decide +kernel
theorem dX7_holds_108 : decode cX7_holds 108 = .ok (.getfield 19, 3) := by decide +kernel
theorem dX7_holds_111 : decode cX7_holds 111 = .ok (.iconst 0, 1) := by decide +kernel
theorem dX7_holds_112 : decode cX7_holds 112 = .ok (.dup2, 1) := by decide +kernel
theorem dX7_holds_113 : decode cX7_holds 113 = .ok (.iaload, 1) := by decide +kernel
theorem dX7_holds_114 : decode cX7_holds 114 = .ok (.iconst 1, 1) := by decide +kernel
theorem dX7_holds_115 : decode cX7_holds 115 = .ok (.iadd, 1) := by decide +kernel
theorem dX7_holds_116 : decode cX7_holds 116 = .ok (.iastore, 1) := by decide +kernel
theorem dX7_holds_117 : decode cX7_holds 117 = .ok (.aload_n 0, 1) := by decide +kernel
theorem dX7_holds_118 : decode cX7_holds 118 = .ok (.getfield 19, 3) := by decide +kernel
theorem dX7_holds_121 : decode cX7_holds 121 = .ok (.iconst 0, 1) := by decide +kernel
theorem dX7_holds_122 : decode cX7_holds 122 = .ok (.iaload, 1) := by decide +kernel
theorem dX7_holds_123 : decode cX7_holds 123 = .ok (.ireturn, 1) := by decide +kernel
theorem dX7_undo_0 : decode cX7_undo 0 = .ok (.aload_n 0, 1) := by decide +kernel
theorem dX7_undo_1 : decode cX7_undo 1 = .ok (.getfield 19, 3) := by decide +kernel
theorem dX7_undo_4 : decode cX7_undo 4 = .ok (.iconst 0, 1) := by decide +kernel
theorem dX7_undo_5 : decode cX7_undo 5 = .ok (.iaload, 1) := by decide +kernel
theorem dX7_undo_6 : decode cX7_undo 6 = .ok (.ifCond .ne 6, 3) := by decide +kernel
theorem dX7_undo_9 : decode cX7_undo 9 = .ok (.bipush (-2), 2) := by decide +kernel
theorem dX7_undo_11 : decode cX7_undo 11 = .ok (.ireturn, 1) := by decide +kernel
theorem dX7_undo_12 : decode cX7_undo 12 = .ok (.aload_n 0, 1) := by decide +kernel
theorem dX7_undo_13 : decode cX7_undo 13 = .ok (.getfield 19, 3) := by decide +kernel
theorem dX7_undo_16 : decode cX7_undo 16 = .ok (.iconst 0, 1) := by decide +kernel
theorem dX7_undo_17 : decode cX7_undo 17 = .ok (.dup2, 1) := by decide +kernel
theorem dX7_undo_18 : decode cX7_undo 18 = .ok (.iaload, 1) := by decide +kernel
theorem dX7_undo_19 : decode cX7_undo 19 = .ok (.iconst 1, 1) := by decide +kernel
theorem dX7_undo_20 : decode cX7_undo 20 = .ok (.isub, 1) := by decide +kernel
theorem dX7_undo_21 : decode cX7_undo 21 = .ok (.iastore, 1) := by decide +kernel
theorem dX7_undo_22 : decode cX7_undo 22 = .ok (.aload_n 0, 1) := by decide +kernel
theorem dX7_undo_23 : decode cX7_undo 23 = .ok (.getfield 19, 3) := by decide +kernel
theorem dX7_undo_26 : decode cX7_undo 26 = .ok (.iconst 0, 1) := by decide +kernel
theorem dX7_undo_27 : decode cX7_undo 27 = .ok (.iaload, 1) := by decide +kernel
theorem dX7_undo_28 : decode cX7_undo 28 = .ok (.ireturn, 1) := by decide +kernel
theorem dX7_held_0 : decode cX7_held 0 = .ok (.iload_n 1, 1) := by decide +kernel
theorem dX7_held_1 : decode cX7_held 1 = .ok (.iconst 0, 1) := by decide +kernel
theorem dX7_held_2 : decode cX7_held 2 = .ok (.aload_n 0, 1) := by decide +kernel
theorem dX7_held_3 : decode cX7_held 3 = .ok (.getfield 19, 3) := by decide +kernel
theorem dX7_held_6 : decode cX7_held 6 = .ok (.iconst 0, 1) := by decide +kernel
theorem dX7_held_7 : decode cX7_held 7 = .ok (.iaload, 1) := by decide +kernel
theorem dX7_held_8 : decode cX7_held 8 = .ok (.iconst 1, 1) := by decide +kernel
theorem dX7_held_9 : decode cX7_held 9 = .ok (.isub, 1) := by decide +kernel
theorem dX7_held_10 : decode cX7_held 10 = .ok (.invokestatic 54, 3) := by decide +kernel
theorem dX7_held_13 : decode cX7_held 13 = .ok (.ifCond .eq 12, 3) := by decide +kernel
theorem dX7_held_16 : decode cX7_held 16 = .ok (.iload_n 2, 1) := by decide +kernel
theorem dX7_held_17 : decode cX7_held 17 = .ok (.iconst 0, 1) := by decide +kernel
theorem dX7_held_18 : decode cX7_held 18 = .ok (.iconst 3, 1) := by decide +kernel
theorem dX7_held_19 : decode cX7_held 19 = .ok (.invokestatic 54, 3) := by decide +kernel
theorem dX7_held_22 : decode cX7_held 22 = .ok (.ifCond .ne 5, 3) := by decide +kernel
theorem dX7_held_25 : decode cX7_held 25 = .ok (.iconst (-1), 1) := by decide +kernel
theorem dX7_held_26 : decode cX7_held 26 = .ok (.ireturn, 1) := by decide +kernel
theorem dX7_held_27 : decode cX7_held 27 = .ok (.aload_n 0, 1) := by decide +kernel
theorem dX7_held_28 : decode cX7_held 28 = .ok (.getfield 19, 3) := by decide +kernel
theorem dX7_held_31 : decode cX7_held 31 = .ok (.iconst 1, 1) := by decide +kernel
theorem dX7_held_32 : decode cX7_held 32 = .ok (.bipush 12, 2) := by decide +kernel
theorem dX7_held_34 : decode cX7_held 34 = .ok (.iload_n 2, 1) := by decide +kernel
theorem dX7_held_35 : decode cX7_held 35 = .ok (.imul, 1) := by decide +kernel
theorem dX7_held_36 : decode cX7_held 36 = .ok (.iadd, 1) := by decide +kernel
theorem dX7_held_37 : decode cX7_held 37 = .ok (.iload_n 1, 1) := by decide +kernel
theorem dX7_held_38 : decode cX7_held 38 = .ok (.iadd, 1) := by decide +kernel
theorem dX7_held_39 : decode cX7_held 39 = .ok (.iaload, 1) := by decide +kernel
theorem dX7_held_40 : decode cX7_held 40 = .ok (.ireturn, 1) := by decide +kernel
theorem dX7_plain_0 : decode cX7_plain 0 = .ok (.iconst 0, 1) := by decide +kernel
theorem dX7_plain_1 : decode cX7_plain 1 = .ok (.istore_n 3, 1) := by decide +kernel
theorem dX7_plain_2 : decode cX7_plain 2 = .ok (.iconst 0, 1) := by decide +kernel
theorem dX7_plain_3 : decode cX7_plain 3 = .ok (.istore 4, 2) := by decide +kernel
theorem dX7_plain_5 : decode cX7_plain 5 = .ok (.iload 4, 2) := by decide +kernel
theorem dX7_plain_7 : decode cX7_plain 7 = .ok (.iload_n 2, 1) := by decide +kernel
theorem dX7_plain_8 : decode cX7_plain 8 = .ok (.if_icmp .gt 45, 3) := by decide +kernel
theorem dX7_plain_11 : decode cX7_plain 11 = .ok (.iload_n 3, 1) := by decide +kernel
theorem dX7_plain_12 : decode cX7_plain 12 = .ok (.aload_n 0, 1) := by decide +kernel
theorem dX7_plain_13 : decode cX7_plain 13 = .ok (.iload_n 1, 1) := by decide +kernel
theorem dX7_plain_14 : decode cX7_plain 14 = .ok (.iload 4, 2) := by decide +kernel
theorem dX7_plain_16 : decode cX7_plain 16 = .ok (.invokevirtual 126, 3) := by decide +kernel
theorem dX7_plain_19 : decode cX7_plain 19 = .ok (.ifCond .ne 25, 3) := by decide +kernel
theorem dX7_plain_22 : decode cX7_plain 22 = .ok (.aload_n 0, 1) := by decide +kernel
theorem dX7_plain_23 : decode cX7_plain 23 = .ok (.getfield 13, 3) := by decide +kernel
theorem dX7_plain_26 : decode cX7_plain 26 = .ok (.bipush 13, 2) := by decide +kernel
theorem dX7_plain_28 : decode cX7_plain 28 = .ok (.iload 4, 2) := by decide +kernel
theorem dX7_plain_30 : decode cX7_plain 30 = .ok (.iadd, 1) := by decide +kernel
theorem dX7_plain_31 : decode cX7_plain 31 = .ok (.iaload, 1) := by decide +kernel
theorem dX7_plain_32 : decode cX7_plain 32 = .ok (.aload_n 0, 1) := by decide +kernel
theorem dX7_plain_33 : decode cX7_plain 33 = .ok (.getfield 13, 3) := by decide +kernel
theorem dX7_plain_36 : decode cX7_plain 36 = .ok (.iconst 4, 1) := by decide +kernel
theorem dX7_plain_37 : decode cX7_plain 37 = .ok (.iload_n 1, 1) := by decide +kernel
theorem dX7_plain_38 : decode cX7_plain 38 = .ok (.iadd, 1) := by decide +kernel
theorem dX7_plain_39 : decode cX7_plain 39 = .ok (.iaload, 1) := by decide +kernel
theorem dX7_plain_40 : decode cX7_plain 40 = .ok (.imul, 1) := by decide +kernel
theorem dX7_plain_41 : decode cX7_plain 41 = .ok (.goto 4, 3) := by decide +kernel
theorem dX7_plain_44 : decode cX7_plain 44 = .ok (.iconst 0, 1) := by decide +kernel
theorem dX7_plain_45 : decode cX7_plain 45 = .ok (.iadd, 1) := by decide +kernel
theorem dX7_plain_46 : decode cX7_plain 46 = .ok (.istore_n 3, 1) := by decide +kernel
theorem dX7_plain_47 : decode cX7_plain 47 = .ok (.iinc 4 1, 3) := by decide +kernel
theorem dX7_plain_50 : decode cX7_plain 50 = .ok (.goto (-45), 3) := by decide +kernel
theorem dX7_plain_53 : decode cX7_plain 53 = .ok (.iload_n 3, 1) := by decide +kernel
theorem dX7_plain_54 : decode cX7_plain 54 = .ok (.ireturn, 1) := by decide +kernel
theorem dX7_rustOf_0 : decode cX7_rustOf 0 = .ok (.aload_n 0, 1) := by decide +kernel
theorem dX7_rustOf_1 : decode cX7_rustOf 1 = .ok (.iload_n 1, 1) := by decide +kernel
theorem dX7_rustOf_2 : decode cX7_rustOf 2 = .ok (.iload_n 2, 1) := by decide +kernel
theorem dX7_rustOf_3 : decode cX7_rustOf 3 = .ok (.invokevirtual 129, 3) := by decide +kernel
theorem dX7_rustOf_6 : decode cX7_rustOf 6 = .ok (.istore_n 3, 1) := by decide +kernel
theorem dX7_rustOf_7 : decode cX7_rustOf 7 = .ok (.iconst 0, 1) := by decide +kernel
theorem dX7_rustOf_8 : decode cX7_rustOf 8 = .ok (.istore 4, 2) := by decide +kernel
theorem dX7_rustOf_10 : decode cX7_rustOf 10 = .ok (.iload 4, 2) := by decide +kernel
theorem dX7_rustOf_12 : decode cX7_rustOf 12 = .ok (.aload_n 0, 1) := by decide +kernel
theorem dX7_rustOf_13 : decode cX7_rustOf 13 = .ok (.getfield 19, 3) := by decide +kernel
theorem dX7_rustOf_16 : decode cX7_rustOf 16 = .ok (.iconst 0, 1) := by decide +kernel
theorem dX7_rustOf_17 : decode cX7_rustOf 17 = .ok (.iaload, 1) := by decide +kernel
theorem dX7_rustOf_18 : decode cX7_rustOf 18 = .ok (.if_icmp .ge 103, 3) := by decide +kernel
theorem dX7_rustOf_21 : decode cX7_rustOf 21 = .ok (.iconst 0, 1) := by decide +kernel
theorem dX7_rustOf_22 : decode cX7_rustOf 22 = .ok (.istore 5, 2) := by decide +kernel
theorem dX7_rustOf_24 : decode cX7_rustOf 24 = .ok (.iload 5, 2) := by decide +kernel
theorem dX7_rustOf_26 : decode cX7_rustOf 26 = .ok (.aload_n 0, 1) := by decide +kernel
theorem dX7_rustOf_27 : decode cX7_rustOf 27 = .ok (.getfield 19, 3) := by decide +kernel
theorem dX7_rustOf_30 : decode cX7_rustOf 30 = .ok (.bipush 37, 2) := by decide +kernel
theorem dX7_rustOf_32 : decode cX7_rustOf 32 = .ok (.iload 4, 2) := by decide +kernel
theorem dX7_rustOf_34 : decode cX7_rustOf 34 = .ok (.iadd, 1) := by decide +kernel
theorem dX7_rustOf_35 : decode cX7_rustOf 35 = .ok (.iaload, 1) := by decide +kernel
theorem dX7_rustOf_36 : decode cX7_rustOf 36 = .ok (.if_icmp .ge 79, 3) := by decide +kernel
theorem dX7_rustOf_39 : decode cX7_rustOf 39 = .ok (.aload_n 0, 1) := by decide +kernel
theorem dX7_rustOf_40 : decode cX7_rustOf 40 = .ok (.getfield 19, 3) := by decide +kernel
theorem dX7_rustOf_43 : decode cX7_rustOf 43 = .ok (.bipush 25, 2) := by decide +kernel
theorem dX7_rustOf_45 : decode cX7_rustOf 45 = .ok (.iload 4, 2) := by decide +kernel
theorem dX7_rustOf_47 : decode cX7_rustOf 47 = .ok (.iadd, 1) := by decide +kernel
theorem dX7_rustOf_48 : decode cX7_rustOf 48 = .ok (.iaload, 1) := by decide +kernel
theorem dX7_rustOf_49 : decode cX7_rustOf 49 = .ok (.iload 5, 2) := by decide +kernel
theorem dX7_rustOf_51 : decode cX7_rustOf 51 = .ok (.iadd, 1) := by decide +kernel
theorem dX7_rustOf_52 : decode cX7_rustOf 52 = .ok (.istore 6, 2) := by decide +kernel
theorem dX7_rustOf_54 : decode cX7_rustOf 54 = .ok (.iload_n 3, 1) := by decide +kernel
theorem dX7_rustOf_55 : decode cX7_rustOf 55 = .ok (.aload_n 0, 1) := by decide +kernel
theorem dX7_rustOf_56 : decode cX7_rustOf 56 = .ok (.getfield 19, 3) := by decide +kernel
theorem dX7_rustOf_59 : decode cX7_rustOf 59 = .ok (.bipush 13, 2) := by decide +kernel
theorem dX7_rustOf_61 : decode cX7_rustOf 61 = .ok (.iload 4, 2) := by decide +kernel
theorem dX7_rustOf_63 : decode cX7_rustOf 63 = .ok (.iadd, 1) := by decide +kernel
theorem dX7_rustOf_64 : decode cX7_rustOf 64 = .ok (.iaload, 1) := by decide +kernel
theorem dX7_rustOf_65 : decode cX7_rustOf 65 = .ok (.iload_n 1, 1) := by decide +kernel
theorem dX7_rustOf_66 : decode cX7_rustOf 66 = .ok (.if_icmp .ne 40, 3) := by decide +kernel
theorem dX7_rustOf_69 : decode cX7_rustOf 69 = .ok (.iload 6, 2) := by decide +kernel
theorem dX7_rustOf_71 : decode cX7_rustOf 71 = .ok (.iload_n 2, 1) := by decide +kernel
theorem dX7_rustOf_72 : decode cX7_rustOf 72 = .ok (.if_icmp .gt 34, 3) := by decide +kernel
theorem dX7_rustOf_75 : decode cX7_rustOf 75 = .ok (.aload_n 0, 1) := by decide +kernel
theorem dX7_rustOf_76 : decode cX7_rustOf 76 = .ok (.iload_n 1, 1) := by decide +kernel
theorem dX7_rustOf_77 : decode cX7_rustOf 77 = .ok (.iload 6, 2) := by decide +kernel
theorem dX7_rustOf_79 : decode cX7_rustOf 79 = .ok (.invokevirtual 126, 3) := by decide +kernel
theorem dX7_rustOf_82 : decode cX7_rustOf 82 = .ok (.iconst 2, 1) := by decide +kernel
theorem dX7_rustOf_83 : decode cX7_rustOf 83 = .ok (.if_icmp .eq 23, 3) := by decide +kernel
theorem dX7_rustOf_86 : decode cX7_rustOf 86 = .ok (.aload_n 0, 1) := by decide +kernel
theorem dX7_rustOf_87 : decode cX7_rustOf 87 = .ok (.getfield 13, 3) := by decide +kernel
theorem dX7_rustOf_90 : decode cX7_rustOf 90 = .ok (.bipush 10, 2) := by decide +kernel
theorem dX7_rustOf_92 : decode cX7_rustOf 92 = .ok (.aload_n 0, 1) := by decide +kernel
theorem dX7_rustOf_93 : decode cX7_rustOf 93 = .ok (.getfield 19, 3) := by decide +kernel
theorem dX7_rustOf_96 : decode cX7_rustOf 96 = .ok (.iconst 1, 1) := by decide +kernel
theorem dX7_rustOf_97 : decode cX7_rustOf 97 = .ok (.iload 4, 2) := by decide +kernel
theorem dX7_rustOf_99 : decode cX7_rustOf 99 = .ok (.iadd, 1) := by decide +kernel
theorem dX7_rustOf_100 : decode cX7_rustOf 100 = .ok (.iaload, 1) := by decide +kernel
theorem dX7_rustOf_101 : decode cX7_rustOf 101 = .ok (.iadd, 1) := by decide +kernel
theorem dX7_rustOf_102 : decode cX7_rustOf 102 = .ok (.iaload, 1) := by decide +kernel
theorem dX7_rustOf_103 : decode cX7_rustOf 103 = .ok (.goto 4, 3) := by decide +kernel
theorem dX7_rustOf_106 : decode cX7_rustOf 106 = .ok (.iconst 0, 1) := by decide +kernel
theorem dX7_rustOf_107 : decode cX7_rustOf 107 = .ok (.iadd, 1) := by decide +kernel
theorem dX7_rustOf_108 : decode cX7_rustOf 108 = .ok (.istore_n 3, 1) := by decide +kernel
theorem dX7_rustOf_109 : decode cX7_rustOf 109 = .ok (.iinc 5 1, 3) := by decide +kernel
theorem dX7_rustOf_112 : decode cX7_rustOf 112 = .ok (.goto (-88), 3) := by decide +kernel
theorem dX7_rustOf_115 : decode cX7_rustOf 115 = .ok (.iinc 4 1, 3) := by decide +kernel
theorem dX7_rustOf_118 : decode cX7_rustOf 118 = .ok (.goto (-108), 3) := by decide +kernel
theorem dX7_rustOf_121 : decode cX7_rustOf 121 = .ok (.iload_n 3, 1) := by decide +kernel
theorem dX7_rustOf_122 : decode cX7_rustOf 122 = .ok (.ireturn, 1) := by decide +kernel
theorem dX7_rust_0 : decode cX7_rust 0 = .ok (.aload_n 0, 1) := by decide +kernel
theorem dX7_rust_1 : decode cX7_rust 1 = .ok (.iload_n 1, 1) := by decide +kernel
theorem dX7_rust_2 : decode cX7_rust 2 = .ok (.invokevirtual 120, 3) := by decide +kernel
theorem dX7_rust_5 : decode cX7_rust 5 = .ok (.ifCond .eq 22, 3) := by decide +kernel
theorem dX7_rust_8 : decode cX7_rust 8 = .ok (.iload_n 2, 1) := by decide +kernel
theorem dX7_rust_9 : decode cX7_rust 9 = .ok (.iconst 0, 1) := by decide +kernel
theorem dX7_rust_10 : decode cX7_rust 10 = .ok (.bipush 9, 2) := by decide +kernel
theorem dX7_rust_12 : decode cX7_rust 12 = .ok (.invokestatic 54, 3) := by decide +kernel
theorem dX7_rust_15 : decode cX7_rust 15 = .ok (.ifCond .eq 12, 3) := by decide +kernel
theorem dX7_rust_18 : decode cX7_rust 18 = .ok (.aload_n 0, 1) := by decide +kernel
theorem dX7_rust_19 : decode cX7_rust 19 = .ok (.iload_n 1, 1) := by decide +kernel
theorem dX7_rust_20 : decode cX7_rust 20 = .ok (.iload_n 2, 1) := by decide +kernel
theorem dX7_rust_21 : decode cX7_rust 21 = .ok (.invokevirtual 132, 3) := by decide +kernel
theorem dX7_rust_24 : decode cX7_rust 24 = .ok (.goto 4, 3) := by decide +kernel
theorem dX7_rust_27 : decode cX7_rust 27 = .ok (.iconst (-1), 1) := by decide +kernel
theorem dX7_rust_28 : decode cX7_rust 28 = .ok (.ireturn, 1) := by decide +kernel
theorem dX7_saw_0 : decode cX7_saw 0 = .ok (.aload_n 0, 1) := by decide +kernel
theorem dX7_saw_1 : decode cX7_saw 1 = .ok (.iload_n 1, 1) := by decide +kernel
theorem dX7_saw_2 : decode cX7_saw 2 = .ok (.invokevirtual 120, 3) := by decide +kernel
theorem dX7_saw_5 : decode cX7_saw 5 = .ok (.ifCond .eq 14, 3) := by decide +kernel
theorem dX7_saw_8 : decode cX7_saw 8 = .ok (.iload_n 2, 1) := by decide +kernel
theorem dX7_saw_9 : decode cX7_saw 9 = .ok (.iconst 0, 1) := by decide +kernel
theorem dX7_saw_10 : decode cX7_saw 10 = .ok (.sipush 999, 3) := by decide +kernel
theorem dX7_saw_13 : decode cX7_saw 13 = .ok (.invokestatic 54, 3) := by decide +kernel
theorem dX7_saw_16 : decode cX7_saw 16 = .ok (.ifCond .ne 5, 3) := by decide +kernel
theorem dX7_saw_19 : decode cX7_saw 19 = .ok (.iconst (-1), 1) := by decide +kernel
theorem dX7_saw_20 : decode cX7_saw 20 = .ok (.ireturn, 1) := by decide +kernel
theorem dX7_saw_21 : decode cX7_saw 21 = .ok (.aload_n 0, 1) := by decide +kernel
theorem dX7_saw_22 : decode cX7_saw 22 = .ok (.getfield 19, 3) := by decide +kernel
theorem dX7_saw_25 : decode cX7_saw 25 = .ok (.bipush 49, 2) := by decide +kernel
theorem dX7_saw_27 : decode cX7_saw 27 = .ok (.iload_n 1, 1) := by decide +kernel
theorem dX7_saw_28 : decode cX7_saw 28 = .ok (.iadd, 1) := by decide +kernel
theorem dX7_saw_29 : decode cX7_saw 29 = .ok (.iaload, 1) := by decide +kernel
theorem dX7_saw_30 : decode cX7_saw 30 = .ok (.istore_n 3, 1) := by decide +kernel
theorem dX7_saw_31 : decode cX7_saw 31 = .ok (.aload_n 0, 1) := by decide +kernel
theorem dX7_saw_32 : decode cX7_saw 32 = .ok (.getfield 19, 3) := by decide +kernel
theorem dX7_saw_35 : decode cX7_saw 35 = .ok (.bipush 49, 2) := by decide +kernel
theorem dX7_saw_37 : decode cX7_saw 37 = .ok (.iload_n 1, 1) := by decide +kernel
theorem dX7_saw_38 : decode cX7_saw 38 = .ok (.iadd, 1) := by decide +kernel
theorem dX7_saw_39 : decode cX7_saw 39 = .ok (.iload_n 2, 1) := by decide +kernel
theorem dX7_saw_40 : decode cX7_saw 40 = .ok (.iastore, 1) := by decide +kernel
theorem dX7_saw_41 : decode cX7_saw 41 = .ok (.iload_n 3, 1) := by decide +kernel
theorem dX7_saw_42 : decode cX7_saw 42 = .ok (.ireturn, 1) := by decide +kernel
theorem dX7_hide_0 : decode cX7_hide 0 = .ok (.aload_n 0, 1) := by decide +kernel
theorem dX7_hide_1 : decode cX7_hide 1 = .ok (.iload_n 1, 1) := by decide +kernel
theorem dX7_hide_2 : decode cX7_hide 2 = .ok (.invokevirtual 120, 3) := by decide +kernel
theorem dX7_hide_5 : decode cX7_hide 5 = .ok (.ifCond .ne 5, 3) := by decide +kernel
theorem dX7_hide_8 : decode cX7_hide 8 = .ok (.iconst (-1), 1) := by decide +kernel
theorem dX7_hide_9 : decode cX7_hide 9 = .ok (.ireturn, 1) := by decide +kernel
theorem dX7_hide_10 : decode cX7_hide 10 = .ok (.aload_n 0, 1) := by decide +kernel
theorem dX7_hide_11 : decode cX7_hide 11 = .ok (.getfield 19, 3) := by decide +kernel
theorem dX7_hide_14 : decode cX7_hide 14 = .ok (.bipush 49, 2) := by decide +kernel
theorem dX7_hide_16 : decode cX7_hide 16 = .ok (.iload_n 1, 1) := by decide +kernel
theorem dX7_hide_17 : decode cX7_hide 17 = .ok (.iadd, 1) := by decide +kernel
theorem dX7_hide_18 : decode cX7_hide 18 = .ok (.iaload, 1) := by decide +kernel
theorem dX7_hide_19 : decode cX7_hide 19 = .ok (.bipush (-9), 2) := by decide +kernel
theorem dX7_hide_21 : decode cX7_hide 21 = .ok (.if_icmp .ne 6, 3) := by decide +kernel
theorem dX7_hide_24 : decode cX7_hide 24 = .ok (.bipush (-2), 2) := by decide +kernel
theorem dX7_hide_26 : decode cX7_hide 26 = .ok (.ireturn, 1) := by decide +kernel
theorem dX7_hide_27 : decode cX7_hide 27 = .ok (.aload_n 0, 1) := by decide +kernel
theorem dX7_hide_28 : decode cX7_hide 28 = .ok (.getfield 19, 3) := by decide +kernel
theorem dX7_hide_31 : decode cX7_hide 31 = .ok (.bipush 49, 2) := by decide +kernel
theorem dX7_hide_33 : decode cX7_hide 33 = .ok (.iload_n 1, 1) := by decide +kernel
theorem dX7_hide_34 : decode cX7_hide 34 = .ok (.iadd, 1) := by decide +kernel
theorem dX7_hide_35 : decode cX7_hide 35 = .ok (.iaload, 1) := by decide +kernel
theorem dX7_hide_36 : decode cX7_hide 36 = .ok (.istore_n 2, 1) := by decide +kernel
theorem dX7_hide_37 : decode cX7_hide 37 = .ok (.aload_n 0, 1) := by decide +kernel
theorem dX7_hide_38 : decode cX7_hide 38 = .ok (.getfield 19, 3) := by decide +kernel
theorem dX7_hide_41 : decode cX7_hide 41 = .ok (.bipush 49, 2) := by decide +kernel
theorem dX7_hide_43 : decode cX7_hide 43 = .ok (.iload_n 1, 1) := by decide +kernel
theorem dX7_hide_44 : decode cX7_hide 44 = .ok (.iadd, 1) := by decide +kernel
theorem dX7_hide_45 : decode cX7_hide 45 = .ok (.bipush (-9), 2) := by decide +kernel
theorem dX7_hide_47 : decode cX7_hide 47 = .ok (.iastore, 1) := by decide +kernel
theorem dX7_hide_48 : decode cX7_hide 48 = .ok (.iload_n 2, 1) := by decide +kernel
theorem dX7_hide_49 : decode cX7_hide 49 = .ok (.ireturn, 1) := by decide +kernel
theorem dX7_seen_0 : decode cX7_seen 0 = .ok (.aload_n 0, 1) := by decide +kernel
theorem dX7_seen_1 : decode cX7_seen 1 = .ok (.iload_n 1, 1) := by decide +kernel
theorem dX7_seen_2 : decode cX7_seen 2 = .ok (.invokevirtual 120, 3) := by decide +kernel
theorem dX7_seen_5 : decode cX7_seen 5 = .ok (.ifCond .eq 15, 3) := by decide +kernel
theorem dX7_seen_8 : decode cX7_seen 8 = .ok (.aload_n 0, 1) := by decide +kernel
theorem dX7_seen_9 : decode cX7_seen 9 = .ok (.getfield 19, 3) := by decide +kernel
theorem dX7_seen_12 : decode cX7_seen 12 = .ok (.bipush 49, 2) := by decide +kernel
theorem dX7_seen_14 : decode cX7_seen 14 = .ok (.iload_n 1, 1) := by decide +kernel
theorem dX7_seen_15 : decode cX7_seen 15 = .ok (.iadd, 1) := by decide +kernel
theorem dX7_seen_16 : decode cX7_seen 16 = .ok (.iaload, 1) := by decide +kernel
theorem dX7_seen_17 : decode cX7_seen 17 = .ok (.goto 4, 3) := by decide +kernel
theorem dX7_seen_20 : decode cX7_seen 20 = .ok (.iconst (-1), 1) := by decide +kernel
theorem dX7_seen_21 : decode cX7_seen 21 = .ok (.ireturn, 1) := by decide +kernel
theorem dX7_lays_0 : decode cX7_lays 0 = .ok (.iconst 0, 1) := by decide +kernel
theorem dX7_lays_1 : decode cX7_lays 1 = .ok (.istore_n 1, 1) := by decide +kernel
theorem dX7_lays_2 : decode cX7_lays 2 = .ok (.iload_n 1, 1) := by decide +kernel
theorem dX7_lays_3 : decode cX7_lays 3 = .ok (.aload_n 0, 1) := by decide +kernel
theorem dX7_lays_4 : decode cX7_lays 4 = .ok (.getfield 13, 3) := by decide +kernel
theorem dX7_lays_7 : decode cX7_lays 7 = .ok (.iconst 0, 1) := by decide +kernel
theorem dX7_lays_8 : decode cX7_lays 8 = .ok (.iaload, 1) := by decide +kernel
theorem dX7_lays_9 : decode cX7_lays 9 = .ok (.if_icmp .ge 68, 3) := by decide +kernel
theorem dX7_lays_12 : decode cX7_lays 12 = .ok (.aload_n 0, 1) := by decide +kernel
theorem dX7_lays_13 : decode cX7_lays 13 = .ok (.getfield 29, 3) := by decide +kernel
theorem dX7_lays_16 : decode cX7_lays 16 = .ok (.iload_n 1, 1) := by decide +kernel
theorem dX7_lays_17 : decode cX7_lays 17 = .ok (.aload_n 0, 1) := by decide +kernel
theorem dX7_lays_18 : decode cX7_lays 18 = .ok (.iload_n 1, 1) := by decide +kernel
theorem dX7_lays_19 : decode cX7_lays 19 = .ok (.bipush 9, 2) := by decide +kernel
theorem dX7_lays_21 : decode cX7_lays 21 = .ok (.invokevirtual 129, 3) := by decide +kernel
theorem dX7_lays_24 : decode cX7_lays 24 = .ok (.iastore, 1) := by decide +kernel
theorem dX7_lays_25 : decode cX7_lays 25 = .ok (.iconst 0, 1) := by decide +kernel
theorem dX7_lays_26 : decode cX7_lays 26 = .ok (.istore_n 2, 1) := by decide +kernel
theorem dX7_lays_27 : decode cX7_lays 27 = .ok (.iconst 0, 1) := by decide +kernel
theorem dX7_lays_28 : decode cX7_lays 28 = .ok (.istore_n 3, 1) := by decide +kernel
theorem dX7_lays_29 : decode cX7_lays 29 = .ok (.iload_n 3, 1) := by decide +kernel
theorem dX7_lays_30 : decode cX7_lays 30 = .ok (.bipush 10, 2) := by decide +kernel
theorem dX7_lays_32 : decode cX7_lays 32 = .ok (.if_icmp .ge 39, 3) := by decide +kernel
theorem dX7_lays_35 : decode cX7_lays 35 = .ok (.iload_n 2, 1) := by decide +kernel
theorem dX7_lays_36 : decode cX7_lays 36 = .ok (.aload_n 0, 1) := by decide +kernel
theorem dX7_lays_37 : decode cX7_lays 37 = .ok (.iload_n 1, 1) := by decide +kernel
theorem dX7_lays_38 : decode cX7_lays 38 = .ok (.iload_n 3, 1) := by decide +kernel
theorem dX7_lays_39 : decode cX7_lays 39 = .ok (.invokevirtual 126, 3) := by decide +kernel
theorem dX7_lays_42 : decode cX7_lays 42 = .ok (.iconst 2, 1) := by decide +kernel
theorem dX7_lays_43 : decode cX7_lays 43 = .ok (.if_icmp .ne 7, 3) := by decide +kernel
theorem dX7_lays_46 : decode cX7_lays 46 = .ok (.iconst 0, 1) := by decide +kernel
theorem dX7_lays_47 : decode cX7_lays 47 = .ok (.goto 4, 3) := by decide +kernel
theorem dX7_lays_50 : decode cX7_lays 50 = .ok (.iconst 1, 1) := by decide +kernel
theorem dX7_lays_51 : decode cX7_lays 51 = .ok (.iadd, 1) := by decide +kernel
theorem dX7_lays_52 : decode cX7_lays 52 = .ok (.istore_n 2, 1) := by decide +kernel
theorem dX7_lays_53 : decode cX7_lays 53 = .ok (.aload_n 0, 1) := by decide +kernel
theorem dX7_lays_54 : decode cX7_lays 54 = .ok (.getfield 32, 3) := by decide +kernel
theorem dX7_lays_57 : decode cX7_lays 57 = .ok (.bipush 10, 2) := by decide +kernel
theorem dX7_lays_59 : decode cX7_lays 59 = .ok (.iload_n 1, 1) := by decide +kernel
theorem dX7_lays_60 : decode cX7_lays 60 = .ok (.imul, 1) := by decide +kernel
theorem dX7_lays_61 : decode cX7_lays 61 = .ok (.iload_n 3, 1) := by decide +kernel
theorem dX7_lays_62 : decode cX7_lays 62 = .ok (.iadd, 1) := by decide +kernel
theorem dX7_lays_63 : decode cX7_lays 63 = .ok (.iload_n 2, 1) := by decide +kernel
theorem dX7_lays_64 : decode cX7_lays 64 = .ok (.iastore, 1) := by decide +kernel
theorem dX7_lays_65 : decode cX7_lays 65 = .ok (.iinc 3 1, 3) := by decide +kernel
theorem dX7_lays_68 : decode cX7_lays 68 = .ok (.goto (-39), 3) := by decide +kernel
theorem dX7_lays_71 : decode cX7_lays 71 = .ok (.iinc 1 1, 3) := by decide +kernel
theorem dX7_lays_74 : decode cX7_lays 74 = .ok (.goto (-72), 3) := by decide +kernel
theorem dX7_lays_77 : decode cX7_lays 77 = .ok (.aload_n 0, 1) := by decide +kernel
theorem dX7_lays_78 : decode cX7_lays 78 = .ok (.iconst 1, 1) := by decide +kernel
theorem dX7_lays_79 : decode cX7_lays 79 = .ok (.putfield 135, 3) := by decide +kernel
theorem dX7_lays_82 : decode cX7_lays 82 = .ok (.iconst 0, 1) := by decide +kernel
theorem dX7_lays_83 : decode cX7_lays 83 = .ok (.istore_n 1, 1) := by decide +kernel
theorem dX7_lays_84 : decode cX7_lays 84 = .ok (.iload_n 1, 1) := by decide +kernel
theorem dX7_lays_85 : decode cX7_lays 85 = .ok (.aload_n 0, 1) := by decide +kernel
theorem dX7_lays_86 : decode cX7_lays 86 = .ok (.getfield 13, 3) := by decide +kernel
theorem dX7_lays_89 : decode cX7_lays 89 = .ok (.iconst 1, 1) := by decide +kernel
theorem dX7_lays_90 : decode cX7_lays 90 = .ok (.iaload, 1) := by decide +kernel
theorem dX7_lays_91 : decode cX7_lays 91 = .ok (.if_icmp .ge 29, 3) := by decide +kernel
theorem dX7_lays_94 : decode cX7_lays 94 = .ok (.aload_n 0, 1) := by decide +kernel
theorem dX7_lays_95 : decode cX7_lays 95 = .ok (.dup, 1) := by decide +kernel
theorem dX7_lays_96 : decode cX7_lays 96 = .ok (.getfield 135, 3) := by decide +kernel
theorem dX7_lays_99 : decode cX7_lays 99 = .ok (.iconst 1, 1) := by decide +kernel
theorem dX7_lays_100 : decode cX7_lays 100 = .ok (.bipush 10, 2) := by decide +kernel
theorem dX7_lays_102 : decode cX7_lays 102 = .ok (.aload_n 0, 1) := by decide +kernel
theorem dX7_lays_103 : decode cX7_lays 103 = .ok (.getfield 13, 3) := by decide +kernel
theorem dX7_lays_106 : decode cX7_lays 106 = .ok (.iconst 0, 1) := by decide +kernel
theorem dX7_lays_107 : decode cX7_lays 107 = .ok (.iaload, 1) := by decide +kernel
theorem dX7_lays_108 : decode cX7_lays 108 = .ok (.imul, 1) := by decide +kernel
theorem dX7_lays_109 : decode cX7_lays 109 = .ok (.iadd, 1) := by decide +kernel
theorem dX7_lays_110 : decode cX7_lays 110 = .ok (.imul, 1) := by decide +kernel
theorem dX7_lays_111 : decode cX7_lays 111 = .ok (.putfield 135, 3) := by decide +kernel
theorem dX7_lays_114 : decode cX7_lays 114 = .ok (.iinc 1 1, 3) := by decide +kernel
theorem dX7_lays_117 : decode cX7_lays 117 = .ok (.goto (-33), 3) := by decide +kernel
theorem dX7_lays_120 : decode cX7_lays 120 = .ok (.return_, 1) := by decide +kernel
theorem dX7_figureOf_0 : decode cX7_figureOf 0 = .ok (.iload_n 1, 1) := by decide +kernel
theorem dX7_figureOf_1 : decode cX7_figureOf 1 = .ok (.istore_n 3, 1) := by decide +kernel
theorem dX7_figureOf_2 : decode cX7_figureOf 2 = .ok (.iconst 0, 1) := by decide +kernel
theorem dX7_figureOf_3 : decode cX7_figureOf 3 = .ok (.istore 4, 2) := by decide +kernel
theorem dX7_figureOf_5 : decode cX7_figureOf 5 = .ok (.iload 4, 2) := by decide +kernel
theorem dX7_figureOf_7 : decode cX7_figureOf 7 = .ok (.iload_n 2, 1) := by decide +kernel
theorem dX7_figureOf_8 : decode cX7_figureOf 8 = .ok (.if_icmp .ge 23, 3) := by decide +kernel
theorem dX7_figureOf_11 : decode cX7_figureOf 11 = .ok (.iload_n 3, 1) := by decide +kernel
theorem dX7_figureOf_12 : decode cX7_figureOf 12 = .ok (.iconst 1, 1) := by decide +kernel
theorem dX7_figureOf_13 : decode cX7_figureOf 13 = .ok (.bipush 10, 2) := by decide +kernel
theorem dX7_figureOf_15 : decode cX7_figureOf 15 = .ok (.aload_n 0, 1) := by decide +kernel
theorem dX7_figureOf_16 : decode cX7_figureOf 16 = .ok (.getfield 13, 3) := by decide +kernel
theorem dX7_figureOf_19 : decode cX7_figureOf 19 = .ok (.iconst 0, 1) := by decide +kernel
theorem dX7_figureOf_20 : decode cX7_figureOf 20 = .ok (.iaload, 1) := by decide +kernel
theorem dX7_figureOf_21 : decode cX7_figureOf 21 = .ok (.imul, 1) := by decide +kernel
theorem dX7_figureOf_22 : decode cX7_figureOf 22 = .ok (.iadd, 1) := by decide +kernel
theorem dX7_figureOf_23 : decode cX7_figureOf 23 = .ok (.idiv, 1) := by decide +kernel
theorem dX7_figureOf_24 : decode cX7_figureOf 24 = .ok (.istore_n 3, 1) := by decide +kernel
theorem dX7_figureOf_25 : decode cX7_figureOf 25 = .ok (.iinc 4 1, 3) := by decide +kernel
theorem dX7_figureOf_28 : decode cX7_figureOf 28 = .ok (.goto (-23), 3) := by decide +kernel
theorem dX7_figureOf_31 : decode cX7_figureOf 31 = .ok (.iload_n 3, 1) := by decide +kernel
theorem dX7_figureOf_32 : decode cX7_figureOf 32 = .ok (.iconst 1, 1) := by decide +kernel
theorem dX7_figureOf_33 : decode cX7_figureOf 33 = .ok (.bipush 10, 2) := by decide +kernel
theorem dX7_figureOf_35 : decode cX7_figureOf 35 = .ok (.aload_n 0, 1) := by decide +kernel
theorem dX7_figureOf_36 : decode cX7_figureOf 36 = .ok (.getfield 13, 3) := by decide +kernel
theorem dX7_figureOf_39 : decode cX7_figureOf 39 = .ok (.iconst 0, 1) := by decide +kernel
theorem dX7_figureOf_40 : decode cX7_figureOf 40 = .ok (.iaload, 1) := by decide +kernel
theorem dX7_figureOf_41 : decode cX7_figureOf 41 = .ok (.imul, 1) := by decide +kernel
theorem dX7_figureOf_42 : decode cX7_figureOf 42 = .ok (.iadd, 1) := by decide +kernel
theorem dX7_figureOf_43 : decode cX7_figureOf 43 = .ok (.irem, 1) := by decide +kernel
theorem dX7_figureOf_44 : decode cX7_figureOf 44 = .ok (.ireturn, 1) := by decide +kernel
theorem dX7_isWay_0 : decode cX7_isWay 0 = .ok (.iconst 0, 1) := by decide +kernel
theorem dX7_isWay_1 : decode cX7_isWay 1 = .ok (.istore_n 2, 1) := by decide +kernel
theorem dX7_isWay_2 : decode cX7_isWay 2 = .ok (.iload_n 2, 1) := by decide +kernel
theorem dX7_isWay_3 : decode cX7_isWay 3 = .ok (.aload_n 0, 1) := by decide +kernel
theorem dX7_isWay_4 : decode cX7_isWay 4 = .ok (.getfield 13, 3) := by decide +kernel
theorem dX7_isWay_7 : decode cX7_isWay 7 = .ok (.iconst 0, 1) := by decide +kernel
theorem dX7_isWay_8 : decode cX7_isWay 8 = .ok (.iaload, 1) := by decide +kernel
theorem dX7_isWay_9 : decode cX7_isWay 9 = .ok (.if_icmp .ge 21, 3) := by decide +kernel
theorem dX7_isWay_12 : decode cX7_isWay 12 = .ok (.aload_n 0, 1) := by decide +kernel
theorem dX7_isWay_13 : decode cX7_isWay 13 = .ok (.getfield 35, 3) := by decide +kernel
theorem dX7_isWay_16 : decode cX7_isWay 16 = .ok (.iload_n 2, 1) := by decide +kernel
theorem dX7_isWay_17 : decode cX7_isWay 17 = .ok (.aload_n 0, 1) := by decide +kernel
theorem dX7_isWay_18 : decode cX7_isWay 18 = .ok (.getfield 29, 3) := by decide +kernel
theorem dX7_isWay_21 : decode cX7_isWay 21 = .ok (.iload_n 2, 1) := by decide +kernel
theorem dX7_isWay_22 : decode cX7_isWay 22 = .ok (.iaload, 1) := by decide +kernel
theorem dX7_isWay_23 : decode cX7_isWay 23 = .ok (.iastore, 1) := by decide +kernel
theorem dX7_isWay_24 : decode cX7_isWay 24 = .ok (.iinc 2 1, 3) := by decide +kernel
theorem dX7_isWay_27 : decode cX7_isWay 27 = .ok (.goto (-25), 3) := by decide +kernel
theorem dX7_isWay_30 : decode cX7_isWay 30 = .ok (.iconst 0, 1) := by decide +kernel
theorem dX7_isWay_31 : decode cX7_isWay 31 = .ok (.istore_n 2, 1) := by decide +kernel
theorem dX7_isWay_32 : decode cX7_isWay 32 = .ok (.iload_n 2, 1) := by decide +kernel
theorem dX7_isWay_33 : decode cX7_isWay 33 = .ok (.aload_n 0, 1) := by decide +kernel
theorem dX7_isWay_34 : decode cX7_isWay 34 = .ok (.getfield 13, 3) := by decide +kernel
theorem dX7_isWay_37 : decode cX7_isWay 37 = .ok (.iconst 1, 1) := by decide +kernel
theorem dX7_isWay_38 : decode cX7_isWay 38 = .ok (.iaload, 1) := by decide +kernel
theorem dX7_isWay_39 : decode cX7_isWay 39 = .ok (.if_icmp .ge 52, 3) := by decide +kernel
theorem dX7_isWay_42 : decode cX7_isWay 42 = .ok (.aload_n 0, 1) := by decide +kernel
theorem dX7_isWay_43 : decode cX7_isWay 43 = .ok (.iload_n 1, 1) := by decide +kernel
theorem dX7_isWay_44 : decode cX7_isWay 44 = .ok (.iload_n 2, 1) := by decide +kernel
theorem dX7_isWay_45 : decode cX7_isWay 45 = .ok (.invokevirtual 138, 3) := by decide +kernel
theorem dX7_isWay_48 : decode cX7_isWay 48 = .ok (.istore_n 3, 1) := by decide +kernel
theorem dX7_isWay_49 : decode cX7_isWay 49 = .ok (.iload_n 3, 1) := by decide +kernel
theorem dX7_isWay_50 : decode cX7_isWay 50 = .ok (.ifCond .le 35, 3) := by decide +kernel
theorem dX7_isWay_53 : decode cX7_isWay 53 = .ok (.aload_n 0, 1) := by decide +kernel
theorem dX7_isWay_54 : decode cX7_isWay 54 = .ok (.getfield 35, 3) := by decide +kernel
theorem dX7_isWay_57 : decode cX7_isWay 57 = .ok (.iload_n 3, 1) := by decide +kernel
theorem dX7_isWay_58 : decode cX7_isWay 58 = .ok (.iconst 1, 1) := by decide +kernel
theorem dX7_isWay_59 : decode cX7_isWay 59 = .ok (.isub, 1) := by decide +kernel
theorem dX7_isWay_60 : decode cX7_isWay 60 = .ok (.bipush 10, 2) := by decide +kernel
theorem dX7_isWay_62 : decode cX7_isWay 62 = .ok (.idiv, 1) := by decide +kernel
theorem dX7_isWay_63 : decode cX7_isWay 63 = .ok (.dup2, 1) := by decide +kernel
theorem dX7_isWay_64 : decode cX7_isWay 64 = .ok (.iaload, 1) := by decide +kernel
theorem dX7_isWay_65 : decode cX7_isWay 65 = .ok (.aload_n 0, 1) := by decide +kernel
theorem dX7_isWay_66 : decode cX7_isWay 66 = .ok (.getfield 13, 3) := by decide +kernel
theorem dX7_isWay_69 : decode cX7_isWay 69 = .ok (.bipush 10, 2) := by decide +kernel
theorem dX7_isWay_71 : decode cX7_isWay 71 = .ok (.iload_n 2, 1) := by decide +kernel
theorem dX7_isWay_72 : decode cX7_isWay 72 = .ok (.iadd, 1) := by decide +kernel
theorem dX7_isWay_73 : decode cX7_isWay 73 = .ok (.iaload, 1) := by decide +kernel
theorem dX7_isWay_74 : decode cX7_isWay 74 = .ok (.aload_n 0, 1) := by decide +kernel
theorem dX7_isWay_75 : decode cX7_isWay 75 = .ok (.getfield 32, 3) := by decide +kernel
theorem dX7_isWay_78 : decode cX7_isWay 78 = .ok (.iload_n 3, 1) := by decide +kernel
theorem dX7_isWay_79 : decode cX7_isWay 79 = .ok (.iconst 1, 1) := by decide +kernel
theorem dX7_isWay_80 : decode cX7_isWay 80 = .ok (.isub, 1) := by decide +kernel
theorem dX7_isWay_81 : decode cX7_isWay 81 = .ok (.iaload, 1) := by decide +kernel
theorem dX7_isWay_82 : decode cX7_isWay 82 = .ok (.imul, 1) := by decide +kernel
theorem dX7_isWay_83 : decode cX7_isWay 83 = .ok (.iadd, 1) := by decide +kernel
theorem dX7_isWay_84 : decode cX7_isWay 84 = .ok (.iastore, 1) := by decide +kernel
theorem dX7_isWay_85 : decode cX7_isWay 85 = .ok (.iinc 2 1, 3) := by decide +kernel
theorem dX7_isWay_88 : decode cX7_isWay 88 = .ok (.goto (-56), 3) := by decide +kernel
theorem dX7_isWay_91 : decode cX7_isWay 91 = .ok (.iconst 1, 1) := by decide +kernel
theorem dX7_isWay_92 : decode cX7_isWay 92 = .ok (.istore_n 2, 1) := by decide +kernel
theorem dX7_isWay_93 : decode cX7_isWay 93 = .ok (.iconst 0, 1) := by decide +kernel
theorem dX7_isWay_94 : decode cX7_isWay 94 = .ok (.istore_n 3, 1) := by decide +kernel
theorem dX7_isWay_95 : decode cX7_isWay 95 = .ok (.iload_n 3, 1) := by decide +kernel
theorem dX7_isWay_96 : decode cX7_isWay 96 = .ok (.aload_n 0, 1) := by decide +kernel
theorem dX7_isWay_97 : decode cX7_isWay 97 = .ok (.getfield 13, 3) := by decide +kernel
theorem dX7_isWay_100 : decode cX7_isWay 100 = .ok (.iconst 0, 1) := by decide +kernel
theorem dX7_isWay_101 : decode cX7_isWay 101 = .ok (.iaload, 1) := by decide +kernel
theorem dX7_isWay_102 : decode cX7_isWay 102 = .ok (.if_icmp .ge 51, 3) := by decide +kernel
theorem dX7_isWay_105 : decode cX7_isWay 105 = .ok (.iload_n 2, 1) := by decide +kernel
theorem dX7_isWay_106 : decode cX7_isWay 106 = .ok (.ifCond .eq 39, 3) := by decide +kernel
theorem dX7_isWay_109 : decode cX7_isWay 109 = .ok (.aload_n 0, 1) := by decide +kernel
theorem dX7_isWay_110 : decode cX7_isWay 110 = .ok (.getfield 19, 3) := by decide +kernel
theorem dX7_isWay_113 : decode cX7_isWay 113 = .ok (.bipush 49, 2) := by decide +kernel
theorem dX7_isWay_115 : decode cX7_isWay 115 = .ok (.iload_n 3, 1) := by decide +kernel
theorem dX7_isWay_116 : decode cX7_isWay 116 = .ok (.iadd, 1) := by decide +kernel
theorem dX7_isWay_117 : decode cX7_isWay 117 = .ok (.iaload, 1) := by decide +kernel
theorem dX7_isWay_118 : decode cX7_isWay 118 = .ok (.bipush (-9), 2) := by decide +kernel
theorem dX7_isWay_120 : decode cX7_isWay 120 = .ok (.if_icmp .eq 21, 3) := by decide +kernel
theorem dX7_isWay_123 : decode cX7_isWay 123 = .ok (.aload_n 0, 1) := by decide +kernel
theorem dX7_isWay_124 : decode cX7_isWay 124 = .ok (.getfield 19, 3) := by decide +kernel
theorem dX7_isWay_127 : decode cX7_isWay 127 = .ok (.bipush 49, 2) := by decide +kernel
theorem dX7_isWay_129 : decode cX7_isWay 129 = .ok (.iload_n 3, 1) := by decide +kernel
theorem dX7_isWay_130 : decode cX7_isWay 130 = .ok (.iadd, 1) := by decide +kernel
theorem dX7_isWay_131 : decode cX7_isWay 131 = .ok (.iaload, 1) := by decide +kernel
theorem dX7_isWay_132 : decode cX7_isWay 132 = .ok (.aload_n 0, 1) := by decide +kernel
theorem dX7_isWay_133 : decode cX7_isWay 133 = .ok (.getfield 35, 3) := by decide +kernel
theorem dX7_isWay_136 : decode cX7_isWay 136 = .ok (.iload_n 3, 1) := by decide +kernel
theorem dX7_isWay_137 : decode cX7_isWay 137 = .ok (.iaload, 1) := by decide +kernel
theorem dX7_isWay_138 : decode cX7_isWay 138 = .ok (.if_icmp .ne 7, 3) := by decide +kernel
theorem dX7_isWay_141 : decode cX7_isWay 141 = .ok (.iconst 1, 1) := by decide +kernel
theorem dX7_isWay_142 : decode cX7_isWay 142 = .ok (.goto 4, 3) := by decide +kernel
theorem dX7_isWay_145 : decode cX7_isWay 145 = .ok (.iconst 0, 1) := by decide +kernel
theorem dX7_isWay_146 : decode cX7_isWay 146 = .ok (.istore_n 2, 1) := by decide +kernel
theorem dX7_isWay_147 : decode cX7_isWay 147 = .ok (.iinc 3 1, 3) := by decide +kernel
theorem dX7_isWay_150 : decode cX7_isWay 150 = .ok (.goto (-55), 3) := by decide +kernel
theorem dX7_isWay_153 : decode cX7_isWay 153 = .ok (.iload_n 2, 1) := by decide +kernel
theorem dX7_isWay_154 : decode cX7_isWay 154 = .ok (.ireturn, 1) := by decide +kernel
theorem dX7_barOf_0 : decode cX7_barOf 0 = .ok (.iload_n 0, 1) := by decide +kernel
theorem dX7_barOf_1 : decode cX7_barOf 1 = .ok (.ifCond .ne 8, 3) := by decide +kernel
theorem dX7_barOf_4 : decode cX7_barOf 4 = .ok (.bipush (-4), 2) := by decide +kernel
theorem dX7_barOf_6 : decode cX7_barOf 6 = .ok (.goto 9, 3) := by decide +kernel
theorem dX7_barOf_9 : decode cX7_barOf 9 = .ok (.iload_n 0, 1) := by decide +kernel
theorem dX7_barOf_10 : decode cX7_barOf 10 = .ok (.iconst 1, 1) := by decide +kernel
theorem dX7_barOf_11 : decode cX7_barOf 11 = .ok (.isub, 1) := by decide +kernel
theorem dX7_barOf_12 : decode cX7_barOf 12 = .ok (.bipush 10, 2) := by decide +kernel
theorem dX7_barOf_14 : decode cX7_barOf 14 = .ok (.idiv, 1) := by decide +kernel
theorem dX7_barOf_15 : decode cX7_barOf 15 = .ok (.ireturn, 1) := by decide +kernel
theorem dX7_fits_0 : decode cX7_fits 0 = .ok (.aload_n 0, 1) := by decide +kernel
theorem dX7_fits_1 : decode cX7_fits 1 = .ok (.invokevirtual 141, 3) := by decide +kernel
theorem dX7_fits_4 : decode cX7_fits 4 = .ok (.iconst 0, 1) := by decide +kernel
theorem dX7_fits_5 : decode cX7_fits 5 = .ok (.istore_n 1, 1) := by decide +kernel
theorem dX7_fits_6 : decode cX7_fits 6 = .ok (.iconst 0, 1) := by decide +kernel
theorem dX7_fits_7 : decode cX7_fits 7 = .ok (.istore_n 2, 1) := by decide +kernel
theorem dX7_fits_8 : decode cX7_fits 8 = .ok (.iload_n 2, 1) := by decide +kernel
theorem dX7_fits_9 : decode cX7_fits 9 = .ok (.aload_n 0, 1) := by decide +kernel
theorem dX7_fits_10 : decode cX7_fits 10 = .ok (.getfield 135, 3) := by decide +kernel
theorem dX7_fits_13 : decode cX7_fits 13 = .ok (.if_icmp .ge 25, 3) := by decide +kernel
theorem dX7_fits_16 : decode cX7_fits 16 = .ok (.iload_n 1, 1) := by decide +kernel
theorem dX7_fits_17 : decode cX7_fits 17 = .ok (.aload_n 0, 1) := by decide +kernel
theorem dX7_fits_18 : decode cX7_fits 18 = .ok (.iload_n 2, 1) := by decide +kernel
theorem dX7_fits_19 : decode cX7_fits 19 = .ok (.invokevirtual 144, 3) := by decide +kernel
theorem dX7_fits_22 : decode cX7_fits 22 = .ok (.ifCond .eq 7, 3) := by decide +kernel
theorem dX7_fits_25 : decode cX7_fits 25 = .ok (.iconst 1, 1) := by decide +kernel
theorem dX7_fits_26 : decode cX7_fits 26 = .ok (.goto 4, 3) := by decide +kernel
theorem dX7_fits_29 : decode cX7_fits 29 = .ok (.iconst 0, 1) := by decide +kernel
theorem dX7_fits_30 : decode cX7_fits 30 = .ok (.iadd, 1) := by decide +kernel
theorem dX7_fits_31 : decode cX7_fits 31 = .ok (.istore_n 1, 1) := by decide +kernel
theorem dX7_fits_32 : decode cX7_fits 32 = .ok (.iinc 2 1, 3) := by decide +kernel
theorem dX7_fits_35 : decode cX7_fits 35 = .ok (.goto (-27), 3) := by decide +kernel
theorem dX7_fits_38 : decode cX7_fits 38 = .ok (.iload_n 1, 1) := by decide +kernel
theorem dX7_fits_39 : decode cX7_fits 39 = .ok (.ireturn, 1) := by decide +kernel
theorem dX7_sure_0 : decode cX7_sure 0 = .ok (.aload_n 0, 1) := by decide +kernel
theorem dX7_sure_1 : decode cX7_sure 1 = .ok (.iload_n 1, 1) := by decide +kernel
theorem dX7_sure_2 : decode cX7_sure 2 = .ok (.invokevirtual 123, 3) := by decide +kernel
theorem dX7_sure_5 : decode cX7_sure 5 = .ok (.ifCond .ne 5, 3) := by decide +kernel
theorem dX7_sure_8 : decode cX7_sure 8 = .ok (.iconst (-1), 1) := by decide +kernel
theorem dX7_sure_9 : decode cX7_sure 9 = .ok (.ireturn, 1) := by decide +kernel
theorem dX7_sure_10 : decode cX7_sure 10 = .ok (.aload_n 0, 1) := by decide +kernel
theorem dX7_sure_11 : decode cX7_sure 11 = .ok (.invokevirtual 141, 3) := by decide +kernel
theorem dX7_sure_14 : decode cX7_sure 14 = .ok (.bipush (-9), 2) := by decide +kernel
theorem dX7_sure_16 : decode cX7_sure 16 = .ok (.istore_n 2, 1) := by decide +kernel
theorem dX7_sure_17 : decode cX7_sure 17 = .ok (.iconst 0, 1) := by decide +kernel
theorem dX7_sure_18 : decode cX7_sure 18 = .ok (.istore_n 3, 1) := by decide +kernel
theorem dX7_sure_19 : decode cX7_sure 19 = .ok (.iload_n 3, 1) := by decide +kernel
theorem dX7_sure_20 : decode cX7_sure 20 = .ok (.aload_n 0, 1) := by decide +kernel
theorem dX7_sure_21 : decode cX7_sure 21 = .ok (.getfield 135, 3) := by decide +kernel
theorem dX7_sure_24 : decode cX7_sure 24 = .ok (.if_icmp .ge 48, 3) := by decide +kernel
theorem dX7_sure_27 : decode cX7_sure 27 = .ok (.aload_n 0, 1) := by decide +kernel
theorem dX7_sure_28 : decode cX7_sure 28 = .ok (.iload_n 3, 1) := by decide +kernel
theorem dX7_sure_29 : decode cX7_sure 29 = .ok (.invokevirtual 144, 3) := by decide +kernel
theorem dX7_sure_32 : decode cX7_sure 32 = .ok (.ifCond .eq 34, 3) := by decide +kernel
theorem dX7_sure_35 : decode cX7_sure 35 = .ok (.aload_n 0, 1) := by decide +kernel
theorem dX7_sure_36 : decode cX7_sure 36 = .ok (.iload_n 3, 1) := by decide +kernel
theorem dX7_sure_37 : decode cX7_sure 37 = .ok (.iload_n 1, 1) := by decide +kernel
theorem dX7_sure_38 : decode cX7_sure 38 = .ok (.invokevirtual 138, 3) := by decide +kernel
theorem dX7_sure_41 : decode cX7_sure 41 = .ok (.invokestatic 147, 3) := by decide +kernel
theorem dX7_sure_44 : decode cX7_sure 44 = .ok (.istore 4, 2) := by decide +kernel
theorem dX7_sure_46 : decode cX7_sure 46 = .ok (.iload_n 2, 1) := by decide +kernel
theorem dX7_sure_47 : decode cX7_sure 47 = .ok (.bipush (-9), 2) := by decide +kernel
theorem dX7_sure_49 : decode cX7_sure 49 = .ok (.if_icmp .eq 9, 3) := by decide +kernel
theorem dX7_sure_52 : decode cX7_sure 52 = .ok (.iload_n 2, 1) := by decide +kernel
theorem dX7_sure_53 : decode cX7_sure 53 = .ok (.iload 4, 2) := by decide +kernel
theorem dX7_sure_55 : decode cX7_sure 55 = .ok (.if_icmp .ne 8, 3) := by decide +kernel
theorem dX7_sure_58 : decode cX7_sure 58 = .ok (.iload 4, 2) := by decide +kernel
theorem dX7_sure_60 : decode cX7_sure 60 = .ok (.goto 5, 3) := by decide +kernel
theorem dX7_sure_63 : decode cX7_sure 63 = .ok (.bipush (-5), 2) := by decide +kernel
