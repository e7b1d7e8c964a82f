theorem dX7_sure_65 : decode cX7_sure 65 = .ok (.istore_n 2, 1) := by decide +kernel
theorem dX7_sure_66 : decode cX7_sure 66 = .ok (.iinc 3 1, 3) := by decide +kernel
theorem dX7_sure_69 : decode cX7_sure 69 = .ok (.goto (-50), 3) := by decide +kernel
theorem dX7_sure_72 : decode cX7_sure 72 = .ok (.iload_n 2, 1) := by decide +kernel
theorem dX7_sure_73 : decode cX7_sure 73 = .ok (.ireturn, 1) := by decide +kernel
theorem dX7_odds_0 : decode cX7_odds 0 = .ok (.aload_n 0, 1) := by decide +kernel
theorem dX7_odds_1 : decode cX7_odds 1 = .ok (.iload_n 1, 1) := by decide +kernel
theorem dX7_odds_2 : decode cX7_odds 2 = .ok (.invokevirtual 123, 3) := by decide +kernel
theorem dX7_odds_5 : decode cX7_odds 5 = .ok (.ifCond .eq 26, 3) := by decide +kernel
theorem dX7_odds_8 : decode cX7_odds 8 = .ok (.iload_n 2, 1) := by decide +kernel
theorem dX7_odds_9 : decode cX7_odds 9 = .ok (.bipush (-4), 2) := by decide +kernel
theorem dX7_odds_11 : decode cX7_odds 11 = .ok (.if_icmp .eq 11, 3) := by decide +kernel
theorem dX7_odds_14 : decode cX7_odds 14 = .ok (.aload_n 0, 1) := by decide +kernel
theorem dX7_odds_15 : decode cX7_odds 15 = .ok (.iload_n 2, 1) := by decide +kernel
theorem dX7_odds_16 : decode cX7_odds 16 = .ok (.invokevirtual 120, 3) := by decide +kernel
theorem dX7_odds_19 : decode cX7_odds 19 = .ok (.ifCond .eq 12, 3) := by decide +kernel
theorem dX7_odds_22 : decode cX7_odds 22 = .ok (.iload_n 3, 1) := by decide +kernel
theorem dX7_odds_23 : decode cX7_odds 23 = .ok (.iconst 0, 1) := by decide +kernel
theorem dX7_odds_24 : decode cX7_odds 24 = .ok (.iconst 1, 1) := by decide +kernel
theorem dX7_odds_25 : decode cX7_odds 25 = .ok (.invokestatic 54, 3) := by decide +kernel
theorem dX7_odds_28 : decode cX7_odds 28 = .ok (.ifCond .ne 5, 3) := by decide +kernel
theorem dX7_odds_31 : decode cX7_odds 31 = .ok (.iconst (-1), 1) := by decide +kernel
theorem dX7_odds_32 : decode cX7_odds 32 = .ok (.ireturn, 1) := by decide +kernel
theorem dX7_odds_33 : decode cX7_odds 33 = .ok (.aload_n 0, 1) := by decide +kernel
theorem dX7_odds_34 : decode cX7_odds 34 = .ok (.invokevirtual 141, 3) := by decide +kernel
theorem dX7_odds_37 : decode cX7_odds 37 = .ok (.iconst 0, 1) := by decide +kernel
theorem dX7_odds_38 : decode cX7_odds 38 = .ok (.istore 4, 2) := by decide +kernel
theorem dX7_odds_40 : decode cX7_odds 40 = .ok (.iconst 0, 1) := by decide +kernel
theorem dX7_odds_41 : decode cX7_odds 41 = .ok (.istore 5, 2) := by decide +kernel
theorem dX7_odds_43 : decode cX7_odds 43 = .ok (.iconst 0, 1) := by decide +kernel
theorem dX7_odds_44 : decode cX7_odds 44 = .ok (.istore 6, 2) := by decide +kernel
theorem dX7_odds_46 : decode cX7_odds 46 = .ok (.iload 6, 2) := by decide +kernel
theorem dX7_odds_48 : decode cX7_odds 48 = .ok (.aload_n 0, 1) := by decide +kernel
theorem dX7_odds_49 : decode cX7_odds 49 = .ok (.getfield 135, 3) := by decide +kernel
theorem dX7_odds_52 : decode cX7_odds 52 = .ok (.if_icmp .ge 45, 3) := by decide +kernel
theorem dX7_odds_55 : decode cX7_odds 55 = .ok (.aload_n 0, 1) := by decide +kernel
theorem dX7_odds_56 : decode cX7_odds 56 = .ok (.iload 6, 2) := by decide +kernel
theorem dX7_odds_58 : decode cX7_odds 58 = .ok (.invokevirtual 144, 3) := by decide +kernel
theorem dX7_odds_61 : decode cX7_odds 61 = .ok (.ifCond .eq 30, 3) := by decide +kernel
theorem dX7_odds_64 : decode cX7_odds 64 = .ok (.iinc 4 1, 3) := by decide +kernel
theorem dX7_odds_67 : decode cX7_odds 67 = .ok (.iload 5, 2) := by decide +kernel
theorem dX7_odds_69 : decode cX7_odds 69 = .ok (.aload_n 0, 1) := by decide +kernel
theorem dX7_odds_70 : decode cX7_odds 70 = .ok (.iload 6, 2) := by decide +kernel
theorem dX7_odds_72 : decode cX7_odds 72 = .ok (.iload_n 1, 1) := by decide +kernel
theorem dX7_odds_73 : decode cX7_odds 73 = .ok (.invokevirtual 138, 3) := by decide +kernel
theorem dX7_odds_76 : decode cX7_odds 76 = .ok (.invokestatic 147, 3) := by decide +kernel
theorem dX7_odds_79 : decode cX7_odds 79 = .ok (.iload_n 2, 1) := by decide +kernel
theorem dX7_odds_80 : decode cX7_odds 80 = .ok (.if_icmp .ne 7, 3) := by decide +kernel
theorem dX7_odds_83 : decode cX7_odds 83 = .ok (.iconst 1, 1) := by decide +kernel
theorem dX7_odds_84 : decode cX7_odds 84 = .ok (.goto 4, 3) := by decide +kernel
theorem dX7_odds_87 : decode cX7_odds 87 = .ok (.iconst 0, 1) := by decide +kernel
theorem dX7_odds_88 : decode cX7_odds 88 = .ok (.iadd, 1) := by decide +kernel
theorem dX7_odds_89 : decode cX7_odds 89 = .ok (.istore 5, 2) := by decide +kernel
theorem dX7_odds_91 : decode cX7_odds 91 = .ok (.iinc 6 1, 3) := by decide +kernel
theorem dX7_odds_94 : decode cX7_odds 94 = .ok (.goto (-48), 3) := by decide +kernel
theorem dX7_odds_97 : decode cX7_odds 97 = .ok (.iload 5, 2) := by decide +kernel
theorem dX7_odds_99 : decode cX7_odds 99 = .ok (.istore 6, 2) := by decide +kernel
theorem dX7_odds_101 : decode cX7_odds 101 = .ok (.iload 4, 2) := by decide +kernel
theorem dX7_odds_103 : decode cX7_odds 103 = .ok (.istore 7, 2) := by decide +kernel
theorem dX7_odds_105 : decode cX7_odds 105 = .ok (.iload 7, 2) := by decide +kernel
theorem dX7_odds_107 : decode cX7_odds 107 = .ok (.ifCond .le 21, 3) := by decide +kernel
theorem dX7_odds_110 : decode cX7_odds 110 = .ok (.iload 6, 2) := by decide +kernel
theorem dX7_odds_112 : decode cX7_odds 112 = .ok (.iload 7, 2) := by decide +kernel
theorem dX7_odds_114 : decode cX7_odds 114 = .ok (.irem, 1) := by decide +kernel
theorem dX7_odds_115 : decode cX7_odds 115 = .ok (.istore 8, 2) := by decide +kernel
theorem dX7_odds_117 : decode cX7_odds 117 = .ok (.iload 7, 2) := by decide +kernel
theorem dX7_odds_119 : decode cX7_odds 119 = .ok (.istore 6, 2) := by decide +kernel
theorem dX7_odds_121 : decode cX7_odds 121 = .ok (.iload 8, 2) := by decide +kernel
theorem dX7_odds_123 : decode cX7_odds 123 = .ok (.istore 7, 2) := by decide +kernel
theorem dX7_odds_125 : decode cX7_odds 125 = .ok (.goto (-20), 3) := by decide +kernel
theorem dX7_odds_128 : decode cX7_odds 128 = .ok (.iload 5, 2) := by decide +kernel
theorem dX7_odds_130 : decode cX7_odds 130 = .ok (.ifCond .ne 7, 3) := by decide +kernel
theorem dX7_odds_133 : decode cX7_odds 133 = .ok (.iload_n 3, 1) := by decide +kernel
theorem dX7_odds_134 : decode cX7_odds 134 = .ok (.goto 20, 3) := by decide +kernel
theorem dX7_odds_137 : decode cX7_odds 137 = .ok (.iload_n 3, 1) := by decide +kernel
theorem dX7_odds_138 : decode cX7_odds 138 = .ok (.ifCond .ne 11, 3) := by decide +kernel
theorem dX7_odds_141 : decode cX7_odds 141 = .ok (.iload 5, 2) := by decide +kernel
theorem dX7_odds_143 : decode cX7_odds 143 = .ok (.iload 6, 2) := by decide +kernel
theorem dX7_odds_145 : decode cX7_odds 145 = .ok (.idiv, 1) := by decide +kernel
theorem dX7_odds_146 : decode cX7_odds 146 = .ok (.goto 8, 3) := by decide +kernel
theorem dX7_odds_149 : decode cX7_odds 149 = .ok (.iload 4, 2) := by decide +kernel
theorem dX7_odds_151 : decode cX7_odds 151 = .ok (.iload 6, 2) := by decide +kernel
theorem dX7_odds_153 : decode cX7_odds 153 = .ok (.idiv, 1) := by decide +kernel
theorem dX7_odds_154 : decode cX7_odds 154 = .ok (.ireturn, 1) := by decide +kernel
theorem dX7_claims_0 : decode cX7_claims 0 = .ok (.aload_n 0, 1) := by decide +kernel
theorem dX7_claims_1 : decode cX7_claims 1 = .ok (.invokevirtual 141, 3) := by decide +kernel
theorem dX7_claims_4 : decode cX7_claims 4 = .ok (.iconst 0, 1) := by decide +kernel
theorem dX7_claims_5 : decode cX7_claims 5 = .ok (.istore_n 3, 1) := by decide +kernel
theorem dX7_claims_6 : decode cX7_claims 6 = .ok (.iconst 0, 1) := by decide +kernel
theorem dX7_claims_7 : decode cX7_claims 7 = .ok (.istore 4, 2) := by decide +kernel
theorem dX7_claims_9 : decode cX7_claims 9 = .ok (.iload 4, 2) := by decide +kernel
theorem dX7_claims_11 : decode cX7_claims 11 = .ok (.aload_n 0, 1) := by decide +kernel
theorem dX7_claims_12 : decode cX7_claims 12 = .ok (.getfield 135, 3) := by decide +kernel
theorem dX7_claims_15 : decode cX7_claims 15 = .ok (.if_icmp .ge 66, 3) := by decide +kernel
theorem dX7_claims_18 : decode cX7_claims 18 = .ok (.aload_n 0, 1) := by decide +kernel
theorem dX7_claims_19 : decode cX7_claims 19 = .ok (.iload 4, 2) := by decide +kernel
theorem dX7_claims_21 : decode cX7_claims 21 = .ok (.iload_n 1, 1) := by decide +kernel
theorem dX7_claims_22 : decode cX7_claims 22 = .ok (.invokevirtual 138, 3) := by decide +kernel
theorem dX7_claims_25 : decode cX7_claims 25 = .ok (.istore 5, 2) := by decide +kernel
theorem dX7_claims_27 : decode cX7_claims 27 = .ok (.iload 5, 2) := by decide +kernel
theorem dX7_claims_29 : decode cX7_claims 29 = .ok (.invokestatic 147, 3) := by decide +kernel
theorem dX7_claims_32 : decode cX7_claims 32 = .ok (.iload_n 2, 1) := by decide +kernel
theorem dX7_claims_33 : decode cX7_claims 33 = .ok (.if_icmp .ne 16, 3) := by decide +kernel
theorem dX7_claims_36 : decode cX7_claims 36 = .ok (.aload_n 0, 1) := by decide +kernel
theorem dX7_claims_37 : decode cX7_claims 37 = .ok (.iload 4, 2) := by decide +kernel
theorem dX7_claims_39 : decode cX7_claims 39 = .ok (.invokevirtual 144, 3) := by decide +kernel
theorem dX7_claims_42 : decode cX7_claims 42 = .ok (.ifCond .eq 7, 3) := by decide +kernel
theorem dX7_claims_45 : decode cX7_claims 45 = .ok (.iconst 1, 1) := by decide +kernel
theorem dX7_claims_46 : decode cX7_claims 46 = .ok (.goto 4, 3) := by decide +kernel
theorem dX7_claims_49 : decode cX7_claims 49 = .ok (.iconst 0, 1) := by decide +kernel
theorem dX7_claims_50 : decode cX7_claims 50 = .ok (.istore 6, 2) := by decide +kernel
theorem dX7_claims_52 : decode cX7_claims 52 = .ok (.iload_n 3, 1) := by decide +kernel
theorem dX7_claims_53 : decode cX7_claims 53 = .ok (.iload 6, 2) := by decide +kernel
theorem dX7_claims_55 : decode cX7_claims 55 = .ok (.ifCond .eq 17, 3) := by decide +kernel
theorem dX7_claims_58 : decode cX7_claims 58 = .ok (.iconst 1, 1) := by decide +kernel
theorem dX7_claims_59 : decode cX7_claims 59 = .ok (.iload 5, 2) := by decide +kernel
theorem dX7_claims_61 : decode cX7_claims 61 = .ok (.iconst 1, 1) := by decide +kernel
theorem dX7_claims_62 : decode cX7_claims 62 = .ok (.isub, 1) := by decide +kernel
theorem dX7_claims_63 : decode cX7_claims 63 = .ok (.bipush 10, 2) := by decide +kernel
theorem dX7_claims_65 : decode cX7_claims 65 = .ok (.irem, 1) := by decide +kernel
theorem dX7_claims_66 : decode cX7_claims 66 = .ok (.iconst 1, 1) := by decide +kernel
theorem dX7_claims_67 : decode cX7_claims 67 = .ok (.iadd, 1) := by decide +kernel
theorem dX7_claims_68 : decode cX7_claims 68 = .ok (.ishl, 1) := by decide +kernel
theorem dX7_claims_69 : decode cX7_claims 69 = .ok (.goto 4, 3) := by decide +kernel
theorem dX7_claims_72 : decode cX7_claims 72 = .ok (.iconst 0, 1) := by decide +kernel
theorem dX7_claims_73 : decode cX7_claims 73 = .ok (.ior, 1) := by decide +kernel
theorem dX7_claims_74 : decode cX7_claims 74 = .ok (.istore_n 3, 1) := by decide +kernel
theorem dX7_claims_75 : decode cX7_claims 75 = .ok (.iinc 4 1, 3) := by decide +kernel
theorem dX7_claims_78 : decode cX7_claims 78 = .ok (.goto (-69), 3) := by decide +kernel
theorem dX7_claims_81 : decode cX7_claims 81 = .ok (.iload_n 3, 1) := by decide +kernel
theorem dX7_claims_82 : decode cX7_claims 82 = .ok (.ireturn, 1) := by decide +kernel
theorem dX7_isClaim_0 : decode cX7_isClaim 0 = .ok (.aload_n 0, 1) := by decide +kernel
theorem dX7_isClaim_1 : decode cX7_isClaim 1 = .ok (.iload_n 1, 1) := by decide +kernel
theorem dX7_isClaim_2 : decode cX7_isClaim 2 = .ok (.invokevirtual 123, 3) := by decide +kernel
theorem dX7_isClaim_5 : decode cX7_isClaim 5 = .ok (.ifCond .eq 25, 3) := by decide +kernel
theorem dX7_isClaim_8 : decode cX7_isClaim 8 = .ok (.aload_n 0, 1) := by decide +kernel
theorem dX7_isClaim_9 : decode cX7_isClaim 9 = .ok (.iload_n 2, 1) := by decide +kernel
theorem dX7_isClaim_10 : decode cX7_isClaim 10 = .ok (.invokevirtual 120, 3) := by decide +kernel
theorem dX7_isClaim_13 : decode cX7_isClaim 13 = .ok (.ifCond .eq 17, 3) := by decide +kernel
theorem dX7_isClaim_16 : decode cX7_isClaim 16 = .ok (.iload_n 3, 1) := by decide +kernel
theorem dX7_isClaim_17 : decode cX7_isClaim 17 = .ok (.iconst 1, 1) := by decide +kernel
theorem dX7_isClaim_18 : decode cX7_isClaim 18 = .ok (.bipush 10, 2) := by decide +kernel
theorem dX7_isClaim_20 : decode cX7_isClaim 20 = .ok (.invokestatic 54, 3) := by decide +kernel
theorem dX7_isClaim_23 : decode cX7_isClaim 23 = .ok (.ifCond .eq 7, 3) := by decide +kernel
theorem dX7_isClaim_26 : decode cX7_isClaim 26 = .ok (.iconst 1, 1) := by decide +kernel
theorem dX7_isClaim_27 : decode cX7_isClaim 27 = .ok (.goto 4, 3) := by decide +kernel
theorem dX7_isClaim_30 : decode cX7_isClaim 30 = .ok (.iconst 0, 1) := by decide +kernel
theorem dX7_isClaim_31 : decode cX7_isClaim 31 = .ok (.ireturn, 1) := by decide +kernel
theorem dX7_claim_0 : decode cX7_claim 0 = .ok (.aload_n 0, 1) := by decide +kernel
theorem dX7_claim_1 : decode cX7_claim 1 = .ok (.iload_n 1, 1) := by decide +kernel
theorem dX7_claim_2 : decode cX7_claim 2 = .ok (.iload_n 2, 1) := by decide +kernel
theorem dX7_claim_3 : decode cX7_claim 3 = .ok (.iload_n 3, 1) := by decide +kernel
theorem dX7_claim_4 : decode cX7_claim 4 = .ok (.invokevirtual 150, 3) := by decide +kernel
theorem dX7_claim_7 : decode cX7_claim 7 = .ok (.ifCond .eq 16, 3) := by decide +kernel
theorem dX7_claim_10 : decode cX7_claim 10 = .ok (.aload_n 0, 1) := by decide +kernel
theorem dX7_claim_11 : decode cX7_claim 11 = .ok (.iload_n 1, 1) := by decide +kernel
theorem dX7_claim_12 : decode cX7_claim 12 = .ok (.iload_n 2, 1) := by decide +kernel
theorem dX7_claim_13 : decode cX7_claim 13 = .ok (.invokevirtual 153, 3) := by decide +kernel
theorem dX7_claim_16 : decode cX7_claim 16 = .ok (.iload_n 3, 1) := by decide +kernel
theorem dX7_claim_17 : decode cX7_claim 17 = .ok (.ishr, 1) := by decide +kernel
theorem dX7_claim_18 : decode cX7_claim 18 = .ok (.iconst 1, 1) := by decide +kernel
theorem dX7_claim_19 : decode cX7_claim 19 = .ok (.iand, 1) := by decide +kernel
theorem dX7_claim_20 : decode cX7_claim 20 = .ok (.goto 4, 3) := by decide +kernel
theorem dX7_claim_23 : decode cX7_claim 23 = .ok (.iconst (-1), 1) := by decide +kernel
theorem dX7_claim_24 : decode cX7_claim 24 = .ok (.ireturn, 1) := by decide +kernel
theorem dX7_saves_0 : decode cX7_saves 0 = .ok (.aload_n 0, 1) := by decide +kernel
theorem dX7_saves_1 : decode cX7_saves 1 = .ok (.iload_n 1, 1) := by decide +kernel
theorem dX7_saves_2 : decode cX7_saves 2 = .ok (.iload_n 2, 1) := by decide +kernel
theorem dX7_saves_3 : decode cX7_saves 3 = .ok (.iload_n 3, 1) := by decide +kernel
theorem dX7_saves_4 : decode cX7_saves 4 = .ok (.invokevirtual 150, 3) := by decide +kernel
theorem dX7_saves_7 : decode cX7_saves 7 = .ok (.ifCond .ne 5, 3) := by decide +kernel
theorem dX7_saves_10 : decode cX7_saves 10 = .ok (.iconst (-1), 1) := by decide +kernel
theorem dX7_saves_11 : decode cX7_saves 11 = .ok (.ireturn, 1) := by decide +kernel
theorem dX7_saves_12 : decode cX7_saves 12 = .ok (.aload_n 0, 1) := by decide +kernel
theorem dX7_saves_13 : decode cX7_saves 13 = .ok (.iload_n 1, 1) := by decide +kernel
theorem dX7_saves_14 : decode cX7_saves 14 = .ok (.iload_n 2, 1) := by decide +kernel
theorem dX7_saves_15 : decode cX7_saves 15 = .ok (.invokevirtual 153, 3) := by decide +kernel
theorem dX7_saves_18 : decode cX7_saves 18 = .ok (.istore 4, 2) := by decide +kernel
theorem dX7_saves_20 : decode cX7_saves 20 = .ok (.iconst 0, 1) := by decide +kernel
theorem dX7_saves_21 : decode cX7_saves 21 = .ok (.istore 5, 2) := by decide +kernel
theorem dX7_saves_23 : decode cX7_saves 23 = .ok (.iload 5, 2) := by decide +kernel
theorem dX7_saves_25 : decode cX7_saves 25 = .ok (.bipush 10, 2) := by decide +kernel
theorem dX7_saves_27 : decode cX7_saves 27 = .ok (.if_icmp .ge 51, 3) := by decide +kernel
theorem dX7_saves_30 : decode cX7_saves 30 = .ok (.iload_n 3, 1) := by decide +kernel
theorem dX7_saves_31 : decode cX7_saves 31 = .ok (.iload 5, 2) := by decide +kernel
theorem dX7_saves_33 : decode cX7_saves 33 = .ok (.if_icmp .le 21, 3) := by decide +kernel
theorem dX7_saves_36 : decode cX7_saves 36 = .ok (.iload 4, 2) := by decide +kernel
theorem dX7_saves_38 : decode cX7_saves 38 = .ok (.iload_n 3, 1) := by decide +kernel
theorem dX7_saves_39 : decode cX7_saves 39 = .ok (.iload 5, 2) := by decide +kernel
theorem dX7_saves_41 : decode cX7_saves 41 = .ok (.isub, 1) := by decide +kernel
theorem dX7_saves_42 : decode cX7_saves 42 = .ok (.ishr, 1) := by decide +kernel
theorem dX7_saves_43 : decode cX7_saves 43 = .ok (.iconst 1, 1) := by decide +kernel
theorem dX7_saves_44 : decode cX7_saves 44 = .ok (.iand, 1) := by decide +kernel
theorem dX7_saves_45 : decode cX7_saves 45 = .ok (.iconst 1, 1) := by decide +kernel
theorem dX7_saves_46 : decode cX7_saves 46 = .ok (.if_icmp .ne 8, 3) := by decide +kernel
theorem dX7_saves_49 : decode cX7_saves 49 = .ok (.iload_n 3, 1) := by decide +kernel
theorem dX7_saves_50 : decode cX7_saves 50 = .ok (.iload 5, 2) := by decide +kernel
theorem dX7_saves_52 : decode cX7_saves 52 = .ok (.isub, 1) := by decide +kernel
theorem dX7_saves_53 : decode cX7_saves 53 = .ok (.ireturn, 1) := by decide +kernel
theorem dX7_saves_54 : decode cX7_saves 54 = .ok (.iload 4, 2) := by decide +kernel
theorem dX7_saves_56 : decode cX7_saves 56 = .ok (.iload_n 3, 1) := by decide +kernel
theorem dX7_saves_57 : decode cX7_saves 57 = .ok (.iload 5, 2) := by decide +kernel
theorem dX7_saves_59 : decode cX7_saves 59 = .ok (.iadd, 1) := by decide +kernel
theorem dX7_saves_60 : decode cX7_saves 60 = .ok (.ishr, 1) := by decide +kernel
theorem dX7_saves_61 : decode cX7_saves 61 = .ok (.iconst 1, 1) := by decide +kernel
theorem dX7_saves_62 : decode cX7_saves 62 = .ok (.iand, 1) := by decide +kernel
theorem dX7_saves_63 : decode cX7_saves 63 = .ok (.iconst 1, 1) := by decide +kernel
theorem dX7_saves_64 : decode cX7_saves 64 = .ok (.if_icmp .ne 8, 3) := by decide +kernel
theorem dX7_saves_67 : decode cX7_saves 67 = .ok (.iload_n 3, 1) := by decide +kernel
theorem dX7_saves_68 : decode cX7_saves 68 = .ok (.iload 5, 2) := by decide +kernel
theorem dX7_saves_70 : decode cX7_saves 70 = .ok (.iadd, 1) := by decide +kernel
theorem dX7_saves_71 : decode cX7_saves 71 = .ok (.ireturn, 1) := by decide +kernel
theorem dX7_saves_72 : decode cX7_saves 72 = .ok (.iinc 5 1, 3) := by decide +kernel
theorem dX7_saves_75 : decode cX7_saves 75 = .ok (.goto (-52), 3) := by decide +kernel
theorem dX7_saves_78 : decode cX7_saves 78 = .ok (.bipush (-9), 2) := by decide +kernel
theorem dX7_saves_80 : decode cX7_saves 80 = .ok (.ireturn, 1) := by decide +kernel
theorem dX7_scrape_0 : decode cX7_scrape 0 = .ok (.iload_n 1, 1) := by decide +kernel
theorem dX7_scrape_1 : decode cX7_scrape 1 = .ok (.iconst 0, 1) := by decide +kernel
theorem dX7_scrape_2 : decode cX7_scrape 2 = .ok (.iconst 1, 1) := by decide +kernel
theorem dX7_scrape_3 : decode cX7_scrape 3 = .ok (.invokestatic 54, 3) := by decide +kernel
theorem dX7_scrape_6 : decode cX7_scrape 6 = .ok (.ifCond .ne 5, 3) := by decide +kernel
theorem dX7_scrape_9 : decode cX7_scrape 9 = .ok (.iconst (-1), 1) := by decide +kernel
theorem dX7_scrape_10 : decode cX7_scrape 10 = .ok (.ireturn, 1) := by decide +kernel
theorem dX7_scrape_11 : decode cX7_scrape 11 = .ok (.aload_n 0, 1) := by decide +kernel
theorem dX7_scrape_12 : decode cX7_scrape 12 = .ok (.invokevirtual 141, 3) := by decide +kernel
theorem dX7_scrape_15 : decode cX7_scrape 15 = .ok (.iconst 0, 1) := by decide +kernel
theorem dX7_scrape_16 : decode cX7_scrape 16 = .ok (.istore_n 2, 1) := by decide +kernel
theorem dX7_scrape_17 : decode cX7_scrape 17 = .ok (.iload_n 2, 1) := by decide +kernel
theorem dX7_scrape_18 : decode cX7_scrape 18 = .ok (.sipush 2400, 3) := by decide +kernel
theorem dX7_scrape_21 : decode cX7_scrape 21 = .ok (.if_icmp .ge 16, 3) := by decide +kernel
theorem dX7_scrape_24 : decode cX7_scrape 24 = .ok (.aload_n 0, 1) := by decide +kernel
theorem dX7_scrape_25 : decode cX7_scrape 25 = .ok (.getfield 38, 3) := by decide +kernel
theorem dX7_scrape_28 : decode cX7_scrape 28 = .ok (.iload_n 2, 1) := by decide +kernel
theorem dX7_scrape_29 : decode cX7_scrape 29 = .ok (.iconst 0, 1) := by decide +kernel
theorem dX7_scrape_30 : decode cX7_scrape 30 = .ok (.iastore, 1) := by decide +kernel
theorem dX7_scrape_31 : decode cX7_scrape 31 = .ok (.iinc 2 1, 3) := by decide +kernel
theorem dX7_scrape_34 : decode cX7_scrape 34 = .ok (.goto (-17), 3) := by decide +kernel
theorem dX7_scrape_37 : decode cX7_scrape 37 = .ok (.iconst 0, 1) := by decide +kernel
theorem dX7_scrape_38 : decode cX7_scrape 38 = .ok (.istore_n 2, 1) := by decide +kernel
theorem dX7_scrape_39 : decode cX7_scrape 39 = .ok (.iload_n 2, 1) := by decide +kernel
theorem dX7_scrape_40 : decode cX7_scrape 40 = .ok (.aload_n 0, 1) := by decide +kernel
theorem dX7_scrape_41 : decode cX7_scrape 41 = .ok (.getfield 135, 3) := by decide +kernel
theorem dX7_scrape_44 : decode cX7_scrape 44 = .ok (.if_icmp .ge 62, 3) := by decide +kernel
theorem dX7_scrape_47 : decode cX7_scrape 47 = .ok (.aload_n 0, 1) := by decide +kernel
theorem dX7_scrape_48 : decode cX7_scrape 48 = .ok (.iload_n 2, 1) := by decide +kernel
theorem dX7_scrape_49 : decode cX7_scrape 49 = .ok (.invokevirtual 144, 3) := by decide +kernel
theorem dX7_scrape_52 : decode cX7_scrape 52 = .ok (.istore_n 3, 1) := by decide +kernel
theorem dX7_scrape_53 : decode cX7_scrape 53 = .ok (.iconst 0, 1) := by decide +kernel
theorem dX7_scrape_54 : decode cX7_scrape 54 = .ok (.istore 4, 2) := by decide +kernel
theorem dX7_scrape_56 : decode cX7_scrape 56 = .ok (.iload 4, 2) := by decide +kernel
theorem dX7_scrape_58 : decode cX7_scrape 58 = .ok (.aload_n 0, 1) := by decide +kernel
theorem dX7_scrape_59 : decode cX7_scrape 59 = .ok (.getfield 13, 3) := by decide +kernel
theorem dX7_scrape_62 : decode cX7_scrape 62 = .ok (.iconst 0, 1) := by decide +kernel
theorem dX7_scrape_63 : decode cX7_scrape 63 = .ok (.iaload, 1) := by decide +kernel
theorem dX7_scrape_64 : decode cX7_scrape 64 = .ok (.if_icmp .ge 36, 3) := by decide +kernel
theorem dX7_scrape_67 : decode cX7_scrape 67 = .ok (.iload_n 3, 1) := by decide +kernel
theorem dX7_scrape_68 : decode cX7_scrape 68 = .ok (.ifCond .eq 32, 3) := by decide +kernel
theorem dX7_scrape_71 : decode cX7_scrape 71 = .ok (.aload_n 0, 1) := by decide +kernel
theorem dX7_scrape_72 : decode cX7_scrape 72 = .ok (.getfield 38, 3) := by decide +kernel
theorem dX7_scrape_75 : decode cX7_scrape 75 = .ok (.sipush 400, 3) := by decide +kernel
theorem dX7_scrape_78 : decode cX7_scrape 78 = .ok (.iload 4, 2) := by decide +kernel
theorem dX7_scrape_80 : decode cX7_scrape 80 = .ok (.imul, 1) := by decide +kernel
theorem dX7_scrape_81 : decode cX7_scrape 81 = .ok (.aload_n 0, 1) := by decide +kernel
theorem dX7_scrape_82 : decode cX7_scrape 82 = .ok (.getfield 35, 3) := by decide +kernel
theorem dX7_scrape_85 : decode cX7_scrape 85 = .ok (.iload 4, 2) := by decide +kernel
theorem dX7_scrape_87 : decode cX7_scrape 87 = .ok (.iaload, 1) := by decide +kernel
theorem dX7_scrape_88 : decode cX7_scrape 88 = .ok (.iadd, 1) := by decide +kernel
theorem dX7_scrape_89 : decode cX7_scrape 89 = .ok (.dup2, 1) := by decide +kernel
theorem dX7_scrape_90 : decode cX7_scrape 90 = .ok (.iaload, 1) := by decide +kernel
theorem dX7_scrape_91 : decode cX7_scrape 91 = .ok (.iconst 1, 1) := by decide +kernel
theorem dX7_scrape_92 : decode cX7_scrape 92 = .ok (.iadd, 1) := by decide +kernel
theorem dX7_scrape_93 : decode cX7_scrape 93 = .ok (.iastore, 1) := by decide +kernel
theorem dX7_scrape_94 : decode cX7_scrape 94 = .ok (.iinc 4 1, 3) := by decide +kernel
theorem dX7_scrape_97 : decode cX7_scrape 97 = .ok (.goto (-41), 3) := by decide +kernel
theorem dX7_scrape_100 : decode cX7_scrape 100 = .ok (.iinc 2 1, 3) := by decide +kernel
theorem dX7_scrape_103 : decode cX7_scrape 103 = .ok (.goto (-64), 3) := by decide +kernel
theorem dX7_scrape_106 : decode cX7_scrape 106 = .ok (.bipush (-9), 2) := by decide +kernel
theorem dX7_scrape_108 : decode cX7_scrape 108 = .ok (.istore_n 2, 1) := by decide +kernel
theorem dX7_scrape_109 : decode cX7_scrape 109 = .ok (.iconst 0, 1) := by decide +kernel
theorem dX7_scrape_110 : decode cX7_scrape 110 = .ok (.istore_n 3, 1) := by decide +kernel
theorem dX7_scrape_111 : decode cX7_scrape 111 = .ok (.iconst 0, 1) := by decide +kernel
theorem dX7_scrape_112 : decode cX7_scrape 112 = .ok (.istore 4, 2) := by decide +kernel
theorem dX7_scrape_114 : decode cX7_scrape 114 = .ok (.iload 4, 2) := by decide +kernel
theorem dX7_scrape_116 : decode cX7_scrape 116 = .ok (.aload_n 0, 1) := by decide +kernel
theorem dX7_scrape_117 : decode cX7_scrape 117 = .ok (.getfield 13, 3) := by decide +kernel
theorem dX7_scrape_120 : decode cX7_scrape 120 = .ok (.iconst 0, 1) := by decide +kernel
theorem dX7_scrape_121 : decode cX7_scrape 121 = .ok (.iaload, 1) := by decide +kernel
theorem dX7_scrape_122 : decode cX7_scrape 122 = .ok (.if_icmp .ge 132, 3) := by decide +kernel
theorem dX7_scrape_125 : decode cX7_scrape 125 = .ok (.iconst 0, 1) := by decide +kernel
theorem dX7_scrape_126 : decode cX7_scrape 126 = .ok (.istore 5, 2) := by decide +kernel
theorem dX7_scrape_128 : decode cX7_scrape 128 = .ok (.iconst 0, 1) := by decide +kernel
theorem dX7_scrape_129 : decode cX7_scrape 129 = .ok (.istore 6, 2) := by decide +kernel
theorem dX7_scrape_131 : decode cX7_scrape 131 = .ok (.iload 6, 2) := by decide +kernel
theorem dX7_scrape_133 : decode cX7_scrape 133 = .ok (.sipush 400, 3) := by decide +kernel
theorem dX7_scrape_136 : decode cX7_scrape 136 = .ok (.if_icmp .ge 64, 3) := by decide +kernel
theorem dX7_scrape_139 : decode cX7_scrape 139 = .ok (.aload_n 0, 1) := by decide +kernel
theorem dX7_scrape_140 : decode cX7_scrape 140 = .ok (.getfield 19, 3) := by decide +kernel
theorem dX7_scrape_143 : decode cX7_scrape 143 = .ok (.bipush 49, 2) := by decide +kernel
theorem dX7_scrape_145 : decode cX7_scrape 145 = .ok (.iload 4, 2) := by decide +kernel
theorem dX7_scrape_147 : decode cX7_scrape 147 = .ok (.iadd, 1) := by decide +kernel
theorem dX7_scrape_148 : decode cX7_scrape 148 = .ok (.iaload, 1) := by decide +kernel
theorem dX7_scrape_149 : decode cX7_scrape 149 = .ok (.bipush (-9), 2) := by decide +kernel
theorem dX7_scrape_151 : decode cX7_scrape 151 = .ok (.if_icmp .ne 49, 3) := by decide +kernel
theorem dX7_scrape_154 : decode cX7_scrape 154 = .ok (.aload_n 0, 1) := by decide +kernel
theorem dX7_scrape_155 : decode cX7_scrape 155 = .ok (.getfield 38, 3) := by decide +kernel
theorem dX7_scrape_158 : decode cX7_scrape 158 = .ok (.sipush 400, 3) := by decide +kernel
theorem dX7_scrape_161 : decode cX7_scrape 161 = .ok (.iload 4, 2) := by decide +kernel
theorem dX7_scrape_163 : decode cX7_scrape 163 = .ok (.imul, 1) := by decide +kernel
theorem dX7_scrape_164 : decode cX7_scrape 164 = .ok (.iload 6, 2) := by decide +kernel
theorem dX7_scrape_166 : decode cX7_scrape 166 = .ok (.iadd, 1) := by decide +kernel
theorem dX7_scrape_167 : decode cX7_scrape 167 = .ok (.iaload, 1) := by decide +kernel
theorem dX7_scrape_168 : decode cX7_scrape 168 = .ok (.iload 5, 2) := by decide +kernel
theorem dX7_scrape_170 : decode cX7_scrape 170 = .ok (.if_icmp .le 20, 3) := by decide +kernel
theorem dX7_scrape_173 : decode cX7_scrape 173 = .ok (.aload_n 0, 1) := by decide +kernel
theorem dX7_scrape_174 : decode cX7_scrape 174 = .ok (.getfield 38, 3) := by decide +kernel
theorem dX7_scrape_177 : decode cX7_scrape 177 = .ok (.sipush 400, 3) := by decide +kernel
theorem dX7_scrape_180 : decode cX7_scrape 180 = .ok (.iload 4, 2) := by decide +kernel
theorem dX7_scrape_182 : decode cX7_scrape 182 = .ok (.imul, 1) := by decide +kernel
theorem dX7_scrape_183 : decode cX7_scrape 183 = .ok (.iload 6, 2) := by decide +kernel
theorem dX7_scrape_185 : decode cX7_scrape 185 = .ok (.iadd, 1) := by decide +kernel
theorem dX7_scrape_186 : decode cX7_scrape 186 = .ok (.iaload, 1) := by decide +kernel
theorem dX7_scrape_187 : decode cX7_scrape 187 = .ok (.goto 5, 3) := by decide +kernel
theorem dX7_scrape_190 : decode cX7_scrape 190 = .ok (.iload 5, 2) := by decide +kernel
theorem dX7_scrape_192 : decode cX7_scrape 192 = .ok (.istore 5, 2) := by decide +kernel
theorem dX7_scrape_194 : decode cX7_scrape 194 = .ok (.iinc 6 1, 3) := by decide +kernel
theorem dX7_scrape_197 : decode cX7_scrape 197 = .ok (.goto (-66), 3) := by decide +kernel
theorem dX7_scrape_200 : decode cX7_scrape 200 = .ok (.iload 5, 2) := by decide +kernel
theorem dX7_scrape_202 : decode cX7_scrape 202 = .ok (.ifCond .le 19, 3) := by decide +kernel
theorem dX7_scrape_205 : decode cX7_scrape 205 = .ok (.iload_n 2, 1) := by decide +kernel
theorem dX7_scrape_206 : decode cX7_scrape 206 = .ok (.bipush (-9), 2) := by decide +kernel
theorem dX7_scrape_208 : decode cX7_scrape 208 = .ok (.if_icmp .eq 9, 3) := by decide +kernel
theorem dX7_scrape_211 : decode cX7_scrape 211 = .ok (.iload 5, 2) := by decide +kernel
theorem dX7_scrape_213 : decode cX7_scrape 213 = .ok (.iload_n 3, 1) := by decide +kernel
theorem dX7_scrape_214 : decode cX7_scrape 214 = .ok (.if_icmp .ge 7, 3) := by decide +kernel
theorem dX7_scrape_217 : decode cX7_scrape 217 = .ok (.iconst 1, 1) := by decide +kernel
theorem dX7_scrape_218 : decode cX7_scrape 218 = .ok (.goto 4, 3) := by decide +kernel
theorem dX7_scrape_221 : decode cX7_scrape 221 = .ok (.iconst 0, 1) := by decide +kernel
theorem dX7_scrape_222 : decode cX7_scrape 222 = .ok (.istore 6, 2) := by decide +kernel
theorem dX7_scrape_224 : decode cX7_scrape 224 = .ok (.iload 6, 2) := by decide +kernel
theorem dX7_scrape_226 : decode cX7_scrape 226 = .ok (.ifCond .eq 8, 3) := by decide +kernel
theorem dX7_scrape_229 : decode cX7_scrape 229 = .ok (.iload 4, 2) := by decide +kernel
theorem dX7_scrape_231 : decode cX7_scrape 231 = .ok (.goto 4, 3) := by decide +kernel
theorem dX7_scrape_234 : decode cX7_scrape 234 = .ok (.iload_n 2, 1) := by decide +kernel
theorem dX7_scrape_235 : decode cX7_scrape 235 = .ok (.istore_n 2, 1) := by decide +kernel
theorem dX7_scrape_236 : decode cX7_scrape 236 = .ok (.iload 6, 2) := by decide +kernel
theorem dX7_scrape_238 : decode cX7_scrape 238 = .ok (.ifCond .eq 8, 3) := by decide +kernel
theorem dX7_scrape_241 : decode cX7_scrape 241 = .ok (.iload 5, 2) := by decide +kernel
theorem dX7_scrape_243 : decode cX7_scrape 243 = .ok (.goto 4, 3) := by decide +kernel
theorem dX7_scrape_246 : decode cX7_scrape 246 = .ok (.iload_n 3, 1) := by decide +kernel
theorem dX7_scrape_247 : decode cX7_scrape 247 = .ok (.istore_n 3, 1) := by decide +kernel
theorem dX7_scrape_248 : decode cX7_scrape 248 = .ok (.iinc 4 1, 3) := by decide +kernel
theorem dX7_scrape_251 : decode cX7_scrape 251 = .ok (.goto (-137), 3) := by decide +kernel
theorem dX7_scrape_254 : decode cX7_scrape 254 = .ok (.iload_n 1, 1) := by decide +kernel
theorem dX7_scrape_255 : decode cX7_scrape 255 = .ok (.ifCond .eq 9, 3) := by decide +kernel
theorem dX7_scrape_258 : decode cX7_scrape 258 = .ok (.iload_n 2, 1) := by decide +kernel
theorem dX7_scrape_259 : decode cX7_scrape 259 = .ok (.bipush (-9), 2) := by decide +kernel
theorem dX7_scrape_261 : decode cX7_scrape 261 = .ok (.if_icmp .ne 7, 3) := by decide +kernel
theorem dX7_scrape_264 : decode cX7_scrape 264 = .ok (.iload_n 2, 1) := by decide +kernel
theorem dX7_scrape_265 : decode cX7_scrape 265 = .ok (.goto 4, 3) := by decide +kernel
theorem dX7_scrape_268 : decode cX7_scrape 268 = .ok (.iload_n 3, 1) := by decide +kernel
theorem dX7_scrape_269 : decode cX7_scrape 269 = .ok (.ireturn, 1) := by decide +kernel
theorem dX7_exchanges_0 : decode cX7_exchanges 0 = .ok (.iconst 0, 1) := by decide +kernel
theorem dX7_exchanges_1 : decode cX7_exchanges 1 = .ok (.istore_n 2, 1) := by decide +kernel
theorem dX7_exchanges_2 : decode cX7_exchanges 2 = .ok (.iconst 0, 1) := by decide +kernel
theorem dX7_exchanges_3 : decode cX7_exchanges 3 = .ok (.istore_n 3, 1) := by decide +kernel
theorem dX7_exchanges_4 : decode cX7_exchanges 4 = .ok (.iconst 0, 1) := by decide +kernel
theorem dX7_exchanges_5 : decode cX7_exchanges 5 = .ok (.istore 4, 2) := by decide +kernel
theorem dX7_exchanges_7 : decode cX7_exchanges 7 = .ok (.iload 4, 2) := by decide +kernel
theorem dX7_exchanges_9 : decode cX7_exchanges 9 = .ok (.iload_n 1, 1) := by decide +kernel
theorem dX7_exchanges_10 : decode cX7_exchanges 10 = .ok (.if_icmp .ge 58, 3) := by decide +kernel
theorem dX7_exchanges_13 : decode cX7_exchanges 13 = .ok (.iload_n 3, 1) := by decide +kernel
theorem dX7_exchanges_14 : decode cX7_exchanges 14 = .ok (.iload_n 2, 1) := by decide +kernel
theorem dX7_exchanges_15 : decode cX7_exchanges 15 = .ok (.iload 4, 2) := by decide +kernel
theorem dX7_exchanges_17 : decode cX7_exchanges 17 = .ok (.ishr, 1) := by decide +kernel
theorem dX7_exchanges_18 : decode cX7_exchanges 18 = .ok (.iconst 1, 1) := by decide +kernel
theorem dX7_exchanges_19 : decode cX7_exchanges 19 = .ok (.iand, 1) := by decide +kernel
theorem dX7_exchanges_20 : decode cX7_exchanges 20 = .ok (.ifCond .ne 7, 3) := by decide +kernel
theorem dX7_exchanges_23 : decode cX7_exchanges 23 = .ok (.iconst 1, 1) := by decide +kernel
theorem dX7_exchanges_24 : decode cX7_exchanges 24 = .ok (.goto 4, 3) := by decide +kernel
theorem dX7_exchanges_27 : decode cX7_exchanges 27 = .ok (.iconst 0, 1) := by decide +kernel
theorem dX7_exchanges_28 : decode cX7_exchanges 28 = .ok (.iadd, 1) := by decide +kernel
theorem dX7_exchanges_29 : decode cX7_exchanges 29 = .ok (.istore_n 3, 1) := by decide +kernel
theorem dX7_exchanges_30 : decode cX7_exchanges 30 = .ok (.iload 4, 2) := by decide +kernel
theorem dX7_exchanges_32 : decode cX7_exchanges 32 = .ok (.istore 5, 2) := by decide +kernel
theorem dX7_exchanges_34 : decode cX7_exchanges 34 = .ok (.iload_n 2, 1) := by decide +kernel
theorem dX7_exchanges_35 : decode cX7_exchanges 35 = .ok (.iload 5, 2) := by decide +kernel
theorem dX7_exchanges_37 : decode cX7_exchanges 37 = .ok (.ishr, 1) := by decide +kernel
theorem dX7_exchanges_38 : decode cX7_exchanges 38 = .ok (.iconst 1, 1) := by decide +kernel
theorem dX7_exchanges_39 : decode cX7_exchanges 39 = .ok (.iand, 1) := by decide +kernel
theorem dX7_exchanges_40 : decode cX7_exchanges 40 = .ok (.ifCond .ne 22, 3) := by decide +kernel
theorem dX7_exchanges_43 : decode cX7_exchanges 43 = .ok (.iload_n 2, 1) := by decide +kernel
theorem dX7_exchanges_44 : decode cX7_exchanges 44 = .ok (.iconst 1, 1) := by decide +kernel
theorem dX7_exchanges_45 : decode cX7_exchanges 45 = .ok (.iload 5, 2) := by decide +kernel
theorem dX7_exchanges_47 : decode cX7_exchanges 47 = .ok (.ishl, 1) := by decide +kernel
theorem dX7_exchanges_48 : decode cX7_exchanges 48 = .ok (.ior, 1) := by decide +kernel
theorem dX7_exchanges_49 : decode cX7_exchanges 49 = .ok (.istore_n 2, 1) := by decide +kernel
theorem dX7_exchanges_50 : decode cX7_exchanges 50 = .ok (.aload_n 0, 1) := by decide +kernel
theorem dX7_exchanges_51 : decode cX7_exchanges 51 = .ok (.getfield 44, 3) := by decide +kernel
theorem dX7_exchanges_54 : decode cX7_exchanges 54 = .ok (.iload 5, 2) := by decide +kernel
theorem dX7_exchanges_56 : decode cX7_exchanges 56 = .ok (.iaload, 1) := by decide +kernel
theorem dX7_exchanges_57 : decode cX7_exchanges 57 = .ok (.istore 5, 2) := by decide +kernel
theorem dX7_exchanges_59 : decode cX7_exchanges 59 = .ok (.goto (-25), 3) := by decide +kernel
theorem dX7_exchanges_62 : decode cX7_exchanges 62 = .ok (.iinc 4 1, 3) := by decide +kernel
theorem dX7_exchanges_65 : decode cX7_exchanges 65 = .ok (.goto (-58), 3) := by decide +kernel
theorem dX7_exchanges_68 : decode cX7_exchanges 68 = .ok (.iload_n 1, 1) := by decide +kernel
theorem dX7_exchanges_69 : decode cX7_exchanges 69 = .ok (.iload_n 3, 1) := by decide +kernel
theorem dX7_exchanges_70 : decode cX7_exchanges 70 = .ok (.isub, 1) := by decide +kernel
theorem dX7_exchanges_71 : decode cX7_exchanges 71 = .ok (.ireturn, 1) := by decide +kernel
theorem dX7_swaps_0 : decode cX7_swaps 0 = .ok (.iconst 0, 1) := by decide +kernel
theorem dX7_swaps_1 : decode cX7_swaps 1 = .ok (.istore_n 1, 1) := by decide +kernel
theorem dX7_swaps_2 : decode cX7_swaps 2 = .ok (.iconst 0, 1) := by decide +kernel
theorem dX7_swaps_3 : decode cX7_swaps 3 = .ok (.istore_n 2, 1) := by decide +kernel
theorem dX7_swaps_4 : decode cX7_swaps 4 = .ok (.iload_n 2, 1) := by decide +kernel
theorem dX7_swaps_5 : decode cX7_swaps 5 = .ok (.aload_n 0, 1) := by decide +kernel
theorem dX7_swaps_6 : decode cX7_swaps 6 = .ok (.getfield 13, 3) := by decide +kernel
theorem dX7_swaps_9 : decode cX7_swaps 9 = .ok (.iconst 0, 1) := by decide +kernel
theorem dX7_swaps_10 : decode cX7_swaps 10 = .ok (.iaload, 1) := by decide +kernel
theorem dX7_swaps_11 : decode cX7_swaps 11 = .ok (.if_icmp .ge 33, 3) := by decide +kernel
theorem dX7_swaps_14 : decode cX7_swaps 14 = .ok (.aload_n 0, 1) := by decide +kernel
theorem dX7_swaps_15 : decode cX7_swaps 15 = .ok (.getfield 19, 3) := by decide +kernel
theorem dX7_swaps_18 : decode cX7_swaps 18 = .ok (.bipush 49, 2) := by decide +kernel
theorem dX7_swaps_20 : decode cX7_swaps 20 = .ok (.iload_n 2, 1) := by decide +kernel
theorem dX7_swaps_21 : decode cX7_swaps 21 = .ok (.iadd, 1) := by decide +kernel
theorem dX7_swaps_22 : decode cX7_swaps 22 = .ok (.iaload, 1) := by decide +kernel
theorem dX7_swaps_23 : decode cX7_swaps 23 = .ok (.bipush (-9), 2) := by decide +kernel
theorem dX7_swaps_25 : decode cX7_swaps 25 = .ok (.if_icmp .eq 13, 3) := by decide +kernel
theorem dX7_swaps_28 : decode cX7_swaps 28 = .ok (.aload_n 0, 1) := by decide +kernel
theorem dX7_swaps_29 : decode cX7_swaps 29 = .ok (.getfield 41, 3) := by decide +kernel
theorem dX7_swaps_32 : decode cX7_swaps 32 = .ok (.iload_n 1, 1) := by decide +kernel
theorem dX7_swaps_33 : decode cX7_swaps 33 = .ok (.iload_n 2, 1) := by decide +kernel
theorem dX7_swaps_34 : decode cX7_swaps 34 = .ok (.iastore, 1) := by decide +kernel
theorem dX7_swaps_35 : decode cX7_swaps 35 = .ok (.iinc 1 1, 3) := by decide +kernel
theorem dX7_swaps_38 : decode cX7_swaps 38 = .ok (.iinc 2 1, 3) := by decide +kernel
theorem dX7_swaps_41 : decode cX7_swaps 41 = .ok (.goto (-37), 3) := by decide +kernel
theorem dX7_swaps_44 : decode cX7_swaps 44 = .ok (.iconst 1, 1) := by decide +kernel
theorem dX7_swaps_45 : decode cX7_swaps 45 = .ok (.istore_n 2, 1) := by decide +kernel
theorem dX7_swaps_46 : decode cX7_swaps 46 = .ok (.iconst 0, 1) := by decide +kernel
theorem dX7_swaps_47 : decode cX7_swaps 47 = .ok (.istore_n 3, 1) := by decide +kernel
theorem dX7_swaps_48 : decode cX7_swaps 48 = .ok (.iload_n 3, 1) := by decide +kernel
theorem dX7_swaps_49 : decode cX7_swaps 49 = .ok (.iload_n 1, 1) := by decide +kernel
theorem dX7_swaps_50 : decode cX7_swaps 50 = .ok (.if_icmp .ge 13, 3) := by decide +kernel
theorem dX7_swaps_53 : decode cX7_swaps 53 = .ok (.iload_n 2, 1) := by decide +kernel
theorem dX7_swaps_54 : decode cX7_swaps 54 = .ok (.iload_n 1, 1) := by decide +kernel
theorem dX7_swaps_55 : decode cX7_swaps 55 = .ok (.imul, 1) := by decide +kernel
theorem dX7_swaps_56 : decode cX7_swaps 56 = .ok (.istore_n 2, 1) := by decide +kernel
theorem dX7_swaps_57 : decode cX7_swaps 57 = .ok (.iinc 3 1, 3) := by decide +kernel
theorem dX7_swaps_60 : decode cX7_swaps 60 = .ok (.goto (-12), 3) := by decide +kernel
theorem dX7_swaps_63 : decode cX7_swaps 63 = .ok (.bipush (-9), 2) := by decide +kernel
theorem dX7_swaps_65 : decode cX7_swaps 65 = .ok (.istore_n 3, 1) := by decide +kernel
theorem dX7_swaps_66 : decode cX7_swaps 66 = .ok (.iconst 0, 1) := by decide +kernel
theorem dX7_swaps_67 : decode cX7_swaps 67 = .ok (.istore 4, 2) := by decide +kernel
theorem dX7_swaps_69 : decode cX7_swaps 69 = .ok (.iload 4, 2) := by decide +kernel
theorem dX7_swaps_71 : decode cX7_swaps 71 = .ok (.iload_n 2, 1) := by decide +kernel
theorem dX7_swaps_72 : decode cX7_swaps 72 = .ok (.if_icmp .ge 106, 3) := by decide +kernel
theorem dX7_swaps_75 : decode cX7_swaps 75 = .ok (.iload 4, 2) := by decide +kernel
theorem dX7_swaps_77 : decode cX7_swaps 77 = .ok (.istore 5, 2) := by decide +kernel
theorem dX7_swaps_79 : decode cX7_swaps 79 = .ok (.iconst 0, 1) := by decide +kernel
theorem dX7_swaps_80 : decode cX7_swaps 80 = .ok (.istore 6, 2) := by decide +kernel
theorem dX7_swaps_82 : decode cX7_swaps 82 = .ok (.iconst 0, 1) := by decide +kernel
theorem dX7_swaps_83 : decode cX7_swaps 83 = .ok (.istore 7, 2) := by decide +kernel
theorem dX7_swaps_85 : decode cX7_swaps 85 = .ok (.iload 7, 2) := by decide +kernel
theorem dX7_swaps_87 : decode cX7_swaps 87 = .ok (.iload_n 1, 1) := by decide +kernel
theorem dX7_swaps_88 : decode cX7_swaps 88 = .ok (.if_icmp .ge 40, 3) := by decide +kernel
theorem dX7_swaps_91 : decode cX7_swaps 91 = .ok (.aload_n 0, 1) := by decide +kernel
theorem dX7_swaps_92 : decode cX7_swaps 92 = .ok (.getfield 44, 3) := by decide +kernel
theorem dX7_swaps_95 : decode cX7_swaps 95 = .ok (.iload 7, 2) := by decide +kernel
theorem dX7_swaps_97 : decode cX7_swaps 97 = .ok (.iload 5, 2) := by decide +kernel
theorem dX7_swaps_99 : decode cX7_swaps 99 = .ok (.iload_n 1, 1) := by decide +kernel
theorem dX7_swaps_100 : decode cX7_swaps 100 = .ok (.irem, 1) := by decide +kernel
theorem dX7_swaps_101 : decode cX7_swaps 101 = .ok (.iastore, 1) := by decide +kernel
theorem dX7_swaps_102 : decode cX7_swaps 102 = .ok (.iload 5, 2) := by decide +kernel
theorem dX7_swaps_104 : decode cX7_swaps 104 = .ok (.iload_n 1, 1) := by decide +kernel
theorem dX7_swaps_105 : decode cX7_swaps 105 = .ok (.idiv, 1) := by decide +kernel
theorem dX7_swaps_106 : decode cX7_swaps 106 = .ok (.istore 5, 2) := by decide +kernel
theorem dX7_swaps_108 : decode cX7_swaps 108 = .ok (.iload 6, 2) := by decide +kernel
theorem dX7_swaps_110 : decode cX7_swaps 110 = .ok (.iconst 1, 1) := by decide +kernel
theorem dX7_swaps_111 : decode cX7_swaps 111 = .ok (.aload_n 0, 1) := by decide +kernel
theorem dX7_swaps_112 : decode cX7_swaps 112 = .ok (.getfield 44, 3) := by decide +kernel
theorem dX7_swaps_115 : decode cX7_swaps 115 = .ok (.iload 7, 2) := by decide +kernel
theorem dX7_swaps_117 : decode cX7_swaps 117 = .ok (.iaload, 1) := by decide +kernel
theorem dX7_swaps_118 : decode cX7_swaps 118 = .ok (.ishl, 1) := by decide +kernel
theorem dX7_swaps_119 : decode cX7_swaps 119 = .ok (.ior, 1) := by decide +kernel
theorem dX7_swaps_120 : decode cX7_swaps 120 = .ok (.istore 6, 2) := by decide +kernel
theorem dX7_swaps_122 : decode cX7_swaps 122 = .ok (.iinc 7 1, 3) := by decide +kernel
theorem dX7_swaps_125 : decode cX7_swaps 125 = .ok (.goto (-40), 3) := by decide +kernel
theorem dX7_swaps_128 : decode cX7_swaps 128 = .ok (.iload 6, 2) := by decide +kernel
theorem dX7_swaps_130 : decode cX7_swaps 130 = .ok (.iconst 1, 1) := by decide +kernel
theorem dX7_swaps_131 : decode cX7_swaps 131 = .ok (.iload_n 1, 1) := by decide +kernel
theorem dX7_swaps_132 : decode cX7_swaps 132 = .ok (.ishl, 1) := by decide +kernel
theorem dX7_swaps_133 : decode cX7_swaps 133 = .ok (.iconst 1, 1) := by decide +kernel
theorem dX7_swaps_134 : decode cX7_swaps 134 = .ok (.isub, 1) := by decide +kernel
theorem dX7_swaps_135 : decode cX7_swaps 135 = .ok (.if_icmp .ne 37, 3) := by decide +kernel
theorem dX7_swaps_138 : decode cX7_swaps 138 = .ok (.aload_n 0, 1) := by decide +kernel
theorem dX7_swaps_139 : decode cX7_swaps 139 = .ok (.iload_n 1, 1) := by decide +kernel
theorem dX7_swaps_140 : decode cX7_swaps 140 = .ok (.invokevirtual 156, 3) := by decide +kernel
theorem dX7_swaps_143 : decode cX7_swaps 143 = .ok (.ifCond .eq 29, 3) := by decide +kernel
theorem dX7_swaps_146 : decode cX7_swaps 146 = .ok (.aload_n 0, 1) := by decide +kernel
theorem dX7_swaps_147 : decode cX7_swaps 147 = .ok (.iload_n 1, 1) := by decide +kernel
theorem dX7_swaps_148 : decode cX7_swaps 148 = .ok (.invokevirtual 159, 3) := by decide +kernel
theorem dX7_swaps_151 : decode cX7_swaps 151 = .ok (.istore 7, 2) := by decide +kernel
theorem dX7_swaps_153 : decode cX7_swaps 153 = .ok (.iload_n 3, 1) := by decide +kernel
theorem dX7_swaps_154 : decode cX7_swaps 154 = .ok (.bipush (-9), 2) := by decide +kernel
theorem dX7_swaps_156 : decode cX7_swaps 156 = .ok (.if_icmp .eq 9, 3) := by decide +kernel
theorem dX7_swaps_159 : decode cX7_swaps 159 = .ok (.iload 7, 2) := by decide +kernel
theorem dX7_swaps_161 : decode cX7_swaps 161 = .ok (.iload_n 3, 1) := by decide +kernel
theorem dX7_swaps_162 : decode cX7_swaps 162 = .ok (.if_icmp .ge 8, 3) := by decide +kernel
theorem dX7_swaps_165 : decode cX7_swaps 165 = .ok (.iload 7, 2) := by decide +kernel
theorem dX7_swaps_167 : decode cX7_swaps 167 = .ok (.goto 4, 3) := by decide +kernel
theorem dX7_swaps_170 : decode cX7_swaps 170 = .ok (.iload_n 3, 1) := by decide +kernel
theorem dX7_swaps_171 : decode cX7_swaps 171 = .ok (.istore_n 3, 1) := by decide +kernel
theorem dX7_swaps_172 : decode cX7_swaps 172 = .ok (.iinc 4 1, 3) := by decide +kernel
theorem dX7_swaps_175 : decode cX7_swaps 175 = .ok (.goto (-106), 3) := by decide +kernel
theorem dX7_swaps_178 : decode cX7_swaps 178 = .ok (.iload_n 3, 1) := by decide +kernel
theorem dX7_swaps_179 : decode cX7_swaps 179 = .ok (.ireturn, 1) := by decide +kernel
theorem dX7_comesOut_0 : decode cX7_comesOut 0 = .ok (.iconst 1, 1) := by decide +kernel
theorem dX7_comesOut_1 : decode cX7_comesOut 1 = .ok (.istore_n 2, 1) := by decide +kernel
theorem dX7_comesOut_2 : decode cX7_comesOut 2 = .ok (.iconst 0, 1) := by decide +kernel
theorem dX7_comesOut_3 : decode cX7_comesOut 3 = .ok (.istore_n 3, 1) := by decide +kernel
theorem dX7_comesOut_4 : decode cX7_comesOut 4 = .ok (.iload_n 3, 1) := by decide +kernel
theorem dX7_comesOut_5 : decode cX7_comesOut 5 = .ok (.iload_n 1, 1) := by decide +kernel
theorem dX7_comesOut_6 : decode cX7_comesOut 6 = .ok (.if_icmp .ge 53, 3) := by decide +kernel
theorem dX7_comesOut_9 : decode cX7_comesOut 9 = .ok (.iload_n 2, 1) := by decide +kernel
theorem dX7_comesOut_10 : decode cX7_comesOut 10 = .ok (.ifCond .eq 49, 3) := by decide +kernel
theorem dX7_comesOut_13 : decode cX7_comesOut 13 = .ok (.aload_n 0, 1) := by decide +kernel
theorem dX7_comesOut_14 : decode cX7_comesOut 14 = .ok (.aload_n 0, 1) := by decide +kernel
theorem dX7_comesOut_15 : decode cX7_comesOut 15 = .ok (.getfield 41, 3) := by decide +kernel
theorem dX7_comesOut_18 : decode cX7_comesOut 18 = .ok (.aload_n 0, 1) := by decide +kernel
theorem dX7_comesOut_19 : decode cX7_comesOut 19 = .ok (.getfield 44, 3) := by decide +kernel
theorem dX7_comesOut_22 : decode cX7_comesOut 22 = .ok (.iload_n 3, 1) := by decide +kernel
theorem dX7_comesOut_23 : decode cX7_comesOut 23 = .ok (.iaload, 1) := by decide +kernel
theorem dX7_comesOut_24 : decode cX7_comesOut 24 = .ok (.iaload, 1) := by decide +kernel
theorem dX7_comesOut_25 : decode cX7_comesOut 25 = .ok (.bipush 9, 2) := by decide +kernel
theorem dX7_comesOut_27 : decode cX7_comesOut 27 = .ok (.invokevirtual 132, 3) := by decide +kernel
theorem dX7_comesOut_30 : decode cX7_comesOut 30 = .ok (.aload_n 0, 1) := by decide +kernel
theorem dX7_comesOut_31 : decode cX7_comesOut 31 = .ok (.getfield 19, 3) := by decide +kernel
theorem dX7_comesOut_34 : decode cX7_comesOut 34 = .ok (.bipush 49, 2) := by decide +kernel
theorem dX7_comesOut_36 : decode cX7_comesOut 36 = .ok (.aload_n 0, 1) := by decide +kernel
theorem dX7_comesOut_37 : decode cX7_comesOut 37 = .ok (.getfield 41, 3) := by decide +kernel
theorem dX7_comesOut_40 : decode cX7_comesOut 40 = .ok (.iload_n 3, 1) := by decide +kernel
theorem dX7_comesOut_41 : decode cX7_comesOut 41 = .ok (.iaload, 1) := by decide +kernel
theorem dX7_comesOut_42 : decode cX7_comesOut 42 = .ok (.iadd, 1) := by decide +kernel
theorem dX7_comesOut_43 : decode cX7_comesOut 43 = .ok (.iaload, 1) := by decide +kernel
theorem dX7_comesOut_44 : decode cX7_comesOut 44 = .ok (.if_icmp .ne 7, 3) := by decide +kernel
theorem dX7_comesOut_47 : decode cX7_comesOut 47 = .ok (.iconst 1, 1) := by decide +kernel
theorem dX7_comesOut_48 : decode cX7_comesOut 48 = .ok (.goto 4, 3) := by decide +kernel
theorem dX7_comesOut_51 : decode cX7_comesOut 51 = .ok (.iconst 0, 1) := by decide +kernel
theorem dX7_comesOut_52 : decode cX7_comesOut 52 = .ok (.istore_n 2, 1) := by decide +kernel
theorem dX7_comesOut_53 : decode cX7_comesOut 53 = .ok (.iinc 3 1, 3) := by decide +kernel
theorem dX7_comesOut_56 : decode cX7_comesOut 56 = .ok (.goto (-52), 3) := by decide +kernel
theorem dX7_comesOut_59 : decode cX7_comesOut 59 = .ok (.iload_n 2, 1) := by decide +kernel
theorem dX7_comesOut_60 : decode cX7_comesOut 60 = .ok (.ireturn, 1) := by decide +kernel
theorem dX7_rate_0 : decode cX7_rate 0 = .ok (.iload_n 1, 1) := by decide +kernel
theorem dX7_rate_1 : decode cX7_rate 1 = .ok (.iconst 0, 1) := by decide +kernel
theorem dX7_rate_2 : decode cX7_rate 2 = .ok (.iconst 5, 1) := by decide +kernel
theorem dX7_rate_3 : decode cX7_rate 3 = .ok (.invokestatic 54, 3) := by decide +kernel
theorem dX7_rate_6 : decode cX7_rate 6 = .ok (.ifCond .eq 11, 3) := by decide +kernel
theorem dX7_rate_9 : decode cX7_rate 9 = .ok (.aload_n 0, 1) := by decide +kernel
theorem dX7_rate_10 : decode cX7_rate 10 = .ok (.iload_n 2, 1) := by decide +kernel
theorem dX7_rate_11 : decode cX7_rate 11 = .ok (.invokevirtual 120, 3) := by decide +kernel
theorem dX7_rate_14 : decode cX7_rate 14 = .ok (.ifCond .ne 6, 3) := by decide +kernel
theorem dX7_rate_17 : decode cX7_rate 17 = .ok (.ldc 162, 2) := by decide +kernel
theorem dX7_rate_19 : decode cX7_rate 19 = .ok (.ireturn, 1) := by decide +kernel
theorem dX7_rate_20 : decode cX7_rate 20 = .ok (.aload_n 0, 1) := by decide +kernel
theorem dX7_rate_21 : decode cX7_rate 21 = .ok (.dup, 1) := by decide +kernel
theorem dX7_rate_22 : decode cX7_rate 22 = .ok (.getfield 163, 3) := by decide +kernel
theorem dX7_rate_25 : decode cX7_rate 25 = .ok (.iload_n 1, 1) := by decide +kernel
theorem dX7_rate_26 : decode cX7_rate 26 = .ok (.ifCond .ne 7, 3) := by decide +kernel
theorem dX7_rate_29 : decode cX7_rate 29 = .ok (.lconst 1, 1) := by decide +kernel
theorem dX7_rate_30 : decode cX7_rate 30 = .ok (.goto 50, 3) := by decide +kernel
theorem dX7_rate_33 : decode cX7_rate 33 = .ok (.iload_n 1, 1) := by decide +kernel
theorem dX7_rate_34 : decode cX7_rate 34 = .ok (.iconst 1, 1) := by decide +kernel
theorem dX7_rate_35 : decode cX7_rate 35 = .ok (.if_icmp .ne 9, 3) := by decide +kernel
theorem dX7_rate_38 : decode cX7_rate 38 = .ok (.ldc2_w 167, 3) := by decide +kernel
theorem dX7_rate_41 : decode cX7_rate 41 = .ok (.goto 39, 3) := by decide +kernel
theorem dX7_rate_44 : decode cX7_rate 44 = .ok (.iload_n 1, 1) := by decide +kernel
theorem dX7_rate_45 : decode cX7_rate 45 = .ok (.iconst 2, 1) := by decide +kernel
theorem dX7_rate_46 : decode cX7_rate 46 = .ok (.if_icmp .ne 9, 3) := by decide +kernel
theorem dX7_rate_49 : decode cX7_rate 49 = .ok (.ldc2_w 169, 3) := by decide +kernel
theorem dX7_rate_52 : decode cX7_rate 52 = .ok (.goto 28, 3) := by decide +kernel
theorem dX7_rate_55 : decode cX7_rate 55 = .ok (.iload_n 1, 1) := by decide +kernel
theorem dX7_rate_56 : decode cX7_rate 56 = .ok (.iconst 3, 1) := by decide +kernel
theorem dX7_rate_57 : decode cX7_rate 57 = .ok (.if_icmp .ne 9, 3) := by decide +kernel
theorem dX7_rate_60 : decode cX7_rate 60 = .ok (.ldc2_w 171, 3) := by decide +kernel
theorem dX7_rate_63 : decode cX7_rate 63 = .ok (.goto 17, 3) := by decide +kernel
theorem dX7_rate_66 : decode cX7_rate 66 = .ok (.iload_n 1, 1) := by decide +kernel
theorem dX7_rate_67 : decode cX7_rate 67 = .ok (.iconst 4, 1) := by decide +kernel
theorem dX7_rate_68 : decode cX7_rate 68 = .ok (.if_icmp .ne 9, 3) := by decide +kernel
theorem dX7_rate_71 : decode cX7_rate 71 = .ok (.ldc2_w 173, 3) := by decide +kernel
theorem dX7_rate_74 : decode cX7_rate 74 = .ok (.goto 6, 3) := by decide +kernel
theorem dX7_rate_77 : decode cX7_rate 77 = .ok (.ldc2_w 175, 3) := by decide +kernel
theorem dX7_rate_80 : decode cX7_rate 80 = .ok (.ladd, 1) := by decide +kernel
theorem dX7_rate_81 : decode cX7_rate 81 = .ok (.putfield 163, 3) := by decide +kernel
theorem dX7_rate_84 : decode cX7_rate 84 = .ok (.aload_n 0, 1) := by decide +kernel
theorem dX7_rate_85 : decode cX7_rate 85 = .ok (.getfield 13, 3) := by decide +kernel
theorem dX7_rate_88 : decode cX7_rate 88 = .ok (.iconst 4, 1) := by decide +kernel
theorem dX7_rate_89 : decode cX7_rate 89 = .ok (.iload_n 2, 1) := by decide +kernel
theorem dX7_rate_90 : decode cX7_rate 90 = .ok (.iadd, 1) := by decide +kernel
theorem dX7_rate_91 : decode cX7_rate 91 = .ok (.iaload, 1) := by decide +kernel
theorem dX7_rate_92 : decode cX7_rate 92 = .ok (.istore_n 3, 1) := by decide +kernel
theorem dX7_rate_93 : decode cX7_rate 93 = .ok (.iconst 0, 1) := by decide +kernel
theorem dX7_rate_94 : decode cX7_rate 94 = .ok (.istore 4, 2) := by decide +kernel
theorem dX7_rate_96 : decode cX7_rate 96 = .ok (.iload 4, 2) := by decide +kernel
theorem dX7_rate_98 : decode cX7_rate 98 = .ok (.bipush 10, 2) := by decide +kernel
theorem dX7_rate_100 : decode cX7_rate 100 = .ok (.if_icmp .ge 27, 3) := by decide +kernel
theorem dX7_rate_103 : decode cX7_rate 103 = .ok (.iload_n 3, 1) := by decide +kernel
theorem dX7_rate_104 : decode cX7_rate 104 = .ok (.aload_n 0, 1) := by decide +kernel
theorem dX7_rate_105 : decode cX7_rate 105 = .ok (.iload_n 2, 1) := by decide +kernel
theorem dX7_rate_106 : decode cX7_rate 106 = .ok (.iload 4, 2) := by decide +kernel
theorem dX7_rate_108 : decode cX7_rate 108 = .ok (.invokevirtual 126, 3) := by decide +kernel
theorem dX7_rate_111 : decode cX7_rate 111 = .ok (.ifCond .le 7, 3) := by decide +kernel
theorem dX7_rate_114 : decode cX7_rate 114 = .ok (.iconst 1, 1) := by decide +kernel
theorem dX7_rate_115 : decode cX7_rate 115 = .ok (.goto 4, 3) := by decide +kernel
theorem dX7_rate_118 : decode cX7_rate 118 = .ok (.iconst 0, 1) := by decide +kernel
theorem dX7_rate_119 : decode cX7_rate 119 = .ok (.iadd, 1) := by decide +kernel
theorem dX7_rate_120 : decode cX7_rate 120 = .ok (.istore_n 3, 1) := by decide +kernel
theorem dX7_rate_121 : decode cX7_rate 121 = .ok (.iinc 4 1, 3) := by decide +kernel
theorem dX7_rate_124 : decode cX7_rate 124 = .ok (.goto (-28), 3) := by decide +kernel
theorem dX7_rate_127 : decode cX7_rate 127 = .ok (.aload_n 0, 1) := by decide +kernel
theorem dX7_rate_128 : decode cX7_rate 128 = .ok (.getfield 13, 3) := by decide +kernel
theorem dX7_rate_131 : decode cX7_rate 131 = .ok (.iconst 4, 1) := by decide +kernel
theorem dX7_rate_132 : decode cX7_rate 132 = .ok (.iload_n 2, 1) := by decide +kernel
theorem dX7_rate_133 : decode cX7_rate 133 = .ok (.iadd, 1) := by decide +kernel
theorem dX7_rate_134 : decode cX7_rate 134 = .ok (.iaload, 1) := by decide +kernel
theorem dX7_rate_135 : decode cX7_rate 135 = .ok (.istore 4, 2) := by decide +kernel
theorem dX7_rate_137 : decode cX7_rate 137 = .ok (.iconst 0, 1) := by decide +kernel
theorem dX7_rate_138 : decode cX7_rate 138 = .ok (.istore 5, 2) := by decide +kernel
theorem dX7_rate_140 : decode cX7_rate 140 = .ok (.iload 5, 2) := by decide +kernel
theorem dX7_rate_142 : decode cX7_rate 142 = .ok (.aload_n 0, 1) := by decide +kernel
theorem dX7_rate_143 : decode cX7_rate 143 = .ok (.getfield 19, 3) := by decide +kernel
theorem dX7_rate_146 : decode cX7_rate 146 = .ok (.iconst 0, 1) := by decide +kernel
theorem dX7_rate_147 : decode cX7_rate 147 = .ok (.iaload, 1) := by decide +kernel
theorem dX7_rate_148 : decode cX7_rate 148 = .ok (.if_icmp .ge 33, 3) := by decide +kernel
theorem dX7_rate_151 : decode cX7_rate 151 = .ok (.iload 4, 2) := by decide +kernel
theorem dX7_rate_153 : decode cX7_rate 153 = .ok (.aload_n 0, 1) := by decide +kernel
theorem dX7_rate_154 : decode cX7_rate 154 = .ok (.getfield 19, 3) := by decide +kernel
theorem dX7_rate_157 : decode cX7_rate 157 = .ok (.bipush 13, 2) := by decide +kernel
theorem dX7_rate_159 : decode cX7_rate 159 = .ok (.iload 5, 2) := by decide +kernel
theorem dX7_rate_161 : decode cX7_rate 161 = .ok (.iadd, 1) := by decide +kernel
theorem dX7_rate_162 : decode cX7_rate 162 = .ok (.iaload, 1) := by decide +kernel
theorem dX7_rate_163 : decode cX7_rate 163 = .ok (.iload_n 2, 1) := by decide +kernel
theorem dX7_rate_164 : decode cX7_rate 164 = .ok (.if_icmp .ne 7, 3) := by decide +kernel
theorem dX7_rate_167 : decode cX7_rate 167 = .ok (.iconst 1, 1) := by decide +kernel
theorem dX7_rate_168 : decode cX7_rate 168 = .ok (.goto 4, 3) := by decide +kernel
theorem dX7_rate_171 : decode cX7_rate 171 = .ok (.iconst 0, 1) := by decide +kernel
theorem dX7_rate_172 : decode cX7_rate 172 = .ok (.isub, 1) := by decide +kernel
theorem dX7_rate_173 : decode cX7_rate 173 = .ok (.istore 4, 2) := by decide +kernel
theorem dX7_rate_175 : decode cX7_rate 175 = .ok (.iinc 5 1, 3) := by decide +kernel
theorem dX7_rate_178 : decode cX7_rate 178 = .ok (.goto (-38), 3) := by decide +kernel
theorem dX7_rate_181 : decode cX7_rate 181 = .ok (.iload_n 1, 1) := by decide +kernel
theorem dX7_rate_182 : decode cX7_rate 182 = .ok (.ifCond .ne 14, 3) := by decide +kernel
theorem dX7_rate_185 : decode cX7_rate 185 = .ok (.aload_n 0, 1) := by decide +kernel
theorem dX7_rate_186 : decode cX7_rate 186 = .ok (.getfield 13, 3) := by decide +kernel
theorem dX7_rate_189 : decode cX7_rate 189 = .ok (.iconst 4, 1) := by decide +kernel
theorem dX7_rate_190 : decode cX7_rate 190 = .ok (.iload_n 2, 1) := by decide +kernel
theorem dX7_rate_191 : decode cX7_rate 191 = .ok (.iadd, 1) := by decide +kernel
theorem dX7_rate_192 : decode cX7_rate 192 = .ok (.iaload, 1) := by decide +kernel
theorem dX7_rate_193 : decode cX7_rate 193 = .ok (.goto 61, 3) := by decide +kernel
theorem dX7_rate_196 : decode cX7_rate 196 = .ok (.iload_n 1, 1) := by decide +kernel
theorem dX7_rate_197 : decode cX7_rate 197 = .ok (.iconst 1, 1) := by decide +kernel
theorem dX7_rate_198 : decode cX7_rate 198 = .ok (.if_icmp .ne 7, 3) := by decide +kernel
theorem dX7_rate_201 : decode cX7_rate 201 = .ok (.iload_n 3, 1) := by decide +kernel
theorem dX7_rate_202 : decode cX7_rate 202 = .ok (.goto 52, 3) := by decide +kernel
theorem dX7_rate_205 : decode cX7_rate 205 = .ok (.iload_n 1, 1) := by decide +kernel
theorem dX7_rate_206 : decode cX7_rate 206 = .ok (.iconst 2, 1) := by decide +kernel
theorem dX7_rate_207 : decode cX7_rate 207 = .ok (.if_icmp .ne 8, 3) := by decide +kernel
theorem dX7_rate_210 : decode cX7_rate 210 = .ok (.iload 4, 2) := by decide +kernel
theorem dX7_rate_212 : decode cX7_rate 212 = .ok (.goto 42, 3) := by decide +kernel
theorem dX7_rate_215 : decode cX7_rate 215 = .ok (.iload_n 1, 1) := by decide +kernel
theorem dX7_rate_216 : decode cX7_rate 216 = .ok (.iconst 3, 1) := by decide +kernel
theorem dX7_rate_217 : decode cX7_rate 217 = .ok (.if_icmp .ne 9, 3) := by decide +kernel
theorem dX7_rate_220 : decode cX7_rate 220 = .ok (.iconst 2, 1) := by decide +kernel
theorem dX7_rate_221 : decode cX7_rate 221 = .ok (.iload_n 3, 1) := by decide +kernel
theorem dX7_rate_222 : decode cX7_rate 222 = .ok (.imul, 1) := by decide +kernel
theorem dX7_rate_223 : decode cX7_rate 223 = .ok (.goto 31, 3) := by decide +kernel
theorem dX7_rate_226 : decode cX7_rate 226 = .ok (.iload_n 1, 1) := by decide +kernel
theorem dX7_rate_227 : decode cX7_rate 227 = .ok (.iconst 4, 1) := by decide +kernel
theorem dX7_rate_228 : decode cX7_rate 228 = .ok (.if_icmp .ne 10, 3) := by decide +kernel
theorem dX7_rate_231 : decode cX7_rate 231 = .ok (.iload 4, 2) := by decide +kernel
theorem dX7_rate_233 : decode cX7_rate 233 = .ok (.iload_n 2, 1) := by decide +kernel
theorem dX7_rate_234 : decode cX7_rate 234 = .ok (.iadd, 1) := by decide +kernel
theorem dX7_rate_235 : decode cX7_rate 235 = .ok (.goto 19, 3) := by decide +kernel
theorem dX7_rate_238 : decode cX7_rate 238 = .ok (.aload_n 0, 1) := by decide +kernel
theorem dX7_rate_239 : decode cX7_rate 239 = .ok (.getfield 13, 3) := by decide +kernel
theorem dX7_rate_242 : decode cX7_rate 242 = .ok (.iconst 4, 1) := by decide +kernel
theorem dX7_rate_243 : decode cX7_rate 243 = .ok (.iload_n 2, 1) := by decide +kernel
theorem dX7_rate_244 : decode cX7_rate 244 = .ok (.iadd, 1) := by decide +kernel
theorem dX7_rate_245 : decode cX7_rate 245 = .ok (.iaload, 1) := by decide +kernel
theorem dX7_rate_246 : decode cX7_rate 246 = .ok (.aload_n 0, 1) := by decide +kernel
theorem dX7_rate_247 : decode cX7_rate 247 = .ok (.iload_n 2, 1) := by decide +kernel
theorem dX7_rate_248 : decode cX7_rate 248 = .ok (.bipush 9, 2) := by decide +kernel
theorem dX7_rate_250 : decode cX7_rate 250 = .ok (.invokevirtual 132, 3) := by decide +kernel
theorem dX7_rate_253 : decode cX7_rate 253 = .ok (.iadd, 1) := by decide +kernel
theorem dX7_rate_254 : decode cX7_rate 254 = .ok (.ireturn, 1) := by decide +kernel
theorem dX7_keep_0 : decode cX7_keep 0 = .ok (.iload_n 1, 1) := by decide +kernel
theorem dX7_keep_1 : decode cX7_keep 1 = .ok (.iconst 0, 1) := by decide +kernel
theorem dX7_keep_2 : decode cX7_keep 2 = .ok (.iconst 1, 1) := by decide +kernel
theorem dX7_keep_3 : decode cX7_keep 3 = .ok (.invokestatic 54, 3) := by decide +kernel
theorem dX7_keep_6 : decode cX7_keep 6 = .ok (.ifCond .ne 5, 3) := by decide +kernel
theorem dX7_keep_9 : decode cX7_keep 9 = .ok (.iconst (-1), 1) := by decide +kernel
theorem dX7_keep_10 : decode cX7_keep 10 = .ok (.ireturn, 1) := by decide +kernel
theorem dX7_keep_11 : decode cX7_keep 11 = .ok (.iconst 0, 1) := by decide +kernel
theorem dX7_keep_12 : decode cX7_keep 12 = .ok (.istore_n 2, 1) := by decide +kernel
theorem dX7_keep_13 : decode cX7_keep 13 = .ok (.iload_n 2, 1) := by decide +kernel
theorem dX7_keep_14 : decode cX7_keep 14 = .ok (.bipush 55, 2) := by decide +kernel
theorem dX7_keep_16 : decode cX7_keep 16 = .ok (.if_icmp .ge 26, 3) := by decide +kernel
theorem dX7_keep_19 : decode cX7_keep 19 = .ok (.aload_n 0, 1) := by decide +kernel
theorem dX7_keep_20 : decode cX7_keep 20 = .ok (.getfield 22, 3) := by decide +kernel
theorem dX7_keep_23 : decode cX7_keep 23 = .ok (.bipush 55, 2) := by decide +kernel
theorem dX7_keep_25 : decode cX7_keep 25 = .ok (.iload_n 1, 1) := by decide +kernel
theorem dX7_keep_26 : decode cX7_keep 26 = .ok (.imul, 1) := by decide +kernel
theorem dX7_keep_27 : decode cX7_keep 27 = .ok (.iload_n 2, 1) := by decide +kernel
theorem dX7_keep_28 : decode cX7_keep 28 = .ok (.iadd, 1) := by decide +kernel
theorem dX7_keep_29 : decode cX7_keep 29 = .ok (.aload_n 0, 1) := by decide +kernel
theorem dX7_keep_30 : decode cX7_keep 30 = .ok (.getfield 19, 3) := by decide +kernel
theorem dX7_keep_33 : decode cX7_keep 33 = .ok (.iload_n 2, 1) := by decide +kernel
theorem dX7_keep_34 : decode cX7_keep 34 = .ok (.iaload, 1) := by decide +kernel
theorem dX7_keep_35 : decode cX7_keep 35 = .ok (.iastore, 1) := by decide +kernel
theorem dX7_keep_36 : decode cX7_keep 36 = .ok (.iinc 2 1, 3) := by decide +kernel
theorem dX7_keep_39 : decode cX7_keep 39 = .ok (.goto (-26), 3) := by decide +kernel
theorem dX7_keep_42 : decode cX7_keep 42 = .ok (.aload_n 0, 1) := by decide +kernel
theorem dX7_keep_43 : decode cX7_keep 43 = .ok (.getfield 25, 3) := by decide +kernel
theorem dX7_keep_46 : decode cX7_keep 46 = .ok (.iload_n 1, 1) := by decide +kernel
theorem dX7_keep_47 : decode cX7_keep 47 = .ok (.iconst 1, 1) := by decide +kernel
theorem dX7_keep_48 : decode cX7_keep 48 = .ok (.bastore, 1) := by decide +kernel
theorem dX7_keep_49 : decode cX7_keep 49 = .ok (.aload_n 0, 1) := by decide +kernel
theorem dX7_keep_50 : decode cX7_keep 50 = .ok (.getfield 19, 3) := by decide +kernel
theorem dX7_keep_53 : decode cX7_keep 53 = .ok (.iconst 0, 1) := by decide +kernel
theorem dX7_keep_54 : decode cX7_keep 54 = .ok (.iaload, 1) := by decide +kernel
theorem dX7_keep_55 : decode cX7_keep 55 = .ok (.ireturn, 1) := by decide +kernel
theorem dX7_back_0 : decode cX7_back 0 = .ok (.iload_n 1, 1) := by decide +kernel
theorem dX7_back_1 : decode cX7_back 1 = .ok (.iconst 0, 1) := by decide +kernel
theorem dX7_back_2 : decode cX7_back 2 = .ok (.iconst 1, 1) := by decide +kernel
theorem dX7_back_3 : decode cX7_back 3 = .ok (.invokestatic 54, 3) := by decide +kernel
theorem dX7_back_6 : decode cX7_back 6 = .ok (.ifCond .ne 5, 3) := by decide +kernel
theorem dX7_back_9 : decode cX7_back 9 = .ok (.iconst (-1), 1) := by decide +kernel
theorem dX7_back_10 : decode cX7_back 10 = .ok (.ireturn, 1) := by decide +kernel
theorem dX7_back_11 : decode cX7_back 11 = .ok (.aload_n 0, 1) := by decide +kernel
theorem dX7_back_12 : decode cX7_back 12 = .ok (.getfield 25, 3) := by decide +kernel
theorem dX7_back_15 : decode cX7_back 15 = .ok (.iload_n 1, 1) := by decide +kernel
theorem dX7_back_16 : decode cX7_back 16 = .ok (.baload, 1) := by decide +kernel
theorem dX7_back_17 : decode cX7_back 17 = .ok (.ifCond .ne 6, 3) := by decide +kernel
theorem dX7_back_20 : decode cX7_back 20 = .ok (.bipush (-2), 2) := by decide +kernel
theorem dX7_back_22 : decode cX7_back 22 = .ok (.ireturn, 1) := by decide +kernel
theorem dX7_back_23 : decode cX7_back 23 = .ok (.iconst 0, 1) := by decide +kernel
theorem dX7_back_24 : decode cX7_back 24 = .ok (.istore_n 2, 1) := by decide +kernel
theorem dX7_back_25 : decode cX7_back 25 = .ok (.iload_n 2, 1) := by decide +kernel
theorem dX7_back_26 : decode cX7_back 26 = .ok (.bipush 55, 2) := by decide +kernel
theorem dX7_back_28 : decode cX7_back 28 = .ok (.if_icmp .ge 26, 3) := by decide +kernel
theorem dX7_back_31 : decode cX7_back 31 = .ok (.aload_n 0, 1) := by decide +kernel
theorem dX7_back_32 : decode cX7_back 32 = .ok (.getfield 19, 3) := by decide +kernel
theorem dX7_back_35 : decode cX7_back 35 = .ok (.iload_n 2, 1) := by decide +kernel
theorem dX7_back_36 : decode cX7_back 36 = .ok (.aload_n 0, 1) := by decide +kernel
theorem dX7_back_37 : decode cX7_back 37 = .ok (.getfield 22, 3) := by decide +kernel
theorem dX7_back_40 : decode cX7_back 40 = .ok (.bipush 55, 2) := by decide +kernel
theorem dX7_back_42 : decode cX7_back 42 = .ok (.iload_n 1, 1) := by decide +kernel
theorem dX7_back_43 : decode cX7_back 43 = .ok (.imul, 1) := by decide +kernel
theorem dX7_back_44 : decode cX7_back 44 = .ok (.iload_n 2, 1) := by decide +kernel
theorem dX7_back_45 : decode cX7_back 45 = .ok (.iadd, 1) := by decide +kernel
theorem dX7_back_46 : decode cX7_back 46 = .ok (.iaload, 1) := by decide +kernel
theorem dX7_back_47 : decode cX7_back 47 = .ok (.iastore, 1) := by decide +kernel
theorem dX7_back_48 : decode cX7_back 48 = .ok (.iinc 2 1, 3) := by decide +kernel
theorem dX7_back_51 : decode cX7_back 51 = .ok (.goto (-26), 3) := by decide +kernel
theorem dX7_back_54 : decode cX7_back 54 = .ok (.aload_n 0, 1) := by decide +kernel
theorem dX7_back_55 : decode cX7_back 55 = .ok (.getfield 19, 3) := by decide +kernel
theorem dX7_back_58 : decode cX7_back 58 = .ok (.iconst 0, 1) := by decide +kernel
theorem dX7_back_59 : decode cX7_back 59 = .ok (.iaload, 1) := by decide +kernel
theorem dX7_back_60 : decode cX7_back 60 = .ok (.ireturn, 1) := by decide +kernel
theorem dX7_count_0 : decode cX7_count 0 = .ok (.iload_n 1, 1) := by decide +kernel
theorem dX7_count_1 : decode cX7_count 1 = .ok (.iconst 0, 1) := by decide +kernel
theorem dX7_count_2 : decode cX7_count 2 = .ok (.iconst 5, 1) := by decide +kernel
theorem dX7_count_3 : decode cX7_count 3 = .ok (.invokestatic 54, 3) := by decide +kernel
theorem dX7_count_6 : decode cX7_count 6 = .ok (.ifCond .ne 5, 3) := by decide +kernel
theorem dX7_count_9 : decode cX7_count 9 = .ok (.iconst (-1), 1) := by decide +kernel
theorem dX7_count_10 : decode cX7_count 10 = .ok (.ireturn, 1) := by decide +kernel
theorem dX7_count_11 : decode cX7_count 11 = .ok (.iconst 0, 1) := by decide +kernel
theorem dX7_count_12 : decode cX7_count 12 = .ok (.istore_n 2, 1) := by decide +kernel
theorem dX7_count_13 : decode cX7_count 13 = .ok (.iconst 0, 1) := by decide +kernel
theorem dX7_count_14 : decode cX7_count 14 = .ok (.istore_n 3, 1) := by decide +kernel
theorem dX7_count_15 : decode cX7_count 15 = .ok (.iload_n 3, 1) := by decide +kernel
theorem dX7_count_16 : decode cX7_count 16 = .ok (.aload_n 0, 1) := by decide +kernel
theorem dX7_count_17 : decode cX7_count 17 = .ok (.getfield 13, 3) := by decide +kernel
theorem dX7_count_20 : decode cX7_count 20 = .ok (.iconst 0, 1) := by decide +kernel
theorem dX7_count_21 : decode cX7_count 21 = .ok (.iaload, 1) := by decide +kernel
theorem dX7_count_22 : decode cX7_count 22 = .ok (.if_icmp .ge 36, 3) := by decide +kernel
theorem dX7_count_25 : decode cX7_count 25 = .ok (.iload_n 1, 1) := by decide +kernel
theorem dX7_count_26 : decode cX7_count 26 = .ok (.iconst 4, 1) := by decide +kernel
theorem dX7_count_27 : decode cX7_count 27 = .ok (.if_icmp .ne 31, 3) := by decide +kernel
theorem dX7_count_30 : decode cX7_count 30 = .ok (.iload_n 2, 1) := by decide +kernel
theorem dX7_count_31 : decode cX7_count 31 = .ok (.aload_n 0, 1) := by decide +kernel
theorem dX7_count_32 : decode cX7_count 32 = .ok (.getfield 19, 3) := by decide +kernel
theorem dX7_count_35 : decode cX7_count 35 = .ok (.bipush 49, 2) := by decide +kernel
theorem dX7_count_37 : decode cX7_count 37 = .ok (.iload_n 3, 1) := by decide +kernel
theorem dX7_count_38 : decode cX7_count 38 = .ok (.iadd, 1) := by decide +kernel
theorem dX7_count_39 : decode cX7_count 39 = .ok (.iaload, 1) := by decide +kernel
theorem dX7_count_40 : decode cX7_count 40 = .ok (.bipush (-9), 2) := by decide +kernel
theorem dX7_count_42 : decode cX7_count 42 = .ok (.if_icmp .ne 7, 3) := by decide +kernel
theorem dX7_count_45 : decode cX7_count 45 = .ok (.iconst 0, 1) := by decide +kernel
theorem dX7_count_46 : decode cX7_count 46 = .ok (.goto 4, 3) := by decide +kernel
theorem dX7_count_49 : decode cX7_count 49 = .ok (.iconst 1, 1) := by decide +kernel
theorem dX7_count_50 : decode cX7_count 50 = .ok (.iadd, 1) := by decide +kernel
theorem dX7_count_51 : decode cX7_count 51 = .ok (.istore_n 2, 1) := by decide +kernel
theorem dX7_count_52 : decode cX7_count 52 = .ok (.iinc 3 1, 3) := by decide +kernel
theorem dX7_count_55 : decode cX7_count 55 = .ok (.goto (-40), 3) := by decide +kernel
theorem dX7_count_58 : decode cX7_count 58 = .ok (.iload_n 1, 1) := by decide +kernel
theorem dX7_count_59 : decode cX7_count 59 = .ok (.iconst 3, 1) := by decide +kernel
theorem dX7_count_60 : decode cX7_count 60 = .ok (.if_icmp .ge 12, 3) := by decide +kernel
theorem dX7_count_63 : decode cX7_count 63 = .ok (.aload_n 0, 1) := by decide +kernel
theorem dX7_count_64 : decode cX7_count 64 = .ok (.getfield 13, 3) := by decide +kernel
theorem dX7_count_67 : decode cX7_count 67 = .ok (.iload_n 1, 1) := by decide +kernel
theorem dX7_count_68 : decode cX7_count 68 = .ok (.iaload, 1) := by decide +kernel
theorem dX7_count_69 : decode cX7_count 69 = .ok (.goto 30, 3) := by decide +kernel
theorem dX7_count_72 : decode cX7_count 72 = .ok (.iload_n 1, 1) := by decide +kernel
theorem dX7_count_73 : decode cX7_count 73 = .ok (.iconst 3, 1) := by decide +kernel
theorem dX7_count_74 : decode cX7_count 74 = .ok (.if_icmp .ne 12, 3) := by decide +kernel
theorem dX7_count_77 : decode cX7_count 77 = .ok (.aload_n 0, 1) := by decide +kernel
theorem dX7_count_78 : decode cX7_count 78 = .ok (.getfield 19, 3) := by decide +kernel
theorem dX7_count_81 : decode cX7_count 81 = .ok (.iconst 0, 1) := by decide +kernel
theorem dX7_count_82 : decode cX7_count 82 = .ok (.iaload, 1) := by decide +kernel
theorem dX7_count_83 : decode cX7_count 83 = .ok (.goto 16, 3) := by decide +kernel
theorem dX7_count_86 : decode cX7_count 86 = .ok (.iload_n 1, 1) := by decide +kernel
theorem dX7_count_87 : decode cX7_count 87 = .ok (.iconst 4, 1) := by decide +kernel
theorem dX7_count_88 : decode cX7_count 88 = .ok (.if_icmp .ne 7, 3) := by decide +kernel
theorem dX7_count_91 : decode cX7_count 91 = .ok (.iload_n 2, 1) := by decide +kernel
theorem dX7_count_92 : decode cX7_count 92 = .ok (.goto 7, 3) := by decide +kernel
theorem dX7_count_95 : decode cX7_count 95 = .ok (.aload_n 0, 1) := by decide +kernel
theorem dX7_count_96 : decode cX7_count 96 = .ok (.getfield 58, 3) := by decide +kernel
theorem dX7_count_99 : decode cX7_count 99 = .ok (.ireturn, 1) := by decide +kernel
theorem dX7_trace_0 : decode cX7_trace 0 = .ok (.aload_n 0, 1) := by decide +kernel
theorem dX7_trace_1 : decode cX7_trace 1 = .ok (.getfield 163, 3) := by decide +kernel
theorem dX7_trace_4 : decode cX7_trace 4 = .ok (.lreturn, 1) := by decide +kernel
theorem dJ9_max_7cf53_0 : decode cJ9_max_7cf53 0 = .ok (.iload_n 0, 1) := by decide +kernel
theorem dJ9_max_7cf53_1 : decode cJ9_max_7cf53 1 = .ok (.iload_n 1, 1) := by decide +kernel
theorem dJ9_max_7cf53_2 : decode cJ9_max_7cf53 2 = .ok (.if_icmp .lt 7, 3) := by decide +kernel
theorem dJ9_max_7cf53_5 : decode cJ9_max_7cf53 5 = .ok (.iload_n 0, 1) := by decide +kernel
theorem dJ9_max_7cf53_6 : decode cJ9_max_7cf53 6 = .ok (.goto 4, 3) := by decide +kernel
theorem dJ9_max_7cf53_9 : decode cJ9_max_7cf53 9 = .ok (.iload_n 1, 1) := by decide +kernel
theorem dJ9_max_7cf53_10 : decode cJ9_max_7cf53 10 = .ok (.ireturn, 1) := by decide +kernel
theorem dJ9_min_7cf53_0 : decode cJ9_min_7cf53 0 = .ok (.iload_n 0, 1) := by decide +kernel
theorem dJ9_min_7cf53_1 : decode cJ9_min_7cf53 1 = .ok (.iload_n 1, 1) := by decide +kernel
theorem dJ9_min_7cf53_2 : decode cJ9_min_7cf53 2 = .ok (.if_icmp .gt 7, 3) := by decide +kernel
theorem dJ9_min_7cf53_5 : decode cJ9_min_7cf53 5 = .ok (.iload_n 0, 1) := by decide +kernel
theorem dJ9_min_7cf53_6 : decode cJ9_min_7cf53 6 = .ok (.goto 4, 3) := by decide +kernel
theorem dJ9_min_7cf53_9 : decode cJ9_min_7cf53 9 = .ok (.iload_n 1, 1) := by decide +kernel
theorem dJ9_min_7cf53_10 : decode cJ9_min_7cf53 10 = .ok (.ireturn, 1) := by decide +kernel
theorem dJ0_length_8abf5_0 : decode cJ0_length_8abf5 0 = .ok (.aload_n 0, 1) := by decide +kernel
theorem dJ0_length_8abf5_1 : decode cJ0_length_8abf5 1 = .ok (.getfield 9, 3) := by decide +kernel
theorem dJ0_length_8abf5_4 : decode cJ0_length_8abf5 4 = .ok (.arraylength, 1) := by decide +kernel
theorem dJ0_length_8abf5_5 : decode cJ0_length_8abf5 5 = .ok (.aload_n 0, 1) := by decide +kernel
theorem dJ0_length_8abf5_6 : decode cJ0_length_8abf5 6 = .ok (.invokevirtual 335, 3) := by decide +kernel
theorem dJ0_length_8abf5_9 : decode cJ0_length_8abf5 9 = .ok (.ishr, 1) := by decide +kernel
theorem dJ0_length_8abf5_10 : decode cJ0_length_8abf5 10 = .ok (.ireturn, 1) := by decide +kernel
theorem dJ0_charAt_5068e_0 : decode cJ0_charAt_5068e 0 = .ok (.aload_n 0, 1) := by decide +kernel
theorem dJ0_charAt_5068e_1 : decode cJ0_charAt_5068e 1 = .ok (.invokevirtual 492, 3) := by decide +kernel
theorem dJ0_charAt_5068e_4 : decode cJ0_charAt_5068e 4 = .ok (.ifCond .eq 12, 3) := by decide +kernel
theorem dJ0_charAt_5068e_7 : decode cJ0_charAt_5068e 7 = .ok (.aload_n 0, 1) := by decide +kernel
theorem dJ0_charAt_5068e_8 : decode cJ0_charAt_5068e 8 = .ok (.getfield 9, 3) := by decide +kernel
theorem dJ0_charAt_5068e_11 : decode cJ0_charAt_5068e 11 = .ok (.iload_n 1, 1) := by decide +kernel
theorem dJ0_charAt_5068e_12 : decode cJ0_charAt_5068e 12 = .ok (.invokestatic 495, 3) := by decide +kernel
theorem dJ0_charAt_5068e_15 : decode cJ0_charAt_5068e 15 = .ok (.ireturn, 1) := by decide +kernel
theorem dJ0_charAt_5068e_16 : decode cJ0_charAt_5068e 16 = .ok (.aload_n 0, 1) := by decide +kernel
theorem dJ0_charAt_5068e_17 : decode cJ0_charAt_5068e 17 = .ok (.getfield 9, 3) := by decide +kernel
theorem dJ0_charAt_5068e_20 : decode cJ0_charAt_5068e 20 = .ok (.iload_n 1, 1) := by decide +kernel
theorem dJ0_charAt_5068e_21 : decode cJ0_charAt_5068e 21 = .ok (.invokestatic 498, 3) := by decide +kernel
theorem dJ0_charAt_5068e_24 : decode cJ0_charAt_5068e 24 = .ok (.ireturn, 1) := by decide +kernel
theorem dJ0_coder_7d493_0 : decode cJ0_coder_7d493 0 = .ok (.getstatic 38, 3) := by decide +kernel
theorem dJ0_coder_7d493_3 : decode cJ0_coder_7d493 3 = .ok (.ifCond .eq 10, 3) := by decide +kernel
theorem dJ0_coder_7d493_6 : decode cJ0_coder_7d493 6 = .ok (.aload_n 0, 1) := by decide +kernel
theorem dJ0_coder_7d493_7 : decode cJ0_coder_7d493 7 = .ok (.getfield 15, 3) := by decide +kernel
theorem dJ0_coder_7d493_10 : decode cJ0_coder_7d493 10 = .ok (.goto 4, 3) := by decide +kernel
theorem dJ0_coder_7d493_13 : decode cJ0_coder_7d493 13 = .ok (.iconst 1, 1) := by decide +kernel
theorem dJ0_coder_7d493_14 : decode cJ0_coder_7d493 14 = .ok (.ireturn, 1) := by decide +kernel
theorem dJ0_isLatin1_aae02_0 : decode cJ0_isLatin1_aae02 0 = .ok (.getstatic 38, 3) := by decide +kernel
theorem dJ0_isLatin1_aae02_3 : decode cJ0_isLatin1_aae02 3 = .ok (.ifCond .eq 14, 3) := by decide +kernel
theorem dJ0_isLatin1_aae02_6 : decode cJ0_isLatin1_aae02 6 = .ok (.aload_n 0, 1) := by decide +kernel
theorem dJ0_isLatin1_aae02_7 : decode cJ0_isLatin1_aae02 7 = .ok (.getfield 15, 3) := by decide +kernel
theorem dJ0_isLatin1_aae02_10 : decode cJ0_isLatin1_aae02 10 = .ok (.ifCond .ne 7, 3) := by decide +kernel
theorem dJ0_isLatin1_aae02_13 : decode cJ0_isLatin1_aae02 13 = .ok (.iconst 1, 1) := by decide +kernel
theorem dJ0_isLatin1_aae02_14 : decode cJ0_isLatin1_aae02 14 = .ok (.goto 4, 3) := by decide +kernel
theorem dJ0_isLatin1_aae02_17 : decode cJ0_isLatin1_aae02 17 = .ok (.iconst 0, 1) := by decide +kernel
theorem dJ0_isLatin1_aae02_18 : decode cJ0_isLatin1_aae02 18 = .ok (.ireturn, 1) := by decide +kernel
theorem dJ0_checkIndex_df160_0 : decode cJ0_checkIndex_df160 0 = .ok (.iload_n 0, 1) := by decide +kernel
theorem dJ0_checkIndex_df160_1 : decode cJ0_checkIndex_df160 1 = .ok (.iload_n 1, 1) := by decide +kernel
theorem dJ0_checkIndex_df160_2 : decode cJ0_checkIndex_df160 2 = .ok (.getstatic 1053, 3) := by decide +kernel
theorem dJ0_checkIndex_df160_5 : decode cJ0_checkIndex_df160 5 = .ok (.invokestatic 1059, 3) := by decide +kernel
theorem dJ0_checkIndex_df160_8 : decode cJ0_checkIndex_df160 8 = .ok (.pop, 1) := by decide +kernel
theorem dJ0_checkIndex_df160_9 : decode cJ0_checkIndex_df160 9 = .ok (.return_, 1) := by decide +kernel
theorem dJ1_charAt_3b067_0 : decode cJ1_charAt_3b067 0 = .ok (.iload_n 1, 1) := by decide +kernel
theorem dJ1_charAt_3b067_1 : decode cJ1_charAt_3b067 1 = .ok (.aload_n 0, 1) := by decide +kernel
theorem dJ1_charAt_3b067_2 : decode cJ1_charAt_3b067 2 = .ok (.arraylength, 1) := by decide +kernel
theorem dJ1_charAt_3b067_3 : decode cJ1_charAt_3b067 3 = .ok (.invokestatic 9, 3) := by decide +kernel
theorem dJ1_charAt_3b067_6 : decode cJ1_charAt_3b067 6 = .ok (.aload_n 0, 1) := by decide +kernel
theorem dJ1_charAt_3b067_7 : decode cJ1_charAt_3b067 7 = .ok (.iload_n 1, 1) := by decide +kernel
theorem dJ1_charAt_3b067_8 : decode cJ1_charAt_3b067 8 = .ok (.baload, 1) := by decide +kernel
theorem dJ1_charAt_3b067_9 : decode cJ1_charAt_3b067 9 = .ok (.sipush 255, 3) := by decide +kernel
theorem dJ1_charAt_3b067_12 : decode cJ1_charAt_3b067 12 = .ok (.iand, 1) := by decide +kernel
theorem dJ1_charAt_3b067_13 : decode cJ1_charAt_3b067 13 = .ok (.i2c, 1) := by decide +kernel
theorem dJ1_charAt_3b067_14 : decode cJ1_charAt_3b067 14 = .ok (.ireturn, 1) := by decide +kernel
theorem dJ2_getChar_3b067_0 : decode cJ2_getChar_3b067 0 = .ok (.getstatic 44, 3) := by decide +kernel
theorem dJ2_getChar_3b067_3 : decode cJ2_getChar_3b067 3 = .ok (.ifCond .ne 25, 3) := by decide +kernel
theorem dJ2_getChar_3b067_6 : decode cJ2_getChar_3b067 6 = .ok (.iload_n 1, 1) := by decide +kernel
theorem dJ2_getChar_3b067_7 : decode cJ2_getChar_3b067 7 = .ok (.ifCond .lt 11, 3) := by decide +kernel
theorem dJ2_getChar_3b067_10 : decode cJ2_getChar_3b067 10 = .ok (.iload_n 1, 1) := by decide +kernel
theorem dJ2_getChar_3b067_11 : decode cJ2_getChar_3b067 11 = .ok (.aload_n 0, 1) := by decide +kernel
theorem dJ2_getChar_3b067_12 : decode cJ2_getChar_3b067 12 = .ok (.invokestatic 48, 3) := by decide +kernel
theorem dJ2_getChar_3b067_15 : decode cJ2_getChar_3b067 15 = .ok (.if_icmp .lt 13, 3) := by decide +kernel
theorem dJ2_getChar_3b067_18 : decode cJ2_getChar_3b067 18 = .ok (.new 52, 3) := by decide +kernel
theorem dJ2_getChar_3b067_21 : decode cJ2_getChar_3b067 21 = .ok (.dup, 1) := by decide +kernel
theorem dJ2_getChar_3b067_22 : decode cJ2_getChar_3b067 22 = .ok (.ldc 54, 2) := by decide +kernel
theorem dJ2_getChar_3b067_24 : decode cJ2_getChar_3b067 24 = .ok (.invokespecial 56, 3) := by decide +kernel
theorem dJ2_getChar_3b067_27 : decode cJ2_getChar_3b067 27 = .ok (.athrow, 1) := by decide +kernel
theorem dJ2_getChar_3b067_28 : decode cJ2_getChar_3b067 28 = .ok (.iload_n 1, 1) := by decide +kernel
theorem dJ2_getChar_3b067_29 : decode cJ2_getChar_3b067 29 = .ok (.iconst 1, 1) := by decide +kernel
theorem dJ2_getChar_3b067_30 : decode cJ2_getChar_3b067 30 = .ok (.ishl, 1) := by decide +kernel
theorem dJ2_getChar_3b067_31 : decode cJ2_getChar_3b067 31 = .ok (.istore_n 1, 1) := by decide +kernel
theorem dJ2_getChar_3b067_32 : decode cJ2_getChar_3b067 32 = .ok (.aload_n 0, 1) := by decide +kernel
theorem dJ2_getChar_3b067_33 : decode cJ2_getChar_3b067 33 = .ok (.iload_n 1, 1) := by decide +kernel
theorem dJ2_getChar_3b067_34 : decode cJ2_getChar_3b067 34 = .ok (.iinc 1 1, 3) := by decide +kernel
theorem dJ2_getChar_3b067_37 : decode cJ2_getChar_3b067 37 = .ok (.baload, 1) := by decide +kernel
theorem dJ2_getChar_3b067_38 : decode cJ2_getChar_3b067 38 = .ok (.sipush 255, 3) := by decide +kernel
theorem dJ2_getChar_3b067_41 : decode cJ2_getChar_3b067 41 = .ok (.iand, 1) := by decide +kernel
theorem dJ2_getChar_3b067_42 : decode cJ2_getChar_3b067 42 = .ok (.getstatic 59, 3) := by decide +kernel
theorem dJ2_getChar_3b067_45 : decode cJ2_getChar_3b067 45 = .ok (.ishl, 1) := by decide +kernel
theorem dJ2_getChar_3b067_46 : decode cJ2_getChar_3b067 46 = .ok (.aload_n 0, 1) := by decide +kernel
theorem dJ2_getChar_3b067_47 : decode cJ2_getChar_3b067 47 = .ok (.iload_n 1, 1) := by decide +kernel
theorem dJ2_getChar_3b067_48 : decode cJ2_getChar_3b067 48 = .ok (.baload, 1) := by decide +kernel
theorem dJ2_getChar_3b067_49 : decode cJ2_getChar_3b067 49 = .ok (.sipush 255, 3) := by decide +kernel
theorem dJ2_getChar_3b067_52 : decode cJ2_getChar_3b067 52 = .ok (.iand, 1) := by decide +kernel
theorem dJ2_getChar_3b067_53 : decode cJ2_getChar_3b067 53 = .ok (.getstatic 63, 3) := by decide +kernel
theorem dJ2_getChar_3b067_56 : decode cJ2_getChar_3b067 56 = .ok (.ishl, 1) := by decide +kernel
theorem dJ2_getChar_3b067_57 : decode cJ2_getChar_3b067 57 = .ok (.ior, 1) := by decide +kernel
theorem dJ2_getChar_3b067_58 : decode cJ2_getChar_3b067 58 = .ok (.i2c, 1) := by decide +kernel
theorem dJ2_getChar_3b067_59 : decode cJ2_getChar_3b067 59 = .ok (.ireturn, 1) := by decide +kernel
theorem dJ2_length_9d52b_0 : decode cJ2_length_9d52b 0 = .ok (.aload_n 0, 1) := by decide +kernel
theorem dJ2_length_9d52b_1 : decode cJ2_length_9d52b 1 = .ok (.arraylength, 1) := by decide +kernel
theorem dJ2_length_9d52b_2 : decode cJ2_length_9d52b 2 = .ok (.iconst 1, 1) := by decide +kernel
theorem dJ2_length_9d52b_3 : decode cJ2_length_9d52b 3 = .ok (.ishr, 1) := by decide +kernel
theorem dJ2_length_9d52b_4 : decode cJ2_length_9d52b 4 = .ok (.ireturn, 1) := by decide +kernel
theorem dJ2_charAt_3b067_0 : decode cJ2_charAt_3b067 0 = .ok (.iload_n 1, 1) := by decide +kernel
theorem dJ2_charAt_3b067_1 : decode cJ2_charAt_3b067 1 = .ok (.aload_n 0, 1) := by decide +kernel
theorem dJ2_charAt_3b067_2 : decode cJ2_charAt_3b067 2 = .ok (.invokestatic 67, 3) := by decide +kernel
theorem dJ2_charAt_3b067_5 : decode cJ2_charAt_3b067 5 = .ok (.aload_n 0, 1) := by decide +kernel
theorem dJ2_charAt_3b067_6 : decode cJ2_charAt_3b067 6 = .ok (.iload_n 1, 1) := by decide +kernel
theorem dJ2_charAt_3b067_7 : decode cJ2_charAt_3b067 7 = .ok (.invokestatic 71, 3) := by decide +kernel
theorem dJ2_charAt_3b067_10 : decode cJ2_charAt_3b067 10 = .ok (.ireturn, 1) := by decide +kernel
theorem dJ2_checkIndex_2214a_0 : decode cJ2_checkIndex_2214a 0 = .ok (.iload_n 0, 1) := by decide +kernel
theorem dJ2_checkIndex_2214a_1 : decode cJ2_checkIndex_2214a 1 = .ok (.aload_n 1, 1) := by decide +kernel
theorem dJ2_checkIndex_2214a_2 : decode cJ2_checkIndex_2214a 2 = .ok (.invokestatic 48, 3) := by decide +kernel
theorem dJ2_checkIndex_2214a_5 : decode cJ2_checkIndex_2214a 5 = .ok (.invokestatic 414, 3) := by decide +kernel
theorem dJ2_checkIndex_2214a_8 : decode cJ2_checkIndex_2214a 8 = .ok (.return_, 1) := by decide +kernel
theorem dJ7_fill_53178_0 : decode cJ7_fill_53178 0 = .ok (.iconst 0, 1) := by decide +kernel
theorem dJ7_fill_53178_1 : decode cJ7_fill_53178 1 = .ok (.istore_n 2, 1) := by decide +kernel
theorem dJ7_fill_53178_2 : decode cJ7_fill_53178 2 = .ok (.aload_n 0, 1) := by decide +kernel
theorem dJ7_fill_53178_3 : decode cJ7_fill_53178 3 = .ok (.arraylength, 1) := by decide +kernel
theorem dJ7_fill_53178_4 : decode cJ7_fill_53178 4 = .ok (.istore_n 3, 1) := by decide +kernel
theorem dJ7_fill_53178_5 : decode cJ7_fill_53178 5 = .ok (.iload_n 2, 1) := by decide +kernel
theorem dJ7_fill_53178_6 : decode cJ7_fill_53178 6 = .ok (.iload_n 3, 1) := by decide +kernel
theorem dJ7_fill_53178_7 : decode cJ7_fill_53178 7 = .ok (.if_icmp .ge 13, 3) := by decide +kernel
theorem dJ7_fill_53178_10 : decode cJ7_fill_53178 10 = .ok (.aload_n 0, 1) := by decide +kernel
theorem dJ7_fill_53178_11 : decode cJ7_fill_53178 11 = .ok (.iload_n 2, 1) := by decide +kernel
theorem dJ7_fill_53178_12 : decode cJ7_fill_53178 12 = .ok (.iload_n 1, 1) := by decide +kernel
theorem dJ7_fill_53178_13 : decode cJ7_fill_53178 13 = .ok (.iastore, 1) := by decide +kernel
theorem dJ7_fill_53178_14 : decode cJ7_fill_53178 14 = .ok (.iinc 2 1, 3) := by decide +kernel
theorem dJ7_fill_53178_17 : decode cJ7_fill_53178 17 = .ok (.goto (-12), 3) := by decide +kernel
theorem dJ7_fill_53178_20 : decode cJ7_fill_53178 20 = .ok (.return_, 1) := by decide +kernel
theorem dJ3_checkIndex_8e157_0 : decode cJ3_checkIndex_8e157 0 = .ok (.iload_n 0, 1) := by decide +kernel
theorem dJ3_checkIndex_8e157_1 : decode cJ3_checkIndex_8e157 1 = .ok (.ifCond .lt 8, 3) := by decide +kernel
theorem dJ3_checkIndex_8e157_4 : decode cJ3_checkIndex_8e157 4 = .ok (.iload_n 0, 1) := by decide +kernel
theorem dJ3_checkIndex_8e157_5 : decode cJ3_checkIndex_8e157 5 = .ok (.iload_n 1, 1) := by decide +kernel
theorem dJ3_checkIndex_8e157_6 : decode cJ3_checkIndex_8e157 6 = .ok (.if_icmp .lt 10, 3) := by decide +kernel
theorem dJ3_checkIndex_8e157_9 : decode cJ3_checkIndex_8e157 9 = .ok (.aload_n 2, 1) := by decide +kernel
theorem dJ3_checkIndex_8e157_10 : decode cJ3_checkIndex_8e157 10 = .ok (.iload_n 0, 1) := by decide +kernel
theorem dJ3_checkIndex_8e157_11 : decode cJ3_checkIndex_8e157 11 = .ok (.iload_n 1, 1) := by decide +kernel
theorem dJ3_checkIndex_8e157_12 : decode cJ3_checkIndex_8e157 12 = .ok (.invokestatic 95, 3) := by decide +kernel
theorem dJ3_checkIndex_8e157_15 : decode cJ3_checkIndex_8e157 15 = .ok (.athrow, 1) := by decide +kernel
theorem dJ3_checkIndex_8e157_16 : decode cJ3_checkIndex_8e157 16 = .ok (.iload_n 0, 1) := by decide +kernel
theorem dJ3_checkIndex_8e157_17 : decode cJ3_checkIndex_8e157 17 = .ok (.ireturn, 1) := by decide +kernel
theorem dL_law_0 : decode cL_law 0 = .ok (.new 7, 3) := by decide +kernel
theorem dL_law_3 : decode cL_law 3 = .ok (.dup, 1) := by decide +kernel
theorem dL_law_4 : decode cL_law 4 = .ok (.invokespecial 9, 3) := by decide +kernel
theorem dL_law_7 : decode cL_law 7 = .ok (.astore_n 1, 1) := by decide +kernel
theorem dL_law_8 : decode cL_law 8 = .ok (.new 10, 3) := by decide +kernel
theorem dL_law_11 : decode cL_law 11 = .ok (.dup, 1) := by decide +kernel
theorem dL_law_12 : decode cL_law 12 = .ok (.invokespecial 12, 3) := by decide +kernel
theorem dL_law_15 : decode cL_law 15 = .ok (.astore_n 2, 1) := by decide +kernel
theorem dL_law_16 : decode cL_law 16 = .ok (.iconst 0, 1) := by decide +kernel
theorem dL_law_17 : decode cL_law 17 = .ok (.istore_n 3, 1) := by decide +kernel
theorem dL_law_18 : decode cL_law 18 = .ok (.iload_n 3, 1) := by decide +kernel
theorem dL_law_19 : decode cL_law 19 = .ok (.aload_n 0, 1) := by decide +kernel
theorem dL_law_20 : decode cL_law 20 = .ok (.arraylength, 1) := by decide +kernel
theorem dL_law_21 : decode cL_law 21 = .ok (.iconst 5, 1) := by decide +kernel
theorem dL_law_22 : decode cL_law 22 = .ok (.isub, 1) := by decide +kernel
theorem dL_law_23 : decode cL_law 23 = .ok (.if_icmp .gt 854, 3) := by decide +kernel
theorem dL_law_26 : decode cL_law 26 = .ok (.aload_n 0, 1) := by decide +kernel
theorem dL_law_27 : decode cL_law 27 = .ok (.iload_n 3, 1) := by decide +kernel
theorem dL_law_28 : decode cL_law 28 = .ok (.iaload, 1) := by decide +kernel
theorem dL_law_29 : decode cL_law 29 = .ok (.bipush 31, 2) := by decide +kernel
theorem dL_law_31 : decode cL_law 31 = .ok (.iand, 1) := by decide +kernel
theorem dL_law_32 : decode cL_law 32 = .ok (.tableswitch 839 0 25 #[120, 183, 196, 209, 232, 255, 278, 311, 364, 377, 410, 443, 476, 499, 522, 535, 558, 601, 644, 687, 710, 723, 756, 779, 802, 825], 120) := by decide +kernel
theorem dL_law_152 : decode cL_law 152 = .ok (.aload_n 1, 1) := by decide +kernel
theorem dL_law_153 : decode cL_law 153 = .ok (.aload_n 0, 1) := by decide +kernel
theorem dL_law_154 : decode cL_law 154 = .ok (.iload_n 3, 1) := by decide +kernel
theorem dL_law_155 : decode cL_law 155 = .ok (.iconst 1, 1) := by decide +kernel
theorem dL_law_156 : decode cL_law 156 = .ok (.iadd, 1) := by decide +kernel
theorem dL_law_157 : decode cL_law 157 = .ok (.iaload, 1) := by decide +kernel
theorem dL_law_158 : decode cL_law 158 = .ok (.i2l, 1) := by decide +kernel
theorem dL_law_159 : decode cL_law 159 = .ok (.bipush 32, 2) := by decide +kernel
theorem dL_law_161 : decode cL_law 161 = .ok (.lshl, 1) := by decide +kernel
theorem dL_law_162 : decode cL_law 162 = .ok (.aload_n 0, 1) := by decide +kernel
theorem dL_law_163 : decode cL_law 163 = .ok (.iload_n 3, 1) := by decide +kernel
theorem dL_law_164 : decode cL_law 164 = .ok (.iconst 2, 1) := by decide +kernel
theorem dL_law_165 : decode cL_law 165 = .ok (.iadd, 1) := by decide +kernel
theorem dL_law_166 : decode cL_law 166 = .ok (.iaload, 1) := by decide +kernel
theorem dL_law_167 : decode cL_law 167 = .ok (.i2l, 1) := by decide +kernel
theorem dL_law_168 : decode cL_law 168 = .ok (.ldc2_w 13, 3) := by decide +kernel
theorem dL_law_171 : decode cL_law 171 = .ok (.land, 1) := by decide +kernel
theorem dL_law_172 : decode cL_law 172 = .ok (.lor, 1) := by decide +kernel
theorem dL_law_173 : decode cL_law 173 = .ok (.aload_n 0, 1) := by decide +kernel
theorem dL_law_174 : decode cL_law 174 = .ok (.iload_n 3, 1) := by decide +kernel
theorem dL_law_175 : decode cL_law 175 = .ok (.iconst 3, 1) := by decide +kernel
theorem dL_law_176 : decode cL_law 176 = .ok (.iadd, 1) := by decide +kernel
theorem dL_law_177 : decode cL_law 177 = .ok (.iaload, 1) := by decide +kernel
theorem dL_law_178 : decode cL_law 178 = .ok (.invokevirtual 15, 3) := by decide +kernel
theorem dL_law_181 : decode cL_law 181 = .ok (.aload_n 2, 1) := by decide +kernel
theorem dL_law_182 : decode cL_law 182 = .ok (.aload_n 0, 1) := by decide +kernel
theorem dL_law_183 : decode cL_law 183 = .ok (.iload_n 3, 1) := by decide +kernel
theorem dL_law_184 : decode cL_law 184 = .ok (.iconst 1, 1) := by decide +kernel
theorem dL_law_185 : decode cL_law 185 = .ok (.iadd, 1) := by decide +kernel
theorem dL_law_186 : decode cL_law 186 = .ok (.iaload, 1) := by decide +kernel
theorem dL_law_187 : decode cL_law 187 = .ok (.i2l, 1) := by decide +kernel
theorem dL_law_188 : decode cL_law 188 = .ok (.bipush 32, 2) := by decide +kernel
theorem dL_law_190 : decode cL_law 190 = .ok (.lshl, 1) := by decide +kernel
theorem dL_law_191 : decode cL_law 191 = .ok (.aload_n 0, 1) := by decide +kernel
theorem dL_law_192 : decode cL_law 192 = .ok (.iload_n 3, 1) := by decide +kernel
theorem dL_law_193 : decode cL_law 193 = .ok (.iconst 2, 1) := by decide +kernel
theorem dL_law_194 : decode cL_law 194 = .ok (.iadd, 1) := by decide +kernel
theorem dL_law_195 : decode cL_law 195 = .ok (.iaload, 1) := by decide +kernel
theorem dL_law_196 : decode cL_law 196 = .ok (.i2l, 1) := by decide +kernel
theorem dL_law_197 : decode cL_law 197 = .ok (.ldc2_w 13, 3) := by decide +kernel
theorem dL_law_200 : decode cL_law 200 = .ok (.land, 1) := by decide +kernel
theorem dL_law_201 : decode cL_law 201 = .ok (.lor, 1) := by decide +kernel
theorem dL_law_202 : decode cL_law 202 = .ok (.aload_n 0, 1) := by decide +kernel
theorem dL_law_203 : decode cL_law 203 = .ok (.iload_n 3, 1) := by decide +kernel
theorem dL_law_204 : decode cL_law 204 = .ok (.iconst 3, 1) := by decide +kernel
theorem dL_law_205 : decode cL_law 205 = .ok (.iadd, 1) := by decide +kernel
theorem dL_law_206 : decode cL_law 206 = .ok (.iaload, 1) := by decide +kernel
theorem dL_law_207 : decode cL_law 207 = .ok (.invokevirtual 19, 3) := by decide +kernel
theorem dL_law_210 : decode cL_law 210 = .ok (.if_icmp .eq 661, 3) := by decide +kernel
theorem dL_law_213 : decode cL_law 213 = .ok (.iconst 0, 1) := by decide +kernel
theorem dL_law_214 : decode cL_law 214 = .ok (.ireturn, 1) := by decide +kernel
theorem dL_law_215 : decode cL_law 215 = .ok (.aload_n 1, 1) := by decide +kernel
theorem dL_law_216 : decode cL_law 216 = .ok (.invokevirtual 20, 3) := by decide +kernel
theorem dL_law_219 : decode cL_law 219 = .ok (.aload_n 2, 1) := by decide +kernel
theorem dL_law_220 : decode cL_law 220 = .ok (.invokevirtual 24, 3) := by decide +kernel
theorem dL_law_223 : decode cL_law 223 = .ok (.if_icmp .eq 648, 3) := by decide +kernel
theorem dL_law_226 : decode cL_law 226 = .ok (.iconst 0, 1) := by decide +kernel
theorem dL_law_227 : decode cL_law 227 = .ok (.ireturn, 1) := by decide +kernel
theorem dL_law_228 : decode cL_law 228 = .ok (.aload_n 1, 1) := by decide +kernel
theorem dL_law_229 : decode cL_law 229 = .ok (.invokevirtual 25, 3) := by decide +kernel
theorem dL_law_232 : decode cL_law 232 = .ok (.aload_n 2, 1) := by decide +kernel
theorem dL_law_233 : decode cL_law 233 = .ok (.invokevirtual 28, 3) := by decide +kernel
theorem dL_law_236 : decode cL_law 236 = .ok (.if_icmp .eq 635, 3) := by decide +kernel
theorem dL_law_239 : decode cL_law 239 = .ok (.iconst 0, 1) := by decide +kernel
theorem dL_law_240 : decode cL_law 240 = .ok (.ireturn, 1) := by decide +kernel
theorem dL_law_241 : decode cL_law 241 = .ok (.aload_n 1, 1) := by decide +kernel
theorem dL_law_242 : decode cL_law 242 = .ok (.aload_n 0, 1) := by decide +kernel
theorem dL_law_243 : decode cL_law 243 = .ok (.iload_n 3, 1) := by decide +kernel
theorem dL_law_244 : decode cL_law 244 = .ok (.iconst 1, 1) := by decide +kernel
theorem dL_law_245 : decode cL_law 245 = .ok (.iadd, 1) := by decide +kernel
theorem dL_law_246 : decode cL_law 246 = .ok (.iaload, 1) := by decide +kernel
theorem dL_law_247 : decode cL_law 247 = .ok (.invokevirtual 29, 3) := by decide +kernel
theorem dL_law_250 : decode cL_law 250 = .ok (.aload_n 2, 1) := by decide +kernel
theorem dL_law_251 : decode cL_law 251 = .ok (.aload_n 0, 1) := by decide +kernel
theorem dL_law_252 : decode cL_law 252 = .ok (.iload_n 3, 1) := by decide +kernel
theorem dL_law_253 : decode cL_law 253 = .ok (.iconst 1, 1) := by decide +kernel
theorem dL_law_254 : decode cL_law 254 = .ok (.iadd, 1) := by decide +kernel
theorem dL_law_255 : decode cL_law 255 = .ok (.iaload, 1) := by decide +kernel
theorem dL_law_256 : decode cL_law 256 = .ok (.invokevirtual 33, 3) := by decide +kernel
theorem dL_law_259 : decode cL_law 259 = .ok (.if_icmp .eq 612, 3) := by decide +kernel
theorem dL_law_262 : decode cL_law 262 = .ok (.iconst 0, 1) := by decide +kernel
theorem dL_law_263 : decode cL_law 263 = .ok (.ireturn, 1) := by decide +kernel
theorem dL_law_264 : decode cL_law 264 = .ok (.aload_n 1, 1) := by decide +kernel
theorem dL_law_265 : decode cL_law 265 = .ok (.aload_n 0, 1) := by decide +kernel
theorem dL_law_266 : decode cL_law 266 = .ok (.iload_n 3, 1) := by decide +kernel
theorem dL_law_267 : decode cL_law 267 = .ok (.iconst 1, 1) := by decide +kernel
theorem dL_law_268 : decode cL_law 268 = .ok (.iadd, 1) := by decide +kernel
theorem dL_law_269 : decode cL_law 269 = .ok (.iaload, 1) := by decide +kernel
theorem dL_law_270 : decode cL_law 270 = .ok (.invokevirtual 34, 3) := by decide +kernel
theorem dL_law_273 : decode cL_law 273 = .ok (.aload_n 2, 1) := by decide +kernel
theorem dL_law_274 : decode cL_law 274 = .ok (.aload_n 0, 1) := by decide +kernel
theorem dL_law_275 : decode cL_law 275 = .ok (.iload_n 3, 1) := by decide +kernel
theorem dL_law_276 : decode cL_law 276 = .ok (.iconst 1, 1) := by decide +kernel
theorem dL_law_277 : decode cL_law 277 = .ok (.iadd, 1) := by decide +kernel
theorem dL_law_278 : decode cL_law 278 = .ok (.iaload, 1) := by decide +kernel
theorem dL_law_279 : decode cL_law 279 = .ok (.invokevirtual 37, 3) := by decide +kernel
theorem dL_law_282 : decode cL_law 282 = .ok (.if_icmp .eq 589, 3) := by decide +kernel
theorem dL_law_285 : decode cL_law 285 = .ok (.iconst 0, 1) := by decide +kernel
theorem dL_law_286 : decode cL_law 286 = .ok (.ireturn, 1) := by decide +kernel
theorem dL_law_287 : decode cL_law 287 = .ok (.aload_n 1, 1) := by decide +kernel
theorem dL_law_288 : decode cL_law 288 = .ok (.aload_n 0, 1) := by decide +kernel
theorem dL_law_289 : decode cL_law 289 = .ok (.iload_n 3, 1) := by decide +kernel
theorem dL_law_290 : decode cL_law 290 = .ok (.iconst 1, 1) := by decide +kernel
theorem dL_law_291 : decode cL_law 291 = .ok (.iadd, 1) := by decide +kernel
theorem dL_law_292 : decode cL_law 292 = .ok (.iaload, 1) := by decide +kernel
theorem dL_law_293 : decode cL_law 293 = .ok (.invokevirtual 38, 3) := by decide +kernel
theorem dL_law_296 : decode cL_law 296 = .ok (.aload_n 2, 1) := by decide +kernel
theorem dL_law_297 : decode cL_law 297 = .ok (.aload_n 0, 1) := by decide +kernel
theorem dL_law_298 : decode cL_law 298 = .ok (.iload_n 3, 1) := by decide +kernel
theorem dL_law_299 : decode cL_law 299 = .ok (.iconst 1, 1) := by decide +kernel
theorem dL_law_300 : decode cL_law 300 = .ok (.iadd, 1) := by decide +kernel
theorem dL_law_301 : decode cL_law 301 = .ok (.iaload, 1) := by decide +kernel
theorem dL_law_302 : decode cL_law 302 = .ok (.invokevirtual 41, 3) := by decide +kernel
theorem dL_law_305 : decode cL_law 305 = .ok (.if_icmp .eq 566, 3) := by decide +kernel
theorem dL_law_308 : decode cL_law 308 = .ok (.iconst 0, 1) := by decide +kernel
theorem dL_law_309 : decode cL_law 309 = .ok (.ireturn, 1) := by decide +kernel
theorem dL_law_310 : decode cL_law 310 = .ok (.aload_n 1, 1) := by decide +kernel
theorem dL_law_311 : decode cL_law 311 = .ok (.aload_n 0, 1) := by decide +kernel
theorem dL_law_312 : decode cL_law 312 = .ok (.iload_n 3, 1) := by decide +kernel
theorem dL_law_313 : decode cL_law 313 = .ok (.iconst 1, 1) := by decide +kernel
theorem dL_law_314 : decode cL_law 314 = .ok (.iadd, 1) := by decide +kernel
theorem dL_law_315 : decode cL_law 315 = .ok (.iaload, 1) := by decide +kernel
theorem dL_law_316 : decode cL_law 316 = .ok (.aload_n 0, 1) := by decide +kernel
theorem dL_law_317 : decode cL_law 317 = .ok (.iload_n 3, 1) := by decide +kernel
theorem dL_law_318 : decode cL_law 318 = .ok (.iconst 2, 1) := by decide +kernel
theorem dL_law_319 : decode cL_law 319 = .ok (.iadd, 1) := by decide +kernel
theorem dL_law_320 : decode cL_law 320 = .ok (.iaload, 1) := by decide +kernel
theorem dL_law_321 : decode cL_law 321 = .ok (.invokevirtual 42, 3) := by decide +kernel
theorem dL_law_324 : decode cL_law 324 = .ok (.aload_n 2, 1) := by decide +kernel
theorem dL_law_325 : decode cL_law 325 = .ok (.aload_n 0, 1) := by decide +kernel
theorem dL_law_326 : decode cL_law 326 = .ok (.iload_n 3, 1) := by decide +kernel
theorem dL_law_327 : decode cL_law 327 = .ok (.iconst 1, 1) := by decide +kernel
theorem dL_law_328 : decode cL_law 328 = .ok (.iadd, 1) := by decide +kernel
theorem dL_law_329 : decode cL_law 329 = .ok (.iaload, 1) := by decide +kernel
theorem dL_law_330 : decode cL_law 330 = .ok (.aload_n 0, 1) := by decide +kernel
theorem dL_law_331 : decode cL_law 331 = .ok (.iload_n 3, 1) := by decide +kernel
theorem dL_law_332 : decode cL_law 332 = .ok (.iconst 2, 1) := by decide +kernel
theorem dL_law_333 : decode cL_law 333 = .ok (.iadd, 1) := by decide +kernel
theorem dL_law_334 : decode cL_law 334 = .ok (.iaload, 1) := by decide +kernel
theorem dL_law_335 : decode cL_law 335 = .ok (.invokevirtual 46, 3) := by decide +kernel
theorem dL_law_338 : decode cL_law 338 = .ok (.if_icmp .eq 533, 3) := by decide +kernel
theorem dL_law_341 : decode cL_law 341 = .ok (.iconst 0, 1) := by decide +kernel
theorem dL_law_342 : decode cL_law 342 = .ok (.ireturn, 1) := by decide +kernel
theorem dL_law_343 : decode cL_law 343 = .ok (.aload_n 1, 1) := by decide +kernel
theorem dL_law_344 : decode cL_law 344 = .ok (.aload_n 0, 1) := by decide +kernel
theorem dL_law_345 : decode cL_law 345 = .ok (.iload_n 3, 1) := by decide +kernel
theorem dL_law_346 : decode cL_law 346 = .ok (.iconst 1, 1) := by decide +kernel
theorem dL_law_347 : decode cL_law 347 = .ok (.iadd, 1) := by decide +kernel
theorem dL_law_348 : decode cL_law 348 = .ok (.iaload, 1) := by decide +kernel
theorem dL_law_349 : decode cL_law 349 = .ok (.aload_n 0, 1) := by decide +kernel
theorem dL_law_350 : decode cL_law 350 = .ok (.iload_n 3, 1) := by decide +kernel
theorem dL_law_351 : decode cL_law 351 = .ok (.iconst 2, 1) := by decide +kernel
theorem dL_law_352 : decode cL_law 352 = .ok (.iadd, 1) := by decide +kernel
theorem dL_law_353 : decode cL_law 353 = .ok (.iaload, 1) := by decide +kernel
theorem dL_law_354 : decode cL_law 354 = .ok (.aload_n 0, 1) := by decide +kernel
theorem dL_law_355 : decode cL_law 355 = .ok (.iload_n 3, 1) := by decide +kernel
theorem dL_law_356 : decode cL_law 356 = .ok (.iconst 3, 1) := by decide +kernel
theorem dL_law_357 : decode cL_law 357 = .ok (.iadd, 1) := by decide +kernel
theorem dL_law_358 : decode cL_law 358 = .ok (.iaload, 1) := by decide +kernel
theorem dL_law_359 : decode cL_law 359 = .ok (.aload_n 0, 1) := by decide +kernel
theorem dL_law_360 : decode cL_law 360 = .ok (.iload_n 3, 1) := by decide +kernel
theorem dL_law_361 : decode cL_law 361 = .ok (.iconst 4, 1) := by decide +kernel
theorem dL_law_362 : decode cL_law 362 = .ok (.iadd, 1) := by decide +kernel
theorem dL_law_363 : decode cL_law 363 = .ok (.iaload, 1) := by decide +kernel
theorem dL_law_364 : decode cL_law 364 = .ok (.invokevirtual 47, 3) := by decide +kernel
theorem dL_law_367 : decode cL_law 367 = .ok (.aload_n 2, 1) := by decide +kernel
theorem dL_law_368 : decode cL_law 368 = .ok (.aload_n 0, 1) := by decide +kernel
theorem dL_law_369 : decode cL_law 369 = .ok (.iload_n 3, 1) := by decide +kernel
theorem dL_law_370 : decode cL_law 370 = .ok (.iconst 1, 1) := by decide +kernel
theorem dL_law_371 : decode cL_law 371 = .ok (.iadd, 1) := by decide +kernel
theorem dL_law_372 : decode cL_law 372 = .ok (.iaload, 1) := by decide +kernel
theorem dL_law_373 : decode cL_law 373 = .ok (.aload_n 0, 1) := by decide +kernel
theorem dL_law_374 : decode cL_law 374 = .ok (.iload_n 3, 1) := by decide +kernel
theorem dL_law_375 : decode cL_law 375 = .ok (.iconst 2, 1) := by decide +kernel
theorem dL_law_376 : decode cL_law 376 = .ok (.iadd, 1) := by decide +kernel
theorem dL_law_377 : decode cL_law 377 = .ok (.iaload, 1) := by decide +kernel
theorem dL_law_378 : decode cL_law 378 = .ok (.aload_n 0, 1) := by decide +kernel
theorem dL_law_379 : decode cL_law 379 = .ok (.iload_n 3, 1) := by decide +kernel
theorem dL_law_380 : decode cL_law 380 = .ok (.iconst 3, 1) := by decide +kernel
theorem dL_law_381 : decode cL_law 381 = .ok (.iadd, 1) := by decide +kernel
theorem dL_law_382 : decode cL_law 382 = .ok (.iaload, 1) := by decide +kernel
theorem dL_law_383 : decode cL_law 383 = .ok (.aload_n 0, 1) := by decide +kernel
theorem dL_law_384 : decode cL_law 384 = .ok (.iload_n 3, 1) := by decide +kernel
theorem dL_law_385 : decode cL_law 385 = .ok (.iconst 4, 1) := by decide +kernel
theorem dL_law_386 : decode cL_law 386 = .ok (.iadd, 1) := by decide +kernel
theorem dL_law_387 : decode cL_law 387 = .ok (.iaload, 1) := by decide +kernel
theorem dL_law_388 : decode cL_law 388 = .ok (.invokevirtual 51, 3) := by decide +kernel
theorem dL_law_391 : decode cL_law 391 = .ok (.if_icmp .eq 480, 3) := by decide +kernel
theorem dL_law_394 : decode cL_law 394 = .ok (.iconst 0, 1) := by decide +kernel
theorem dL_law_395 : decode cL_law 395 = .ok (.ireturn, 1) := by decide +kernel
theorem dL_law_396 : decode cL_law 396 = .ok (.aload_n 1, 1) := by decide +kernel
theorem dL_law_397 : decode cL_law 397 = .ok (.invokevirtual 52, 3) := by decide +kernel
theorem dL_law_400 : decode cL_law 400 = .ok (.aload_n 2, 1) := by decide +kernel
theorem dL_law_401 : decode cL_law 401 = .ok (.invokevirtual 55, 3) := by decide +kernel
theorem dL_law_404 : decode cL_law 404 = .ok (.if_icmp .eq 467, 3) := by decide +kernel
theorem dL_law_407 : decode cL_law 407 = .ok (.iconst 0, 1) := by decide +kernel
theorem dL_law_408 : decode cL_law 408 = .ok (.ireturn, 1) := by decide +kernel
theorem dL_law_409 : decode cL_law 409 = .ok (.aload_n 1, 1) := by decide +kernel
theorem dL_law_410 : decode cL_law 410 = .ok (.aload_n 0, 1) := by decide +kernel
theorem dL_law_411 : decode cL_law 411 = .ok (.iload_n 3, 1) := by decide +kernel
theorem dL_law_412 : decode cL_law 412 = .ok (.iconst 1, 1) := by decide +kernel
theorem dL_law_413 : decode cL_law 413 = .ok (.iadd, 1) := by decide +kernel
theorem dL_law_414 : decode cL_law 414 = .ok (.iaload, 1) := by decide +kernel
theorem dL_law_415 : decode cL_law 415 = .ok (.aload_n 0, 1) := by decide +kernel
theorem dL_law_416 : decode cL_law 416 = .ok (.iload_n 3, 1) := by decide +kernel
theorem dL_law_417 : decode cL_law 417 = .ok (.iconst 2, 1) := by decide +kernel
theorem dL_law_418 : decode cL_law 418 = .ok (.iadd, 1) := by decide +kernel
theorem dL_law_419 : decode cL_law 419 = .ok (.iaload, 1) := by decide +kernel
theorem dL_law_420 : decode cL_law 420 = .ok (.invokevirtual 56, 3) := by decide +kernel
theorem dL_law_423 : decode cL_law 423 = .ok (.aload_n 2, 1) := by decide +kernel
theorem dL_law_424 : decode cL_law 424 = .ok (.aload_n 0, 1) := by decide +kernel
theorem dL_law_425 : decode cL_law 425 = .ok (.iload_n 3, 1) := by decide +kernel
theorem dL_law_426 : decode cL_law 426 = .ok (.iconst 1, 1) := by decide +kernel
theorem dL_law_427 : decode cL_law 427 = .ok (.iadd, 1) := by decide +kernel
theorem dL_law_428 : decode cL_law 428 = .ok (.iaload, 1) := by decide +kernel
theorem dL_law_429 : decode cL_law 429 = .ok (.aload_n 0, 1) := by decide +kernel
theorem dL_law_430 : decode cL_law 430 = .ok (.iload_n 3, 1) := by decide +kernel
theorem dL_law_431 : decode cL_law 431 = .ok (.iconst 2, 1) := by decide +kernel
theorem dL_law_432 : decode cL_law 432 = .ok (.iadd, 1) := by decide +kernel
theorem dL_law_433 : decode cL_law 433 = .ok (.iaload, 1) := by decide +kernel
theorem dL_law_434 : decode cL_law 434 = .ok (.invokevirtual 59, 3) := by decide +kernel
theorem dL_law_437 : decode cL_law 437 = .ok (.if_icmp .eq 434, 3) := by decide +kernel
theorem dL_law_440 : decode cL_law 440 = .ok (.iconst 0, 1) := by decide +kernel
theorem dL_law_441 : decode cL_law 441 = .ok (.ireturn, 1) := by decide +kernel
theorem dL_law_442 : decode cL_law 442 = .ok (.aload_n 1, 1) := by decide +kernel
theorem dL_law_443 : decode cL_law 443 = .ok (.aload_n 0, 1) := by decide +kernel
theorem dL_law_444 : decode cL_law 444 = .ok (.iload_n 3, 1) := by decide +kernel
theorem dL_law_445 : decode cL_law 445 = .ok (.iconst 1, 1) := by decide +kernel
theorem dL_law_446 : decode cL_law 446 = .ok (.iadd, 1) := by decide +kernel
theorem dL_law_447 : decode cL_law 447 = .ok (.iaload, 1) := by decide +kernel
theorem dL_law_448 : decode cL_law 448 = .ok (.aload_n 0, 1) := by decide +kernel
theorem dL_law_449 : decode cL_law 449 = .ok (.iload_n 3, 1) := by decide +kernel
theorem dL_law_450 : decode cL_law 450 = .ok (.iconst 2, 1) := by decide +kernel
theorem dL_law_451 : decode cL_law 451 = .ok (.iadd, 1) := by decide +kernel
theorem dL_law_452 : decode cL_law 452 = .ok (.iaload, 1) := by decide +kernel
theorem dL_law_453 : decode cL_law 453 = .ok (.invokevirtual 60, 3) := by decide +kernel
theorem dL_law_456 : decode cL_law 456 = .ok (.aload_n 2, 1) := by decide +kernel
theorem dL_law_457 : decode cL_law 457 = .ok (.aload_n 0, 1) := by decide +kernel
theorem dL_law_458 : decode cL_law 458 = .ok (.iload_n 3, 1) := by decide +kernel
theorem dL_law_459 : decode cL_law 459 = .ok (.iconst 1, 1) := by decide +kernel
theorem dL_law_460 : decode cL_law 460 = .ok (.iadd, 1) := by decide +kernel
theorem dL_law_461 : decode cL_law 461 = .ok (.iaload, 1) := by decide +kernel
theorem dL_law_462 : decode cL_law 462 = .ok (.aload_n 0, 1) := by decide +kernel
theorem dL_law_463 : decode cL_law 463 = .ok (.iload_n 3, 1) := by decide +kernel
theorem dL_law_464 : decode cL_law 464 = .ok (.iconst 2, 1) := by decide +kernel
theorem dL_law_465 : decode cL_law 465 = .ok (.iadd, 1) := by decide +kernel
theorem dL_law_466 : decode cL_law 466 = .ok (.iaload, 1) := by decide +kernel
theorem dL_law_467 : decode cL_law 467 = .ok (.invokevirtual 63, 3) := by decide +kernel
theorem dL_law_470 : decode cL_law 470 = .ok (.if_icmp .eq 401, 3) := by decide +kernel
theorem dL_law_473 : decode cL_law 473 = .ok (.iconst 0, 1) := by decide +kernel
theorem dL_law_474 : decode cL_law 474 = .ok (.ireturn, 1) := by decide +kernel
theorem dL_law_475 : decode cL_law 475 = .ok (.aload_n 1, 1) := by decide +kernel
theorem dL_law_476 : decode cL_law 476 = .ok (.aload_n 0, 1) := by decide +kernel
theorem dL_law_477 : decode cL_law 477 = .ok (.iload_n 3, 1) := by decide +kernel
theorem dL_law_478 : decode cL_law 478 = .ok (.iconst 1, 1) := by decide +kernel
theorem dL_law_479 : decode cL_law 479 = .ok (.iadd, 1) := by decide +kernel
theorem dL_law_480 : decode cL_law 480 = .ok (.iaload, 1) := by decide +kernel
theorem dL_law_481 : decode cL_law 481 = .ok (.aload_n 0, 1) := by decide +kernel
theorem dL_law_482 : decode cL_law 482 = .ok (.iload_n 3, 1) := by decide +kernel
theorem dL_law_483 : decode cL_law 483 = .ok (.iconst 2, 1) := by decide +kernel
theorem dL_law_484 : decode cL_law 484 = .ok (.iadd, 1) := by decide +kernel
theorem dL_law_485 : decode cL_law 485 = .ok (.iaload, 1) := by decide +kernel
theorem dL_law_486 : decode cL_law 486 = .ok (.invokevirtual 64, 3) := by decide +kernel
theorem dL_law_489 : decode cL_law 489 = .ok (.aload_n 2, 1) := by decide +kernel
theorem dL_law_490 : decode cL_law 490 = .ok (.aload_n 0, 1) := by decide +kernel
theorem dL_law_491 : decode cL_law 491 = .ok (.iload_n 3, 1) := by decide +kernel
theorem dL_law_492 : decode cL_law 492 = .ok (.iconst 1, 1) := by decide +kernel
theorem dL_law_493 : decode cL_law 493 = .ok (.iadd, 1) := by decide +kernel
theorem dL_law_494 : decode cL_law 494 = .ok (.iaload, 1) := by decide +kernel
theorem dL_law_495 : decode cL_law 495 = .ok (.aload_n 0, 1) := by decide +kernel
theorem dL_law_496 : decode cL_law 496 = .ok (.iload_n 3, 1) := by decide +kernel
theorem dL_law_497 : decode cL_law 497 = .ok (.iconst 2, 1) := by decide +kernel
theorem dL_law_498 : decode cL_law 498 = .ok (.iadd, 1) := by decide +kernel
theorem dL_law_499 : decode cL_law 499 = .ok (.iaload, 1) := by decide +kernel
theorem dL_law_500 : decode cL_law 500 = .ok (.invokevirtual 67, 3) := by decide +kernel
theorem dL_law_503 : decode cL_law 503 = .ok (.if_icmp .eq 368, 3) := by decide +kernel
theorem dL_law_506 : decode cL_law 506 = .ok (.iconst 0, 1) := by decide +kernel
theorem dL_law_507 : decode cL_law 507 = .ok (.ireturn, 1) := by decide +kernel
theorem dL_law_508 : decode cL_law 508 = .ok (.aload_n 1, 1) := by decide +kernel
theorem dL_law_509 : decode cL_law 509 = .ok (.aload_n 0, 1) := by decide +kernel
theorem dL_law_510 : decode cL_law 510 = .ok (.iload_n 3, 1) := by decide +kernel
theorem dL_law_511 : decode cL_law 511 = .ok (.iconst 1, 1) := by decide +kernel
theorem dL_law_512 : decode cL_law 512 = .ok (.iadd, 1) := by decide +kernel
theorem dL_law_513 : decode cL_law 513 = .ok (.iaload, 1) := by decide +kernel
theorem dL_law_514 : decode cL_law 514 = .ok (.invokevirtual 68, 3) := by decide +kernel
theorem dL_law_517 : decode cL_law 517 = .ok (.aload_n 2, 1) := by decide +kernel
theorem dL_law_518 : decode cL_law 518 = .ok (.aload_n 0, 1) := by decide +kernel
theorem dL_law_519 : decode cL_law 519 = .ok (.iload_n 3, 1) := by decide +kernel
theorem dL_law_520 : decode cL_law 520 = .ok (.iconst 1, 1) := by decide +kernel
theorem dL_law_521 : decode cL_law 521 = .ok (.iadd, 1) := by decide +kernel
theorem dL_law_522 : decode cL_law 522 = .ok (.iaload, 1) := by decide +kernel
theorem dL_law_523 : decode cL_law 523 = .ok (.invokevirtual 71, 3) := by decide +kernel
theorem dL_law_526 : decode cL_law 526 = .ok (.if_icmp .eq 345, 3) := by decide +kernel
theorem dL_law_529 : decode cL_law 529 = .ok (.iconst 0, 1) := by decide +kernel
theorem dL_law_530 : decode cL_law 530 = .ok (.ireturn, 1) := by decide +kernel
theorem dL_law_531 : decode cL_law 531 = .ok (.aload_n 1, 1) := by decide +kernel
theorem dL_law_532 : decode cL_law 532 = .ok (.aload_n 0, 1) := by decide +kernel
theorem dL_law_533 : decode cL_law 533 = .ok (.iload_n 3, 1) := by decide +kernel
theorem dL_law_534 : decode cL_law 534 = .ok (.iconst 1, 1) := by decide +kernel
theorem dL_law_535 : decode cL_law 535 = .ok (.iadd, 1) := by decide +kernel
theorem dL_law_536 : decode cL_law 536 = .ok (.iaload, 1) := by decide +kernel
theorem dL_law_537 : decode cL_law 537 = .ok (.invokevirtual 72, 3) := by decide +kernel
theorem dL_law_540 : decode cL_law 540 = .ok (.aload_n 2, 1) := by decide +kernel
theorem dL_law_541 : decode cL_law 541 = .ok (.aload_n 0, 1) := by decide +kernel
theorem dL_law_542 : decode cL_law 542 = .ok (.iload_n 3, 1) := by decide +kernel
theorem dL_law_543 : decode cL_law 543 = .ok (.iconst 1, 1) := by decide +kernel
theorem dL_law_544 : decode cL_law 544 = .ok (.iadd, 1) := by decide +kernel
theorem dL_law_545 : decode cL_law 545 = .ok (.iaload, 1) := by decide +kernel
theorem dL_law_546 : decode cL_law 546 = .ok (.invokevirtual 75, 3) := by decide +kernel
theorem dL_law_549 : decode cL_law 549 = .ok (.if_icmp .eq 322, 3) := by decide +kernel
theorem dL_law_552 : decode cL_law 552 = .ok (.iconst 0, 1) := by decide +kernel
theorem dL_law_553 : decode cL_law 553 = .ok (.ireturn, 1) := by decide +kernel
theorem dL_law_554 : decode cL_law 554 = .ok (.aload_n 1, 1) := by decide +kernel
theorem dL_law_555 : decode cL_law 555 = .ok (.invokevirtual 76, 3) := by decide +kernel
theorem dL_law_558 : decode cL_law 558 = .ok (.aload_n 2, 1) := by decide +kernel
theorem dL_law_559 : decode cL_law 559 = .ok (.invokevirtual 79, 3) := by decide +kernel
theorem dL_law_562 : decode cL_law 562 = .ok (.if_icmp .eq 309, 3) := by decide +kernel
theorem dL_law_565 : decode cL_law 565 = .ok (.iconst 0, 1) := by decide +kernel
theorem dL_law_566 : decode cL_law 566 = .ok (.ireturn, 1) := by decide +kernel
theorem dL_law_567 : decode cL_law 567 = .ok (.aload_n 1, 1) := by decide +kernel
theorem dL_law_568 : decode cL_law 568 = .ok (.aload_n 0, 1) := by decide +kernel
theorem dL_law_569 : decode cL_law 569 = .ok (.iload_n 3, 1) := by decide +kernel
theorem dL_law_570 : decode cL_law 570 = .ok (.iconst 1, 1) := by decide +kernel
theorem dL_law_571 : decode cL_law 571 = .ok (.iadd, 1) := by decide +kernel
theorem dL_law_572 : decode cL_law 572 = .ok (.iaload, 1) := by decide +kernel
theorem dL_law_573 : decode cL_law 573 = .ok (.invokevirtual 80, 3) := by decide +kernel
theorem dL_law_576 : decode cL_law 576 = .ok (.aload_n 2, 1) := by decide +kernel
theorem dL_law_577 : decode cL_law 577 = .ok (.aload_n 0, 1) := by decide +kernel
theorem dL_law_578 : decode cL_law 578 = .ok (.iload_n 3, 1) := by decide +kernel
theorem dL_law_579 : decode cL_law 579 = .ok (.iconst 1, 1) := by decide +kernel
theorem dL_law_580 : decode cL_law 580 = .ok (.iadd, 1) := by decide +kernel
theorem dL_law_581 : decode cL_law 581 = .ok (.iaload, 1) := by decide +kernel
theorem dL_law_582 : decode cL_law 582 = .ok (.invokevirtual 83, 3) := by decide +kernel
theorem dL_law_585 : decode cL_law 585 = .ok (.if_icmp .eq 286, 3) := by decide +kernel
theorem dL_law_588 : decode cL_law 588 = .ok (.iconst 0, 1) := by decide +kernel
theorem dL_law_589 : decode cL_law 589 = .ok (.ireturn, 1) := by decide +kernel
theorem dL_law_590 : decode cL_law 590 = .ok (.aload_n 1, 1) := by decide +kernel
theorem dL_law_591 : decode cL_law 591 = .ok (.aload_n 0, 1) := by decide +kernel
theorem dL_law_592 : decode cL_law 592 = .ok (.iload_n 3, 1) := by decide +kernel
theorem dL_law_593 : decode cL_law 593 = .ok (.iconst 1, 1) := by decide +kernel
theorem dL_law_594 : decode cL_law 594 = .ok (.iadd, 1) := by decide +kernel
theorem dL_law_595 : decode cL_law 595 = .ok (.iaload, 1) := by decide +kernel
theorem dL_law_596 : decode cL_law 596 = .ok (.aload_n 0, 1) := by decide +kernel
theorem dL_law_597 : decode cL_law 597 = .ok (.iload_n 3, 1) := by decide +kernel
theorem dL_law_598 : decode cL_law 598 = .ok (.iconst 2, 1) := by decide +kernel
theorem dL_law_599 : decode cL_law 599 = .ok (.iadd, 1) := by decide +kernel
theorem dL_law_600 : decode cL_law 600 = .ok (.iaload, 1) := by decide +kernel
theorem dL_law_601 : decode cL_law 601 = .ok (.aload_n 0, 1) := by decide +kernel
theorem dL_law_602 : decode cL_law 602 = .ok (.iload_n 3, 1) := by decide +kernel
theorem dL_law_603 : decode cL_law 603 = .ok (.iconst 3, 1) := by decide +kernel
theorem dL_law_604 : decode cL_law 604 = .ok (.iadd, 1) := by decide +kernel
theorem dL_law_605 : decode cL_law 605 = .ok (.iaload, 1) := by decide +kernel
theorem dL_law_606 : decode cL_law 606 = .ok (.invokevirtual 84, 3) := by decide +kernel
theorem dL_law_609 : decode cL_law 609 = .ok (.aload_n 2, 1) := by decide +kernel
theorem dL_law_610 : decode cL_law 610 = .ok (.aload_n 0, 1) := by decide +kernel
theorem dL_law_611 : decode cL_law 611 = .ok (.iload_n 3, 1) := by decide +kernel
theorem dL_law_612 : decode cL_law 612 = .ok (.iconst 1, 1) := by decide +kernel
theorem dL_law_613 : decode cL_law 613 = .ok (.iadd, 1) := by decide +kernel
theorem dL_law_614 : decode cL_law 614 = .ok (.iaload, 1) := by decide +kernel
theorem dL_law_615 : decode cL_law 615 = .ok (.aload_n 0, 1) := by decide +kernel
theorem dL_law_616 : decode cL_law 616 = .ok (.iload_n 3, 1) := by decide +kernel
theorem dL_law_617 : decode cL_law 617 = .ok (.iconst 2, 1) := by decide +kernel
theorem dL_law_618 : decode cL_law 618 = .ok (.iadd, 1) := by decide +kernel
theorem dL_law_619 : decode cL_law 619 = .ok (.iaload, 1) := by decide +kernel
theorem dL_law_620 : decode cL_law 620 = .ok (.aload_n 0, 1) := by decide +kernel
theorem dL_law_621 : decode cL_law 621 = .ok (.iload_n 3, 1) := by decide +kernel
theorem dL_law_622 : decode cL_law 622 = .ok (.iconst 3, 1) := by decide +kernel
theorem dL_law_623 : decode cL_law 623 = .ok (.iadd, 1) := by decide +kernel
theorem dL_law_624 : decode cL_law 624 = .ok (.iaload, 1) := by decide +kernel
theorem dL_law_625 : decode cL_law 625 = .ok (.invokevirtual 88, 3) := by decide +kernel
theorem dL_law_628 : decode cL_law 628 = .ok (.if_icmp .eq 243, 3) := by decide +kernel
theorem dL_law_631 : decode cL_law 631 = .ok (.iconst 0, 1) := by decide +kernel
theorem dL_law_632 : decode cL_law 632 = .ok (.ireturn, 1) := by decide +kernel
theorem dL_law_633 : decode cL_law 633 = .ok (.aload_n 1, 1) := by decide +kernel
theorem dL_law_634 : decode cL_law 634 = .ok (.aload_n 0, 1) := by decide +kernel
theorem dL_law_635 : decode cL_law 635 = .ok (.iload_n 3, 1) := by decide +kernel
theorem dL_law_636 : decode cL_law 636 = .ok (.iconst 1, 1) := by decide +kernel
theorem dL_law_637 : decode cL_law 637 = .ok (.iadd, 1) := by decide +kernel
theorem dL_law_638 : decode cL_law 638 = .ok (.iaload, 1) := by decide +kernel
theorem dL_law_639 : decode cL_law 639 = .ok (.aload_n 0, 1) := by decide +kernel
theorem dL_law_640 : decode cL_law 640 = .ok (.iload_n 3, 1) := by decide +kernel
theorem dL_law_641 : decode cL_law 641 = .ok (.iconst 2, 1) := by decide +kernel
theorem dL_law_642 : decode cL_law 642 = .ok (.iadd, 1) := by decide +kernel
theorem dL_law_643 : decode cL_law 643 = .ok (.iaload, 1) := by decide +kernel
theorem dL_law_644 : decode cL_law 644 = .ok (.aload_n 0, 1) := by decide +kernel
theorem dL_law_645 : decode cL_law 645 = .ok (.iload_n 3, 1) := by decide +kernel
theorem dL_law_646 : decode cL_law 646 = .ok (.iconst 3, 1) := by decide +kernel
theorem dL_law_647 : decode cL_law 647 = .ok (.iadd, 1) := by decide +kernel
theorem dL_law_648 : decode cL_law 648 = .ok (.iaload, 1) := by decide +kernel
theorem dL_law_649 : decode cL_law 649 = .ok (.invokevirtual 89, 3) := by decide +kernel
theorem dL_law_652 : decode cL_law 652 = .ok (.aload_n 2, 1) := by decide +kernel
theorem dL_law_653 : decode cL_law 653 = .ok (.aload_n 0, 1) := by decide +kernel
theorem dL_law_654 : decode cL_law 654 = .ok (.iload_n 3, 1) := by decide +kernel
theorem dL_law_655 : decode cL_law 655 = .ok (.iconst 1, 1) := by decide +kernel
theorem dL_law_656 : decode cL_law 656 = .ok (.iadd, 1) := by decide +kernel
theorem dL_law_657 : decode cL_law 657 = .ok (.iaload, 1) := by decide +kernel
theorem dL_law_658 : decode cL_law 658 = .ok (.aload_n 0, 1) := by decide +kernel
theorem dL_law_659 : decode cL_law 659 = .ok (.iload_n 3, 1) := by decide +kernel
theorem dL_law_660 : decode cL_law 660 = .ok (.iconst 2, 1) := by decide +kernel
theorem dL_law_661 : decode cL_law 661 = .ok (.iadd, 1) := by decide +kernel
theorem dL_law_662 : decode cL_law 662 = .ok (.iaload, 1) := by decide +kernel
theorem dL_law_663 : decode cL_law 663 = .ok (.aload_n 0, 1) := by decide +kernel
theorem dL_law_664 : decode cL_law 664 = .ok (.iload_n 3, 1) := by decide +kernel
theorem dL_law_665 : decode cL_law 665 = .ok (.iconst 3, 1) := by decide +kernel
theorem dL_law_666 : decode cL_law 666 = .ok (.iadd, 1) := by decide +kernel
theorem dL_law_667 : decode cL_law 667 = .ok (.iaload, 1) := by decide +kernel
theorem dL_law_668 : decode cL_law 668 = .ok (.invokevirtual 92, 3) := by decide +kernel
theorem dL_law_671 : decode cL_law 671 = .ok (.if_icmp .eq 200, 3) := by decide +kernel
theorem dL_law_674 : decode cL_law 674 = .ok (.iconst 0, 1) := by decide +kernel
theorem dL_law_675 : decode cL_law 675 = .ok (.ireturn, 1) := by decide +kernel
theorem dL_law_676 : decode cL_law 676 = .ok (.aload_n 1, 1) := by decide +kernel
theorem dL_law_677 : decode cL_law 677 = .ok (.aload_n 0, 1) := by decide +kernel
theorem dL_law_678 : decode cL_law 678 = .ok (.iload_n 3, 1) := by decide +kernel
theorem dL_law_679 : decode cL_law 679 = .ok (.iconst 1, 1) := by decide +kernel
theorem dL_law_680 : decode cL_law 680 = .ok (.iadd, 1) := by decide +kernel
theorem dL_law_681 : decode cL_law 681 = .ok (.iaload, 1) := by decide +kernel
theorem dL_law_682 : decode cL_law 682 = .ok (.aload_n 0, 1) := by decide +kernel
theorem dL_law_683 : decode cL_law 683 = .ok (.iload_n 3, 1) := by decide +kernel
theorem dL_law_684 : decode cL_law 684 = .ok (.iconst 2, 1) := by decide +kernel
theorem dL_law_685 : decode cL_law 685 = .ok (.iadd, 1) := by decide +kernel
theorem dL_law_686 : decode cL_law 686 = .ok (.iaload, 1) := by decide +kernel
theorem dL_law_687 : decode cL_law 687 = .ok (.aload_n 0, 1) := by decide +kernel
theorem dL_law_688 : decode cL_law 688 = .ok (.iload_n 3, 1) := by decide +kernel
theorem dL_law_689 : decode cL_law 689 = .ok (.iconst 3, 1) := by decide +kernel
theorem dL_law_690 : decode cL_law 690 = .ok (.iadd, 1) := by decide +kernel
theorem dL_law_691 : decode cL_law 691 = .ok (.iaload, 1) := by decide +kernel
theorem dL_law_692 : decode cL_law 692 = .ok (.invokevirtual 93, 3) := by decide +kernel
theorem dL_law_695 : decode cL_law 695 = .ok (.aload_n 2, 1) := by decide +kernel
theorem dL_law_696 : decode cL_law 696 = .ok (.aload_n 0, 1) := by decide +kernel
theorem dL_law_697 : decode cL_law 697 = .ok (.iload_n 3, 1) := by decide +kernel
theorem dL_law_698 : decode cL_law 698 = .ok (.iconst 1, 1) := by decide +kernel
theorem dL_law_699 : decode cL_law 699 = .ok (.iadd, 1) := by decide +kernel
theorem dL_law_700 : decode cL_law 700 = .ok (.iaload, 1) := by decide +kernel
theorem dL_law_701 : decode cL_law 701 = .ok (.aload_n 0, 1) := by decide +kernel
theorem dL_law_702 : decode cL_law 702 = .ok (.iload_n 3, 1) := by decide +kernel
theorem dL_law_703 : decode cL_law 703 = .ok (.iconst 2, 1) := by decide +kernel
theorem dL_law_704 : decode cL_law 704 = .ok (.iadd, 1) := by decide +kernel
theorem dL_law_705 : decode cL_law 705 = .ok (.iaload, 1) := by decide +kernel
theorem dL_law_706 : decode cL_law 706 = .ok (.aload_n 0, 1) := by decide +kernel
theorem dL_law_707 : decode cL_law 707 = .ok (.iload_n 3, 1) := by decide +kernel
theorem dL_law_708 : decode cL_law 708 = .ok (.iconst 3, 1) := by decide +kernel
theorem dL_law_709 : decode cL_law 709 = .ok (.iadd, 1) := by decide +kernel
theorem dL_law_710 : decode cL_law 710 = .ok (.iaload, 1) := by decide +kernel
theorem dL_law_711 : decode cL_law 711 = .ok (.invokevirtual 96, 3) := by decide +kernel
theorem dL_law_714 : decode cL_law 714 = .ok (.if_icmp .eq 157, 3) := by decide +kernel
theorem dL_law_717 : decode cL_law 717 = .ok (.iconst 0, 1) := by decide +kernel
theorem dL_law_718 : decode cL_law 718 = .ok (.ireturn, 1) := by decide +kernel
theorem dL_law_719 : decode cL_law 719 = .ok (.aload_n 1, 1) := by decide +kernel
theorem dL_law_720 : decode cL_law 720 = .ok (.aload_n 0, 1) := by decide +kernel
theorem dL_law_721 : decode cL_law 721 = .ok (.iload_n 3, 1) := by decide +kernel
theorem dL_law_722 : decode cL_law 722 = .ok (.iconst 1, 1) := by decide +kernel
theorem dL_law_723 : decode cL_law 723 = .ok (.iadd, 1) := by decide +kernel
theorem dL_law_724 : decode cL_law 724 = .ok (.iaload, 1) := by decide +kernel
theorem dL_law_725 : decode cL_law 725 = .ok (.invokevirtual 97, 3) := by decide +kernel
theorem dL_law_728 : decode cL_law 728 = .ok (.aload_n 2, 1) := by decide +kernel
theorem dL_law_729 : decode cL_law 729 = .ok (.aload_n 0, 1) := by decide +kernel
theorem dL_law_730 : decode cL_law 730 = .ok (.iload_n 3, 1) := by decide +kernel
theorem dL_law_731 : decode cL_law 731 = .ok (.iconst 1, 1) := by decide +kernel
theorem dL_law_732 : decode cL_law 732 = .ok (.iadd, 1) := by decide +kernel
theorem dL_law_733 : decode cL_law 733 = .ok (.iaload, 1) := by decide +kernel
theorem dL_law_734 : decode cL_law 734 = .ok (.invokevirtual 100, 3) := by decide +kernel
theorem dL_law_737 : decode cL_law 737 = .ok (.if_icmp .eq 134, 3) := by decide +kernel
theorem dL_law_740 : decode cL_law 740 = .ok (.iconst 0, 1) := by decide +kernel
theorem dL_law_741 : decode cL_law 741 = .ok (.ireturn, 1) := by decide +kernel
theorem dL_law_742 : decode cL_law 742 = .ok (.aload_n 1, 1) := by decide +kernel
theorem dL_law_743 : decode cL_law 743 = .ok (.invokevirtual 101, 3) := by decide +kernel
theorem dL_law_746 : decode cL_law 746 = .ok (.aload_n 2, 1) := by decide +kernel
theorem dL_law_747 : decode cL_law 747 = .ok (.invokevirtual 104, 3) := by decide +kernel
theorem dL_law_750 : decode cL_law 750 = .ok (.if_icmp .eq 121, 3) := by decide +kernel
theorem dL_law_753 : decode cL_law 753 = .ok (.iconst 0, 1) := by decide +kernel
theorem dL_law_754 : decode cL_law 754 = .ok (.ireturn, 1) := by decide +kernel
theorem dL_law_755 : decode cL_law 755 = .ok (.aload_n 1, 1) := by decide +kernel
theorem dL_law_756 : decode cL_law 756 = .ok (.aload_n 0, 1) := by decide +kernel
theorem dL_law_757 : decode cL_law 757 = .ok (.iload_n 3, 1) := by decide +kernel
theorem dL_law_758 : decode cL_law 758 = .ok (.iconst 1, 1) := by decide +kernel
theorem dL_law_759 : decode cL_law 759 = .ok (.iadd, 1) := by decide +kernel
theorem dL_law_760 : decode cL_law 760 = .ok (.iaload, 1) := by decide +kernel
theorem dL_law_761 : decode cL_law 761 = .ok (.aload_n 0, 1) := by decide +kernel
theorem dL_law_762 : decode cL_law 762 = .ok (.iload_n 3, 1) := by decide +kernel
theorem dL_law_763 : decode cL_law 763 = .ok (.iconst 2, 1) := by decide +kernel
theorem dL_law_764 : decode cL_law 764 = .ok (.iadd, 1) := by decide +kernel
theorem dL_law_765 : decode cL_law 765 = .ok (.iaload, 1) := by decide +kernel
theorem dL_law_766 : decode cL_law 766 = .ok (.invokevirtual 105, 3) := by decide +kernel
theorem dL_law_769 : decode cL_law 769 = .ok (.aload_n 2, 1) := by decide +kernel
theorem dL_law_770 : decode cL_law 770 = .ok (.aload_n 0, 1) := by decide +kernel
theorem dL_law_771 : decode cL_law 771 = .ok (.iload_n 3, 1) := by decide +kernel
theorem dL_law_772 : decode cL_law 772 = .ok (.iconst 1, 1) := by decide +kernel
theorem dL_law_773 : decode cL_law 773 = .ok (.iadd, 1) := by decide +kernel
theorem dL_law_774 : decode cL_law 774 = .ok (.iaload, 1) := by decide +kernel
theorem dL_law_775 : decode cL_law 775 = .ok (.aload_n 0, 1) := by decide +kernel
theorem dL_law_776 : decode cL_law 776 = .ok (.iload_n 3, 1) := by decide +kernel
theorem dL_law_777 : decode cL_law 777 = .ok (.iconst 2, 1) := by decide +kernel
theorem dL_law_778 : decode cL_law 778 = .ok (.iadd, 1) := by decide +kernel
theorem dL_law_779 : decode cL_law 779 = .ok (.iaload, 1) := by decide +kernel
theorem dL_law_780 : decode cL_law 780 = .ok (.invokevirtual 108, 3) := by decide +kernel
theorem dL_law_783 : decode cL_law 783 = .ok (.if_icmp .eq 88, 3) := by decide +kernel
theorem dL_law_786 : decode cL_law 786 = .ok (.iconst 0, 1) := by decide +kernel
theorem dL_law_787 : decode cL_law 787 = .ok (.ireturn, 1) := by decide +kernel
theorem dL_law_788 : decode cL_law 788 = .ok (.aload_n 1, 1) := by decide +kernel
theorem dL_law_789 : decode cL_law 789 = .ok (.aload_n 0, 1) := by decide +kernel
theorem dL_law_790 : decode cL_law 790 = .ok (.iload_n 3, 1) := by decide +kernel
theorem dL_law_791 : decode cL_law 791 = .ok (.iconst 1, 1) := by decide +kernel
theorem dL_law_792 : decode cL_law 792 = .ok (.iadd, 1) := by decide +kernel
theorem dL_law_793 : decode cL_law 793 = .ok (.iaload, 1) := by decide +kernel
theorem dL_law_794 : decode cL_law 794 = .ok (.invokevirtual 109, 3) := by decide +kernel
theorem dL_law_797 : decode cL_law 797 = .ok (.aload_n 2, 1) := by decide +kernel
theorem dL_law_798 : decode cL_law 798 = .ok (.aload_n 0, 1) := by decide +kernel
theorem dL_law_799 : decode cL_law 799 = .ok (.iload_n 3, 1) := by decide +kernel
theorem dL_law_800 : decode cL_law 800 = .ok (.iconst 1, 1) := by decide +kernel
theorem dL_law_801 : decode cL_law 801 = .ok (.iadd, 1) := by decide +kernel
theorem dL_law_802 : decode cL_law 802 = .ok (.iaload, 1) := by decide +kernel
theorem dL_law_803 : decode cL_law 803 = .ok (.invokevirtual 112, 3) := by decide +kernel
theorem dL_law_806 : decode cL_law 806 = .ok (.if_icmp .eq 65, 3) := by decide +kernel
theorem dL_law_809 : decode cL_law 809 = .ok (.iconst 0, 1) := by decide +kernel
theorem dL_law_810 : decode cL_law 810 = .ok (.ireturn, 1) := by decide +kernel
theorem dL_law_811 : decode cL_law 811 = .ok (.aload_n 1, 1) := by decide +kernel
theorem dL_law_812 : decode cL_law 812 = .ok (.aload_n 0, 1) := by decide +kernel
theorem dL_law_813 : decode cL_law 813 = .ok (.iload_n 3, 1) := by decide +kernel
theorem dL_law_814 : decode cL_law 814 = .ok (.iconst 1, 1) := by decide +kernel
theorem dL_law_815 : decode cL_law 815 = .ok (.iadd, 1) := by decide +kernel
theorem dL_law_816 : decode cL_law 816 = .ok (.iaload, 1) := by decide +kernel
theorem dL_law_817 : decode cL_law 817 = .ok (.invokevirtual 113, 3) := by decide +kernel
theorem dL_law_820 : decode cL_law 820 = .ok (.aload_n 2, 1) := by decide +kernel
theorem dL_law_821 : decode cL_law 821 = .ok (.aload_n 0, 1) := by decide +kernel
theorem dL_law_822 : decode cL_law 822 = .ok (.iload_n 3, 1) := by decide +kernel
theorem dL_law_823 : decode cL_law 823 = .ok (.iconst 1, 1) := by decide +kernel
theorem dL_law_824 : decode cL_law 824 = .ok (.iadd, 1) := by decide +kernel
theorem dL_law_825 : decode cL_law 825 = .ok (.iaload, 1) := by decide +kernel
theorem dL_law_826 : decode cL_law 826 = .ok (.invokevirtual 116, 3) := by decide +kernel
theorem dL_law_829 : decode cL_law 829 = .ok (.if_icmp .eq 42, 3) := by decide +kernel
theorem dL_law_832 : decode cL_law 832 = .ok (.iconst 0, 1) := by decide +kernel
theorem dL_law_833 : decode cL_law 833 = .ok (.ireturn, 1) := by decide +kernel
theorem dL_law_834 : decode cL_law 834 = .ok (.aload_n 1, 1) := by decide +kernel
theorem dL_law_835 : decode cL_law 835 = .ok (.aload_n 0, 1) := by decide +kernel
theorem dL_law_836 : decode cL_law 836 = .ok (.iload_n 3, 1) := by decide +kernel
theorem dL_law_837 : decode cL_law 837 = .ok (.iconst 1, 1) := by decide +kernel
theorem dL_law_838 : decode cL_law 838 = .ok (.iadd, 1) := by decide +kernel
theorem dL_law_839 : decode cL_law 839 = .ok (.iaload, 1) := by decide +kernel
theorem dL_law_840 : decode cL_law 840 = .ok (.invokevirtual 117, 3) := by decide +kernel
theorem dL_law_843 : decode cL_law 843 = .ok (.aload_n 2, 1) := by decide +kernel
theorem dL_law_844 : decode cL_law 844 = .ok (.aload_n 0, 1) := by decide +kernel
theorem dL_law_845 : decode cL_law 845 = .ok (.iload_n 3, 1) := by decide +kernel
theorem dL_law_846 : decode cL_law 846 = .ok (.iconst 1, 1) := by decide +kernel
theorem dL_law_847 : decode cL_law 847 = .ok (.iadd, 1) := by decide +kernel
theorem dL_law_848 : decode cL_law 848 = .ok (.iaload, 1) := by decide +kernel
theorem dL_law_849 : decode cL_law 849 = .ok (.invokevirtual 120, 3) := by decide +kernel
theorem dL_law_852 : decode cL_law 852 = .ok (.if_icmp .eq 19, 3) := by decide +kernel
theorem dL_law_855 : decode cL_law 855 = .ok (.iconst 0, 1) := by decide +kernel
theorem dL_law_856 : decode cL_law 856 = .ok (.ireturn, 1) := by decide +kernel
theorem dL_law_857 : decode cL_law 857 = .ok (.aload_n 1, 1) := by decide +kernel
theorem dL_law_858 : decode cL_law 858 = .ok (.invokevirtual 121, 3) := by decide +kernel
theorem dL_law_861 : decode cL_law 861 = .ok (.aload_n 2, 1) := by decide +kernel
theorem dL_law_862 : decode cL_law 862 = .ok (.invokevirtual 125, 3) := by decide +kernel
theorem dL_law_865 : decode cL_law 865 = .ok (.lcmp, 1) := by decide +kernel
theorem dL_law_866 : decode cL_law 866 = .ok (.ifCond .eq 5, 3) := by decide +kernel
theorem dL_law_869 : decode cL_law 869 = .ok (.iconst 0, 1) := by decide +kernel
theorem dL_law_870 : decode cL_law 870 = .ok (.ireturn, 1) := by decide +kernel
theorem dL_law_871 : decode cL_law 871 = .ok (.iinc 3 5, 3) := by decide +kernel
theorem dL_law_874 : decode cL_law 874 = .ok (.goto (-856), 3) := by decide +kernel
theorem dL_law_877 : decode cL_law 877 = .ok (.iconst 1, 1) := by decide +kernel
theorem dL_law_878 : decode cL_law 878 = .ok (.ireturn, 1) := by decide +kernel
