theorem dX0_init_0 : decode cX0_init 0 = .ok (.aload_n 0, 1) := by decide +kernel
theorem dX0_init_1 : decode cX0_init 1 = .ok (.invokespecial 3, 3) := by decide +kernel
theorem dX0_init_4 : decode cX0_init 4 = .ok (.aload_n 0, 1) := by decide +kernel
theorem dX0_init_5 : decode cX0_init 5 = .ok (.iconst 0, 1) := by decide +kernel
theorem dX0_init_6 : decode cX0_init 6 = .ok (.putfield 9, 3) := by decide +kernel
theorem dX0_init_9 : decode cX0_init 9 = .ok (.aload_n 0, 1) := by decide +kernel
theorem dX0_init_10 : decode cX0_init 10 = .ok (.bipush 6, 2) := by decide +kernel
theorem dX0_init_12 : decode cX0_init 12 = .ok (.newarray .int, 2) := by decide +kernel
theorem dX0_init_14 : decode cX0_init 14 = .ok (.putfield 15, 3) := by decide +kernel
theorem dX0_init_17 : decode cX0_init 17 = .ok (.aload_n 0, 1) := by decide +kernel
theorem dX0_init_18 : decode cX0_init 18 = .ok (.bipush 6, 2) := by decide +kernel
theorem dX0_init_20 : decode cX0_init 20 = .ok (.newarray .int, 2) := by decide +kernel
theorem dX0_init_22 : decode cX0_init 22 = .ok (.putfield 19, 3) := by decide +kernel
theorem dX0_init_25 : decode cX0_init 25 = .ok (.return_, 1) := by decide +kernel
theorem dX0_add_0 : decode cX0_add 0 = .ok (.aload_n 0, 1) := by decide +kernel
theorem dX0_add_1 : decode cX0_add 1 = .ok (.getfield 9, 3) := by decide +kernel
theorem dX0_add_4 : decode cX0_add 4 = .ok (.bipush 6, 2) := by decide +kernel
theorem dX0_add_6 : decode cX0_add 6 = .ok (.if_icmp .ge 33, 3) := by decide +kernel
theorem dX0_add_9 : decode cX0_add 9 = .ok (.aload_n 0, 1) := by decide +kernel
theorem dX0_add_10 : decode cX0_add 10 = .ok (.getfield 15, 3) := by decide +kernel
theorem dX0_add_13 : decode cX0_add 13 = .ok (.aload_n 0, 1) := by decide +kernel
theorem dX0_add_14 : decode cX0_add 14 = .ok (.getfield 9, 3) := by decide +kernel
theorem dX0_add_17 : decode cX0_add 17 = .ok (.iload_n 1, 1) := by decide +kernel
theorem dX0_add_18 : decode cX0_add 18 = .ok (.iastore, 1) := by decide +kernel
theorem dX0_add_19 : decode cX0_add 19 = .ok (.aload_n 0, 1) := by decide +kernel
theorem dX0_add_20 : decode cX0_add 20 = .ok (.getfield 19, 3) := by decide +kernel
theorem dX0_add_23 : decode cX0_add 23 = .ok (.aload_n 0, 1) := by decide +kernel
theorem dX0_add_24 : decode cX0_add 24 = .ok (.getfield 9, 3) := by decide +kernel
theorem dX0_add_27 : decode cX0_add 27 = .ok (.iload_n 2, 1) := by decide +kernel
theorem dX0_add_28 : decode cX0_add 28 = .ok (.iastore, 1) := by decide +kernel
theorem dX0_add_29 : decode cX0_add 29 = .ok (.aload_n 0, 1) := by decide +kernel
theorem dX0_add_30 : decode cX0_add 30 = .ok (.dup, 1) := by decide +kernel
theorem dX0_add_31 : decode cX0_add 31 = .ok (.getfield 9, 3) := by decide +kernel
theorem dX0_add_34 : decode cX0_add 34 = .ok (.iconst 1, 1) := by decide +kernel
theorem dX0_add_35 : decode cX0_add 35 = .ok (.iadd, 1) := by decide +kernel
theorem dX0_add_36 : decode cX0_add 36 = .ok (.putfield 9, 3) := by decide +kernel
theorem dX0_add_39 : decode cX0_add 39 = .ok (.return_, 1) := by decide +kernel
theorem dX0_fewest_0 : decode cX0_fewest 0 = .ok (.aload_n 0, 1) := by decide +kernel
theorem dX0_fewest_1 : decode cX0_fewest 1 = .ok (.getfield 15, 3) := by decide +kernel
theorem dX0_fewest_4 : decode cX0_fewest 4 = .ok (.aload_n 0, 1) := by decide +kernel
theorem dX0_fewest_5 : decode cX0_fewest 5 = .ok (.getfield 19, 3) := by decide +kernel
theorem dX0_fewest_8 : decode cX0_fewest 8 = .ok (.aload_n 0, 1) := by decide +kernel
theorem dX0_fewest_9 : decode cX0_fewest 9 = .ok (.getfield 9, 3) := by decide +kernel
theorem dX0_fewest_12 : decode cX0_fewest 12 = .ok (.iconst 0, 1) := by decide +kernel
theorem dX0_fewest_13 : decode cX0_fewest 13 = .ok (.invokestatic 22, 3) := by decide +kernel
theorem dX0_fewest_16 : decode cX0_fewest 16 = .ok (.istore_n 1, 1) := by decide +kernel
theorem dX0_fewest_17 : decode cX0_fewest 17 = .ok (.iload_n 1, 1) := by decide +kernel
theorem dX0_fewest_18 : decode cX0_fewest 18 = .ok (.bipush 100, 2) := by decide +kernel
theorem dX0_fewest_20 : decode cX0_fewest 20 = .ok (.if_icmp .ge 7, 3) := by decide +kernel
theorem dX0_fewest_23 : decode cX0_fewest 23 = .ok (.iload_n 1, 1) := by decide +kernel
theorem dX0_fewest_24 : decode cX0_fewest 24 = .ok (.goto 5, 3) := by decide +kernel
theorem dX0_fewest_27 : decode cX0_fewest 27 = .ok (.bipush (-9), 2) := by decide +kernel
theorem dX0_fewest_29 : decode cX0_fewest 29 = .ok (.ireturn, 1) := by decide +kernel
theorem dX0_fewestFrom_0 : decode cX0_fewestFrom 0 = .ok (.iload_n 3, 1) := by decide +kernel
theorem dX0_fewestFrom_1 : decode cX0_fewestFrom 1 = .ok (.istore 4, 2) := by decide +kernel
theorem dX0_fewestFrom_3 : decode cX0_fewestFrom 3 = .ok (.iload 4, 2) := by decide +kernel
theorem dX0_fewestFrom_5 : decode cX0_fewestFrom 5 = .ok (.iload_n 2, 1) := by decide +kernel
theorem dX0_fewestFrom_6 : decode cX0_fewestFrom 6 = .ok (.if_icmp .ge 20, 3) := by decide +kernel
theorem dX0_fewestFrom_9 : decode cX0_fewestFrom 9 = .ok (.aload_n 0, 1) := by decide +kernel
theorem dX0_fewestFrom_10 : decode cX0_fewestFrom 10 = .ok (.iload 4, 2) := by decide +kernel
theorem dX0_fewestFrom_12 : decode cX0_fewestFrom 12 = .ok (.iaload, 1) := by decide +kernel
theorem dX0_fewestFrom_13 : decode cX0_fewestFrom 13 = .ok (.aload_n 1, 1) := by decide +kernel
theorem dX0_fewestFrom_14 : decode cX0_fewestFrom 14 = .ok (.iload 4, 2) := by decide +kernel
theorem dX0_fewestFrom_16 : decode cX0_fewestFrom 16 = .ok (.iaload, 1) := by decide +kernel
theorem dX0_fewestFrom_17 : decode cX0_fewestFrom 17 = .ok (.if_icmp .ne 9, 3) := by decide +kernel
theorem dX0_fewestFrom_20 : decode cX0_fewestFrom 20 = .ok (.iinc 4 1, 3) := by decide +kernel
theorem dX0_fewestFrom_23 : decode cX0_fewestFrom 23 = .ok (.goto (-20), 3) := by decide +kernel
theorem dX0_fewestFrom_26 : decode cX0_fewestFrom 26 = .ok (.iload 4, 2) := by decide +kernel
theorem dX0_fewestFrom_28 : decode cX0_fewestFrom 28 = .ok (.iload_n 2, 1) := by decide +kernel
theorem dX0_fewestFrom_29 : decode cX0_fewestFrom 29 = .ok (.if_icmp .lt 5, 3) := by decide +kernel
theorem dX0_fewestFrom_32 : decode cX0_fewestFrom 32 = .ok (.iconst 0, 1) := by decide +kernel
theorem dX0_fewestFrom_33 : decode cX0_fewestFrom 33 = .ok (.ireturn, 1) := by decide +kernel
theorem dX0_fewestFrom_34 : decode cX0_fewestFrom 34 = .ok (.bipush 100, 2) := by decide +kernel
theorem dX0_fewestFrom_36 : decode cX0_fewestFrom 36 = .ok (.istore 5, 2) := by decide +kernel
theorem dX0_fewestFrom_38 : decode cX0_fewestFrom 38 = .ok (.iload 4, 2) := by decide +kernel
theorem dX0_fewestFrom_40 : decode cX0_fewestFrom 40 = .ok (.iconst 1, 1) := by decide +kernel
theorem dX0_fewestFrom_41 : decode cX0_fewestFrom 41 = .ok (.iadd, 1) := by decide +kernel
theorem dX0_fewestFrom_42 : decode cX0_fewestFrom 42 = .ok (.istore 6, 2) := by decide +kernel
theorem dX0_fewestFrom_44 : decode cX0_fewestFrom 44 = .ok (.iload 6, 2) := by decide +kernel
theorem dX0_fewestFrom_46 : decode cX0_fewestFrom 46 = .ok (.iload_n 2, 1) := by decide +kernel
theorem dX0_fewestFrom_47 : decode cX0_fewestFrom 47 = .ok (.if_icmp .ge 66, 3) := by decide +kernel
theorem dX0_fewestFrom_50 : decode cX0_fewestFrom 50 = .ok (.aload_n 0, 1) := by decide +kernel
theorem dX0_fewestFrom_51 : decode cX0_fewestFrom 51 = .ok (.iload 6, 2) := by decide +kernel
theorem dX0_fewestFrom_53 : decode cX0_fewestFrom 53 = .ok (.iaload, 1) := by decide +kernel
theorem dX0_fewestFrom_54 : decode cX0_fewestFrom 54 = .ok (.aload_n 1, 1) := by decide +kernel
theorem dX0_fewestFrom_55 : decode cX0_fewestFrom 55 = .ok (.iload 4, 2) := by decide +kernel
theorem dX0_fewestFrom_57 : decode cX0_fewestFrom 57 = .ok (.iaload, 1) := by decide +kernel
theorem dX0_fewestFrom_58 : decode cX0_fewestFrom 58 = .ok (.if_icmp .ne 49, 3) := by decide +kernel
theorem dX0_fewestFrom_61 : decode cX0_fewestFrom 61 = .ok (.aload_n 0, 1) := by decide +kernel
theorem dX0_fewestFrom_62 : decode cX0_fewestFrom 62 = .ok (.iload 6, 2) := by decide +kernel
theorem dX0_fewestFrom_64 : decode cX0_fewestFrom 64 = .ok (.iaload, 1) := by decide +kernel
theorem dX0_fewestFrom_65 : decode cX0_fewestFrom 65 = .ok (.aload_n 1, 1) := by decide +kernel
theorem dX0_fewestFrom_66 : decode cX0_fewestFrom 66 = .ok (.iload 6, 2) := by decide +kernel
theorem dX0_fewestFrom_68 : decode cX0_fewestFrom 68 = .ok (.iaload, 1) := by decide +kernel
theorem dX0_fewestFrom_69 : decode cX0_fewestFrom 69 = .ok (.if_icmp .eq 38, 3) := by decide +kernel
theorem dX0_fewestFrom_72 : decode cX0_fewestFrom 72 = .ok (.aload_n 0, 1) := by decide +kernel
theorem dX0_fewestFrom_73 : decode cX0_fewestFrom 73 = .ok (.iload 4, 2) := by decide +kernel
theorem dX0_fewestFrom_75 : decode cX0_fewestFrom 75 = .ok (.iload 6, 2) := by decide +kernel
theorem dX0_fewestFrom_77 : decode cX0_fewestFrom 77 = .ok (.invokestatic 26, 3) := by decide +kernel
theorem dX0_fewestFrom_80 : decode cX0_fewestFrom 80 = .ok (.iload 5, 2) := by decide +kernel
theorem dX0_fewestFrom_82 : decode cX0_fewestFrom 82 = .ok (.iconst 1, 1) := by decide +kernel
theorem dX0_fewestFrom_83 : decode cX0_fewestFrom 83 = .ok (.aload_n 0, 1) := by decide +kernel
theorem dX0_fewestFrom_84 : decode cX0_fewestFrom 84 = .ok (.aload_n 1, 1) := by decide +kernel
theorem dX0_fewestFrom_85 : decode cX0_fewestFrom 85 = .ok (.iload_n 2, 1) := by decide +kernel
theorem dX0_fewestFrom_86 : decode cX0_fewestFrom 86 = .ok (.iload 4, 2) := by decide +kernel
theorem dX0_fewestFrom_88 : decode cX0_fewestFrom 88 = .ok (.iconst 1, 1) := by decide +kernel
theorem dX0_fewestFrom_89 : decode cX0_fewestFrom 89 = .ok (.iadd, 1) := by decide +kernel
theorem dX0_fewestFrom_90 : decode cX0_fewestFrom 90 = .ok (.invokestatic 22, 3) := by decide +kernel
theorem dX0_fewestFrom_93 : decode cX0_fewestFrom 93 = .ok (.iadd, 1) := by decide +kernel
theorem dX0_fewestFrom_94 : decode cX0_fewestFrom 94 = .ok (.invokestatic 30, 3) := by decide +kernel
theorem dX0_fewestFrom_97 : decode cX0_fewestFrom 97 = .ok (.istore 5, 2) := by decide +kernel
theorem dX0_fewestFrom_99 : decode cX0_fewestFrom 99 = .ok (.aload_n 0, 1) := by decide +kernel
theorem dX0_fewestFrom_100 : decode cX0_fewestFrom 100 = .ok (.iload 4, 2) := by decide +kernel
theorem dX0_fewestFrom_102 : decode cX0_fewestFrom 102 = .ok (.iload 6, 2) := by decide +kernel
theorem dX0_fewestFrom_104 : decode cX0_fewestFrom 104 = .ok (.invokestatic 26, 3) := by decide +kernel
theorem dX0_fewestFrom_107 : decode cX0_fewestFrom 107 = .ok (.iinc 6 1, 3) := by decide +kernel
theorem dX0_fewestFrom_110 : decode cX0_fewestFrom 110 = .ok (.goto (-66), 3) := by decide +kernel
theorem dX0_fewestFrom_113 : decode cX0_fewestFrom 113 = .ok (.iload 5, 2) := by decide +kernel
theorem dX0_fewestFrom_115 : decode cX0_fewestFrom 115 = .ok (.ireturn, 1) := by decide +kernel
theorem dX0_exchange_0 : decode cX0_exchange 0 = .ok (.aload_n 0, 1) := by decide +kernel
theorem dX0_exchange_1 : decode cX0_exchange 1 = .ok (.iload_n 1, 1) := by decide +kernel
theorem dX0_exchange_2 : decode cX0_exchange 2 = .ok (.iaload, 1) := by decide +kernel
theorem dX0_exchange_3 : decode cX0_exchange 3 = .ok (.istore_n 3, 1) := by decide +kernel
theorem dX0_exchange_4 : decode cX0_exchange 4 = .ok (.aload_n 0, 1) := by decide +kernel
theorem dX0_exchange_5 : decode cX0_exchange 5 = .ok (.iload_n 1, 1) := by decide +kernel
theorem dX0_exchange_6 : decode cX0_exchange 6 = .ok (.aload_n 0, 1) := by decide +kernel
theorem dX0_exchange_7 : decode cX0_exchange 7 = .ok (.iload_n 2, 1) := by decide +kernel
theorem dX0_exchange_8 : decode cX0_exchange 8 = .ok (.iaload, 1) := by decide +kernel
theorem dX0_exchange_9 : decode cX0_exchange 9 = .ok (.iastore, 1) := by decide +kernel
theorem dX0_exchange_10 : decode cX0_exchange 10 = .ok (.aload_n 0, 1) := by decide +kernel
theorem dX0_exchange_11 : decode cX0_exchange 11 = .ok (.iload_n 2, 1) := by decide +kernel
theorem dX0_exchange_12 : decode cX0_exchange 12 = .ok (.iload_n 3, 1) := by decide +kernel
theorem dX0_exchange_13 : decode cX0_exchange 13 = .ok (.iastore, 1) := by decide +kernel
theorem dX0_exchange_14 : decode cX0_exchange 14 = .ok (.return_, 1) := by decide +kernel
theorem dX1_init_0 : decode cX1_init 0 = .ok (.aload_n 0, 1) := by decide +kernel
theorem dX1_init_1 : decode cX1_init 1 = .ok (.invokespecial 3, 3) := by decide +kernel
theorem dX1_init_4 : decode cX1_init 4 = .ok (.aload_n 0, 1) := by decide +kernel
theorem dX1_init_5 : decode cX1_init 5 = .ok (.iconst 0, 1) := by decide +kernel
theorem dX1_init_6 : decode cX1_init 6 = .ok (.putfield 9, 3) := by decide +kernel
theorem dX1_init_9 : decode cX1_init 9 = .ok (.aload_n 0, 1) := by decide +kernel
theorem dX1_init_10 : decode cX1_init 10 = .ok (.bipush 12, 2) := by decide +kernel
theorem dX1_init_12 : decode cX1_init 12 = .ok (.newarray .int, 2) := by decide +kernel
theorem dX1_init_14 : decode cX1_init 14 = .ok (.putfield 15, 3) := by decide +kernel
theorem dX1_init_17 : decode cX1_init 17 = .ok (.aload_n 0, 1) := by decide +kernel
theorem dX1_init_18 : decode cX1_init 18 = .ok (.bipush 12, 2) := by decide +kernel
theorem dX1_init_20 : decode cX1_init 20 = .ok (.newarray .int, 2) := by decide +kernel
theorem dX1_init_22 : decode cX1_init 22 = .ok (.putfield 19, 3) := by decide +kernel
theorem dX1_init_25 : decode cX1_init 25 = .ok (.aload_n 0, 1) := by decide +kernel
theorem dX1_init_26 : decode cX1_init 26 = .ok (.bipush 12, 2) := by decide +kernel
theorem dX1_init_28 : decode cX1_init 28 = .ok (.newarray .int, 2) := by decide +kernel
theorem dX1_init_30 : decode cX1_init 30 = .ok (.putfield 22, 3) := by decide +kernel
theorem dX1_init_33 : decode cX1_init 33 = .ok (.aload_n 0, 1) := by decide +kernel
theorem dX1_init_34 : decode cX1_init 34 = .ok (.bipush 12, 2) := by decide +kernel
theorem dX1_init_36 : decode cX1_init 36 = .ok (.newarray .int, 2) := by decide +kernel
theorem dX1_init_38 : decode cX1_init 38 = .ok (.putfield 25, 3) := by decide +kernel
theorem dX1_init_41 : decode cX1_init 41 = .ok (.aload_n 0, 1) := by decide +kernel
theorem dX1_init_42 : decode cX1_init 42 = .ok (.bipush 6, 2) := by decide +kernel
theorem dX1_init_44 : decode cX1_init 44 = .ok (.newarray .int, 2) := by decide +kernel
theorem dX1_init_46 : decode cX1_init 46 = .ok (.putfield 28, 3) := by decide +kernel
theorem dX1_init_49 : decode cX1_init 49 = .ok (.aload_n 0, 1) := by decide +kernel
theorem dX1_init_50 : decode cX1_init 50 = .ok (.getfield 28, 3) := by decide +kernel
theorem dX1_init_53 : decode cX1_init 53 = .ok (.bipush (-9), 2) := by decide +kernel
theorem dX1_init_55 : decode cX1_init 55 = .ok (.invokestatic 31, 3) := by decide +kernel
theorem dX1_init_58 : decode cX1_init 58 = .ok (.return_, 1) := by decide +kernel
theorem dX1_forget_0 : decode cX1_forget 0 = .ok (.aload_n 0, 1) := by decide +kernel
theorem dX1_forget_1 : decode cX1_forget 1 = .ok (.iconst 0, 1) := by decide +kernel
theorem dX1_forget_2 : decode cX1_forget 2 = .ok (.putfield 9, 3) := by decide +kernel
theorem dX1_forget_5 : decode cX1_forget 5 = .ok (.aload_n 0, 1) := by decide +kernel
theorem dX1_forget_6 : decode cX1_forget 6 = .ok (.getfield 28, 3) := by decide +kernel
theorem dX1_forget_9 : decode cX1_forget 9 = .ok (.bipush (-9), 2) := by decide +kernel
theorem dX1_forget_11 : decode cX1_forget 11 = .ok (.invokestatic 31, 3) := by decide +kernel
theorem dX1_forget_14 : decode cX1_forget 14 = .ok (.return_, 1) := by decide +kernel
theorem dX1_become_0 : decode cX1_become 0 = .ok (.aload_n 0, 1) := by decide +kernel
theorem dX1_become_1 : decode cX1_become 1 = .ok (.aload_n 1, 1) := by decide +kernel
theorem dX1_become_2 : decode cX1_become 2 = .ok (.getfield 9, 3) := by decide +kernel
theorem dX1_become_5 : decode cX1_become 5 = .ok (.putfield 9, 3) := by decide +kernel
theorem dX1_become_8 : decode cX1_become 8 = .ok (.aload_n 1, 1) := by decide +kernel
theorem dX1_become_9 : decode cX1_become 9 = .ok (.getfield 15, 3) := by decide +kernel
theorem dX1_become_12 : decode cX1_become 12 = .ok (.iconst 0, 1) := by decide +kernel
theorem dX1_become_13 : decode cX1_become 13 = .ok (.aload_n 0, 1) := by decide +kernel
theorem dX1_become_14 : decode cX1_become 14 = .ok (.getfield 15, 3) := by decide +kernel
theorem dX1_become_17 : decode cX1_become 17 = .ok (.iconst 0, 1) := by decide +kernel
theorem dX1_become_18 : decode cX1_become 18 = .ok (.bipush 12, 2) := by decide +kernel
theorem dX1_become_20 : decode cX1_become 20 = .ok (.invokestatic 37, 3) := by decide +kernel
theorem dX1_become_23 : decode cX1_become 23 = .ok (.aload_n 1, 1) := by decide +kernel
theorem dX1_become_24 : decode cX1_become 24 = .ok (.getfield 19, 3) := by decide +kernel
theorem dX1_become_27 : decode cX1_become 27 = .ok (.iconst 0, 1) := by decide +kernel
theorem dX1_become_28 : decode cX1_become 28 = .ok (.aload_n 0, 1) := by decide +kernel
theorem dX1_become_29 : decode cX1_become 29 = .ok (.getfield 19, 3) := by decide +kernel
theorem dX1_become_32 : decode cX1_become 32 = .ok (.iconst 0, 1) := by decide +kernel
theorem dX1_become_33 : decode cX1_become 33 = .ok (.bipush 12, 2) := by decide +kernel
theorem dX1_become_35 : decode cX1_become 35 = .ok (.invokestatic 37, 3) := by decide +kernel
theorem dX1_become_38 : decode cX1_become 38 = .ok (.aload_n 1, 1) := by decide +kernel
theorem dX1_become_39 : decode cX1_become 39 = .ok (.getfield 22, 3) := by decide +kernel
theorem dX1_become_42 : decode cX1_become 42 = .ok (.iconst 0, 1) := by decide +kernel
theorem dX1_become_43 : decode cX1_become 43 = .ok (.aload_n 0, 1) := by decide +kernel
theorem dX1_become_44 : decode cX1_become 44 = .ok (.getfield 22, 3) := by decide +kernel
theorem dX1_become_47 : decode cX1_become 47 = .ok (.iconst 0, 1) := by decide +kernel
theorem dX1_become_48 : decode cX1_become 48 = .ok (.bipush 12, 2) := by decide +kernel
theorem dX1_become_50 : decode cX1_become 50 = .ok (.invokestatic 37, 3) := by decide +kernel
theorem dX1_become_53 : decode cX1_become 53 = .ok (.aload_n 1, 1) := by decide +kernel
theorem dX1_become_54 : decode cX1_become 54 = .ok (.getfield 25, 3) := by decide +kernel
theorem dX1_become_57 : decode cX1_become 57 = .ok (.iconst 0, 1) := by decide +kernel
theorem dX1_become_58 : decode cX1_become 58 = .ok (.aload_n 0, 1) := by decide +kernel
theorem dX1_become_59 : decode cX1_become 59 = .ok (.getfield 25, 3) := by decide +kernel
theorem dX1_become_62 : decode cX1_become 62 = .ok (.iconst 0, 1) := by decide +kernel
theorem dX1_become_63 : decode cX1_become 63 = .ok (.bipush 12, 2) := by decide +kernel
theorem dX1_become_65 : decode cX1_become 65 = .ok (.invokestatic 37, 3) := by decide +kernel
theorem dX1_become_68 : decode cX1_become 68 = .ok (.aload_n 1, 1) := by decide +kernel
theorem dX1_become_69 : decode cX1_become 69 = .ok (.getfield 28, 3) := by decide +kernel
theorem dX1_become_72 : decode cX1_become 72 = .ok (.iconst 0, 1) := by decide +kernel
theorem dX1_become_73 : decode cX1_become 73 = .ok (.aload_n 0, 1) := by decide +kernel
theorem dX1_become_74 : decode cX1_become 74 = .ok (.getfield 28, 3) := by decide +kernel
theorem dX1_become_77 : decode cX1_become 77 = .ok (.iconst 0, 1) := by decide +kernel
theorem dX1_become_78 : decode cX1_become 78 = .ok (.bipush 6, 2) := by decide +kernel
theorem dX1_become_80 : decode cX1_become 80 = .ok (.invokestatic 37, 3) := by decide +kernel
theorem dX1_become_83 : decode cX1_become 83 = .ok (.return_, 1) := by decide +kernel
theorem dX1_add_0 : decode cX1_add 0 = .ok (.aload_n 0, 1) := by decide +kernel
theorem dX1_add_1 : decode cX1_add 1 = .ok (.getfield 15, 3) := by decide +kernel
theorem dX1_add_4 : decode cX1_add 4 = .ok (.aload_n 0, 1) := by decide +kernel
theorem dX1_add_5 : decode cX1_add 5 = .ok (.getfield 9, 3) := by decide +kernel
theorem dX1_add_8 : decode cX1_add 8 = .ok (.iload_n 1, 1) := by decide +kernel
theorem dX1_add_9 : decode cX1_add 9 = .ok (.iastore, 1) := by decide +kernel
theorem dX1_add_10 : decode cX1_add 10 = .ok (.aload_n 0, 1) := by decide +kernel
theorem dX1_add_11 : decode cX1_add 11 = .ok (.getfield 19, 3) := by decide +kernel
theorem dX1_add_14 : decode cX1_add 14 = .ok (.aload_n 0, 1) := by decide +kernel
theorem dX1_add_15 : decode cX1_add 15 = .ok (.getfield 9, 3) := by decide +kernel
theorem dX1_add_18 : decode cX1_add 18 = .ok (.iload_n 2, 1) := by decide +kernel
theorem dX1_add_19 : decode cX1_add 19 = .ok (.iastore, 1) := by decide +kernel
theorem dX1_add_20 : decode cX1_add 20 = .ok (.aload_n 0, 1) := by decide +kernel
theorem dX1_add_21 : decode cX1_add 21 = .ok (.getfield 22, 3) := by decide +kernel
theorem dX1_add_24 : decode cX1_add 24 = .ok (.aload_n 0, 1) := by decide +kernel
theorem dX1_add_25 : decode cX1_add 25 = .ok (.getfield 9, 3) := by decide +kernel
theorem dX1_add_28 : decode cX1_add 28 = .ok (.iload_n 3, 1) := by decide +kernel
theorem dX1_add_29 : decode cX1_add 29 = .ok (.iastore, 1) := by decide +kernel
theorem dX1_add_30 : decode cX1_add 30 = .ok (.aload_n 0, 1) := by decide +kernel
theorem dX1_add_31 : decode cX1_add 31 = .ok (.getfield 25, 3) := by decide +kernel
theorem dX1_add_34 : decode cX1_add 34 = .ok (.aload_n 0, 1) := by decide +kernel
theorem dX1_add_35 : decode cX1_add 35 = .ok (.getfield 9, 3) := by decide +kernel
theorem dX1_add_38 : decode cX1_add 38 = .ok (.iload 4, 2) := by decide +kernel
theorem dX1_add_40 : decode cX1_add 40 = .ok (.iastore, 1) := by decide +kernel
theorem dX1_add_41 : decode cX1_add 41 = .ok (.aload_n 0, 1) := by decide +kernel
theorem dX1_add_42 : decode cX1_add 42 = .ok (.dup, 1) := by decide +kernel
theorem dX1_add_43 : decode cX1_add 43 = .ok (.getfield 9, 3) := by decide +kernel
theorem dX1_add_46 : decode cX1_add 46 = .ok (.iconst 1, 1) := by decide +kernel
theorem dX1_add_47 : decode cX1_add 47 = .ok (.iadd, 1) := by decide +kernel
theorem dX1_add_48 : decode cX1_add 48 = .ok (.putfield 9, 3) := by decide +kernel
theorem dX1_add_51 : decode cX1_add 51 = .ok (.return_, 1) := by decide +kernel
theorem dX1_holdsOf_0 : decode cX1_holdsOf 0 = .ok (.iconst 0, 1) := by decide +kernel
theorem dX1_holdsOf_1 : decode cX1_holdsOf 1 = .ok (.istore_n 2, 1) := by decide +kernel
theorem dX1_holdsOf_2 : decode cX1_holdsOf 2 = .ok (.iconst 0, 1) := by decide +kernel
theorem dX1_holdsOf_3 : decode cX1_holdsOf 3 = .ok (.istore_n 3, 1) := by decide +kernel
theorem dX1_holdsOf_4 : decode cX1_holdsOf 4 = .ok (.iload_n 3, 1) := by decide +kernel
theorem dX1_holdsOf_5 : decode cX1_holdsOf 5 = .ok (.aload_n 0, 1) := by decide +kernel
theorem dX1_holdsOf_6 : decode cX1_holdsOf 6 = .ok (.getfield 9, 3) := by decide +kernel
theorem dX1_holdsOf_9 : decode cX1_holdsOf 9 = .ok (.if_icmp .ge 22, 3) := by decide +kernel
theorem dX1_holdsOf_12 : decode cX1_holdsOf 12 = .ok (.aload_n 0, 1) := by decide +kernel
theorem dX1_holdsOf_13 : decode cX1_holdsOf 13 = .ok (.getfield 19, 3) := by decide +kernel
theorem dX1_holdsOf_16 : decode cX1_holdsOf 16 = .ok (.iload_n 3, 1) := by decide +kernel
theorem dX1_holdsOf_17 : decode cX1_holdsOf 17 = .ok (.iaload, 1) := by decide +kernel
theorem dX1_holdsOf_18 : decode cX1_holdsOf 18 = .ok (.iload_n 1, 1) := by decide +kernel
theorem dX1_holdsOf_19 : decode cX1_holdsOf 19 = .ok (.if_icmp .ne 6, 3) := by decide +kernel
theorem dX1_holdsOf_22 : decode cX1_holdsOf 22 = .ok (.iinc 2 1, 3) := by decide +kernel
theorem dX1_holdsOf_25 : decode cX1_holdsOf 25 = .ok (.iinc 3 1, 3) := by decide +kernel
theorem dX1_holdsOf_28 : decode cX1_holdsOf 28 = .ok (.goto (-24), 3) := by decide +kernel
theorem dX1_holdsOf_31 : decode cX1_holdsOf 31 = .ok (.iload_n 2, 1) := by decide +kernel
theorem dX1_holdsOf_32 : decode cX1_holdsOf 32 = .ok (.ireturn, 1) := by decide +kernel
theorem dX1_sightsTold_0 : decode cX1_sightsTold 0 = .ok (.iconst 0, 1) := by decide +kernel
theorem dX1_sightsTold_1 : decode cX1_sightsTold 1 = .ok (.istore_n 1, 1) := by decide +kernel
theorem dX1_sightsTold_2 : decode cX1_sightsTold 2 = .ok (.iconst 0, 1) := by decide +kernel
theorem dX1_sightsTold_3 : decode cX1_sightsTold 3 = .ok (.istore_n 2, 1) := by decide +kernel
theorem dX1_sightsTold_4 : decode cX1_sightsTold 4 = .ok (.iload_n 2, 1) := by decide +kernel
theorem dX1_sightsTold_5 : decode cX1_sightsTold 5 = .ok (.bipush 6, 2) := by decide +kernel
theorem dX1_sightsTold_7 : decode cX1_sightsTold 7 = .ok (.if_icmp .ge 23, 3) := by decide +kernel
theorem dX1_sightsTold_10 : decode cX1_sightsTold 10 = .ok (.aload_n 0, 1) := by decide +kernel
theorem dX1_sightsTold_11 : decode cX1_sightsTold 11 = .ok (.getfield 28, 3) := by decide +kernel
theorem dX1_sightsTold_14 : decode cX1_sightsTold 14 = .ok (.iload_n 2, 1) := by decide +kernel
theorem dX1_sightsTold_15 : decode cX1_sightsTold 15 = .ok (.iaload, 1) := by decide +kernel
theorem dX1_sightsTold_16 : decode cX1_sightsTold 16 = .ok (.bipush (-9), 2) := by decide +kernel
theorem dX1_sightsTold_18 : decode cX1_sightsTold 18 = .ok (.if_icmp .eq 6, 3) := by decide +kernel
theorem dX1_sightsTold_21 : decode cX1_sightsTold 21 = .ok (.iinc 1 1, 3) := by decide +kernel
theorem dX1_sightsTold_24 : decode cX1_sightsTold 24 = .ok (.iinc 2 1, 3) := by decide +kernel
theorem dX1_sightsTold_27 : decode cX1_sightsTold 27 = .ok (.goto (-23), 3) := by decide +kernel
theorem dX1_sightsTold_30 : decode cX1_sightsTold 30 = .ok (.iload_n 1, 1) := by decide +kernel
theorem dX1_sightsTold_31 : decode cX1_sightsTold 31 = .ok (.ireturn, 1) := by decide +kernel
theorem dX2_init_0 : decode cX2_init 0 = .ok (.aload_n 0, 1) := by decide +kernel
theorem dX2_init_1 : decode cX2_init 1 = .ok (.invokespecial 3, 3) := by decide +kernel
theorem dX2_init_4 : decode cX2_init 4 = .ok (.aload_n 0, 1) := by decide +kernel
theorem dX2_init_5 : decode cX2_init 5 = .ok (.iconst 0, 1) := by decide +kernel
theorem dX2_init_6 : decode cX2_init 6 = .ok (.putfield 9, 3) := by decide +kernel
theorem dX2_init_9 : decode cX2_init 9 = .ok (.aload_n 0, 1) := by decide +kernel
theorem dX2_init_10 : decode cX2_init 10 = .ok (.iconst 0, 1) := by decide +kernel
theorem dX2_init_11 : decode cX2_init 11 = .ok (.putfield 15, 3) := by decide +kernel
theorem dX2_init_14 : decode cX2_init 14 = .ok (.aload_n 0, 1) := by decide +kernel
theorem dX2_init_15 : decode cX2_init 15 = .ok (.iconst 0, 1) := by decide +kernel
theorem dX2_init_16 : decode cX2_init 16 = .ok (.putfield 18, 3) := by decide +kernel
theorem dX2_init_19 : decode cX2_init 19 = .ok (.aload_n 0, 1) := by decide +kernel
theorem dX2_init_20 : decode cX2_init 20 = .ok (.bipush 6, 2) := by decide +kernel
theorem dX2_init_22 : decode cX2_init 22 = .ok (.newarray .int, 2) := by decide +kernel
theorem dX2_init_24 : decode cX2_init 24 = .ok (.putfield 21, 3) := by decide +kernel
theorem dX2_init_27 : decode cX2_init 27 = .ok (.aload_n 0, 1) := by decide +kernel
theorem dX2_init_28 : decode cX2_init 28 = .ok (.iconst 3, 1) := by decide +kernel
theorem dX2_init_29 : decode cX2_init 29 = .ok (.newarray .int, 2) := by decide +kernel
theorem dX2_init_31 : decode cX2_init 31 = .ok (.putfield 25, 3) := by decide +kernel
theorem dX2_init_34 : decode cX2_init 34 = .ok (.aload_n 0, 1) := by decide +kernel
theorem dX2_init_35 : decode cX2_init 35 = .ok (.bipush 10, 2) := by decide +kernel
theorem dX2_init_37 : decode cX2_init 37 = .ok (.newarray .int, 2) := by decide +kernel
theorem dX2_init_39 : decode cX2_init 39 = .ok (.putfield 28, 3) := by decide +kernel
theorem dX2_init_42 : decode cX2_init 42 = .ok (.aload_n 0, 1) := by decide +kernel
theorem dX2_init_43 : decode cX2_init 43 = .ok (.bipush 8, 2) := by decide +kernel
theorem dX2_init_45 : decode cX2_init 45 = .ok (.newarray .int, 2) := by decide +kernel
theorem dX2_init_47 : decode cX2_init 47 = .ok (.putfield 31, 3) := by decide +kernel
theorem dX2_init_50 : decode cX2_init 50 = .ok (.aload_n 0, 1) := by decide +kernel
theorem dX2_init_51 : decode cX2_init 51 = .ok (.bipush 8, 2) := by decide +kernel
theorem dX2_init_53 : decode cX2_init 53 = .ok (.newarray .int, 2) := by decide +kernel
theorem dX2_init_55 : decode cX2_init 55 = .ok (.putfield 34, 3) := by decide +kernel
theorem dX2_init_58 : decode cX2_init 58 = .ok (.aload_n 0, 1) := by decide +kernel
theorem dX2_init_59 : decode cX2_init 59 = .ok (.bipush 8, 2) := by decide +kernel
theorem dX2_init_61 : decode cX2_init 61 = .ok (.newarray .int, 2) := by decide +kernel
theorem dX2_init_63 : decode cX2_init 63 = .ok (.putfield 37, 3) := by decide +kernel
theorem dX2_init_66 : decode cX2_init 66 = .ok (.aload_n 0, 1) := by decide +kernel
theorem dX2_init_67 : decode cX2_init 67 = .ok (.getfield 28, 3) := by decide +kernel
theorem dX2_init_70 : decode cX2_init 70 = .ok (.iconst 1, 1) := by decide +kernel
theorem dX2_init_71 : decode cX2_init 71 = .ok (.invokestatic 40, 3) := by decide +kernel
theorem dX2_init_74 : decode cX2_init 74 = .ok (.return_, 1) := by decide +kernel
theorem dX2_empty_0 : decode cX2_empty 0 = .ok (.aload_n 0, 1) := by decide +kernel
theorem dX2_empty_1 : decode cX2_empty 1 = .ok (.iconst 0, 1) := by decide +kernel
theorem dX2_empty_2 : decode cX2_empty 2 = .ok (.putfield 9, 3) := by decide +kernel
theorem dX2_empty_5 : decode cX2_empty 5 = .ok (.aload_n 0, 1) := by decide +kernel
theorem dX2_empty_6 : decode cX2_empty 6 = .ok (.iconst 0, 1) := by decide +kernel
theorem dX2_empty_7 : decode cX2_empty 7 = .ok (.putfield 15, 3) := by decide +kernel
theorem dX2_empty_10 : decode cX2_empty 10 = .ok (.aload_n 0, 1) := by decide +kernel
theorem dX2_empty_11 : decode cX2_empty 11 = .ok (.iconst 0, 1) := by decide +kernel
theorem dX2_empty_12 : decode cX2_empty 12 = .ok (.putfield 18, 3) := by decide +kernel
theorem dX2_empty_15 : decode cX2_empty 15 = .ok (.aload_n 0, 1) := by decide +kernel
theorem dX2_empty_16 : decode cX2_empty 16 = .ok (.getfield 28, 3) := by decide +kernel
theorem dX2_empty_19 : decode cX2_empty 19 = .ok (.iconst 1, 1) := by decide +kernel
theorem dX2_empty_20 : decode cX2_empty 20 = .ok (.invokestatic 40, 3) := by decide +kernel
theorem dX2_empty_23 : decode cX2_empty 23 = .ok (.return_, 1) := by decide +kernel
theorem dX2_become_0 : decode cX2_become 0 = .ok (.aload_n 0, 1) := by decide +kernel
theorem dX2_become_1 : decode cX2_become 1 = .ok (.aload_n 1, 1) := by decide +kernel
theorem dX2_become_2 : decode cX2_become 2 = .ok (.getfield 9, 3) := by decide +kernel
theorem dX2_become_5 : decode cX2_become 5 = .ok (.putfield 9, 3) := by decide +kernel
theorem dX2_become_8 : decode cX2_become 8 = .ok (.aload_n 0, 1) := by decide +kernel
theorem dX2_become_9 : decode cX2_become 9 = .ok (.aload_n 1, 1) := by decide +kernel
theorem dX2_become_10 : decode cX2_become 10 = .ok (.getfield 15, 3) := by decide +kernel
theorem dX2_become_13 : decode cX2_become 13 = .ok (.putfield 15, 3) := by decide +kernel
theorem dX2_become_16 : decode cX2_become 16 = .ok (.aload_n 0, 1) := by decide +kernel
theorem dX2_become_17 : decode cX2_become 17 = .ok (.aload_n 1, 1) := by decide +kernel
theorem dX2_become_18 : decode cX2_become 18 = .ok (.getfield 18, 3) := by decide +kernel
theorem dX2_become_21 : decode cX2_become 21 = .ok (.putfield 18, 3) := by decide +kernel
theorem dX2_become_24 : decode cX2_become 24 = .ok (.aload_n 1, 1) := by decide +kernel
theorem dX2_become_25 : decode cX2_become 25 = .ok (.getfield 21, 3) := by decide +kernel
theorem dX2_become_28 : decode cX2_become 28 = .ok (.iconst 0, 1) := by decide +kernel
theorem dX2_become_29 : decode cX2_become 29 = .ok (.aload_n 0, 1) := by decide +kernel
theorem dX2_become_30 : decode cX2_become 30 = .ok (.getfield 21, 3) := by decide +kernel
theorem dX2_become_33 : decode cX2_become 33 = .ok (.iconst 0, 1) := by decide +kernel
theorem dX2_become_34 : decode cX2_become 34 = .ok (.bipush 6, 2) := by decide +kernel
theorem dX2_become_36 : decode cX2_become 36 = .ok (.invokestatic 46, 3) := by decide +kernel
theorem dX2_become_39 : decode cX2_become 39 = .ok (.aload_n 1, 1) := by decide +kernel
theorem dX2_become_40 : decode cX2_become 40 = .ok (.getfield 25, 3) := by decide +kernel
theorem dX2_become_43 : decode cX2_become 43 = .ok (.iconst 0, 1) := by decide +kernel
theorem dX2_become_44 : decode cX2_become 44 = .ok (.aload_n 0, 1) := by decide +kernel
theorem dX2_become_45 : decode cX2_become 45 = .ok (.getfield 25, 3) := by decide +kernel
theorem dX2_become_48 : decode cX2_become 48 = .ok (.iconst 0, 1) := by decide +kernel
theorem dX2_become_49 : decode cX2_become 49 = .ok (.iconst 3, 1) := by decide +kernel
theorem dX2_become_50 : decode cX2_become 50 = .ok (.invokestatic 46, 3) := by decide +kernel
theorem dX2_become_53 : decode cX2_become 53 = .ok (.aload_n 1, 1) := by decide +kernel
theorem dX2_become_54 : decode cX2_become 54 = .ok (.getfield 28, 3) := by decide +kernel
theorem dX2_become_57 : decode cX2_become 57 = .ok (.iconst 0, 1) := by decide +kernel
theorem dX2_become_58 : decode cX2_become 58 = .ok (.aload_n 0, 1) := by decide +kernel
theorem dX2_become_59 : decode cX2_become 59 = .ok (.getfield 28, 3) := by decide +kernel
theorem dX2_become_62 : decode cX2_become 62 = .ok (.iconst 0, 1) := by decide +kernel
theorem dX2_become_63 : decode cX2_become 63 = .ok (.bipush 10, 2) := by decide +kernel
theorem dX2_become_65 : decode cX2_become 65 = .ok (.invokestatic 46, 3) := by decide +kernel
theorem dX2_become_68 : decode cX2_become 68 = .ok (.aload_n 1, 1) := by decide +kernel
theorem dX2_become_69 : decode cX2_become 69 = .ok (.getfield 31, 3) := by decide +kernel
theorem dX2_become_72 : decode cX2_become 72 = .ok (.iconst 0, 1) := by decide +kernel
theorem dX2_become_73 : decode cX2_become 73 = .ok (.aload_n 0, 1) := by decide +kernel
theorem dX2_become_74 : decode cX2_become 74 = .ok (.getfield 31, 3) := by decide +kernel
theorem dX2_become_77 : decode cX2_become 77 = .ok (.iconst 0, 1) := by decide +kernel
theorem dX2_become_78 : decode cX2_become 78 = .ok (.bipush 8, 2) := by decide +kernel
theorem dX2_become_80 : decode cX2_become 80 = .ok (.invokestatic 46, 3) := by decide +kernel
theorem dX2_become_83 : decode cX2_become 83 = .ok (.aload_n 1, 1) := by decide +kernel
theorem dX2_become_84 : decode cX2_become 84 = .ok (.getfield 34, 3) := by decide +kernel
theorem dX2_become_87 : decode cX2_become 87 = .ok (.iconst 0, 1) := by decide +kernel
theorem dX2_become_88 : decode cX2_become 88 = .ok (.aload_n 0, 1) := by decide +kernel
theorem dX2_become_89 : decode cX2_become 89 = .ok (.getfield 34, 3) := by decide +kernel
theorem dX2_become_92 : decode cX2_become 92 = .ok (.iconst 0, 1) := by decide +kernel
theorem dX2_become_93 : decode cX2_become 93 = .ok (.bipush 8, 2) := by decide +kernel
theorem dX2_become_95 : decode cX2_become 95 = .ok (.invokestatic 46, 3) := by decide +kernel
theorem dX2_become_98 : decode cX2_become 98 = .ok (.aload_n 1, 1) := by decide +kernel
theorem dX2_become_99 : decode cX2_become 99 = .ok (.getfield 37, 3) := by decide +kernel
theorem dX2_become_102 : decode cX2_become 102 = .ok (.iconst 0, 1) := by decide +kernel
theorem dX2_become_103 : decode cX2_become 103 = .ok (.aload_n 0, 1) := by decide +kernel
theorem dX2_become_104 : decode cX2_become 104 = .ok (.getfield 37, 3) := by decide +kernel
theorem dX2_become_107 : decode cX2_become 107 = .ok (.iconst 0, 1) := by decide +kernel
theorem dX2_become_108 : decode cX2_become 108 = .ok (.bipush 8, 2) := by decide +kernel
theorem dX2_become_110 : decode cX2_become 110 = .ok (.invokestatic 46, 3) := by decide +kernel
theorem dX2_become_113 : decode cX2_become 113 = .ok (.return_, 1) := by decide +kernel
theorem dX2_hasBar_0 : decode cX2_hasBar 0 = .ok (.iload_n 1, 1) := by decide +kernel
theorem dX2_hasBar_1 : decode cX2_hasBar 1 = .ok (.iconst 0, 1) := by decide +kernel
theorem dX2_hasBar_2 : decode cX2_hasBar 2 = .ok (.aload_n 0, 1) := by decide +kernel
theorem dX2_hasBar_3 : decode cX2_hasBar 3 = .ok (.getfield 9, 3) := by decide +kernel
theorem dX2_hasBar_6 : decode cX2_hasBar 6 = .ok (.iconst 1, 1) := by decide +kernel
theorem dX2_hasBar_7 : decode cX2_hasBar 7 = .ok (.isub, 1) := by decide +kernel
theorem dX2_hasBar_8 : decode cX2_hasBar 8 = .ok (.invokestatic 52, 3) := by decide +kernel
theorem dX2_hasBar_11 : decode cX2_hasBar 11 = .ok (.ireturn, 1) := by decide +kernel
theorem dX2_hasPerson_0 : decode cX2_hasPerson 0 = .ok (.iload_n 1, 1) := by decide +kernel
theorem dX2_hasPerson_1 : decode cX2_hasPerson 1 = .ok (.iconst 0, 1) := by decide +kernel
theorem dX2_hasPerson_2 : decode cX2_hasPerson 2 = .ok (.aload_n 0, 1) := by decide +kernel
theorem dX2_hasPerson_3 : decode cX2_hasPerson 3 = .ok (.getfield 15, 3) := by decide +kernel
theorem dX2_hasPerson_6 : decode cX2_hasPerson 6 = .ok (.iconst 1, 1) := by decide +kernel
theorem dX2_hasPerson_7 : decode cX2_hasPerson 7 = .ok (.isub, 1) := by decide +kernel
theorem dX2_hasPerson_8 : decode cX2_hasPerson 8 = .ok (.invokestatic 52, 3) := by decide +kernel
theorem dX2_hasPerson_11 : decode cX2_hasPerson 11 = .ok (.ireturn, 1) := by decide +kernel
theorem dX2_addBar_0 : decode cX2_addBar 0 = .ok (.aload_n 0, 1) := by decide +kernel
theorem dX2_addBar_1 : decode cX2_addBar 1 = .ok (.getfield 21, 3) := by decide +kernel
theorem dX2_addBar_4 : decode cX2_addBar 4 = .ok (.aload_n 0, 1) := by decide +kernel
theorem dX2_addBar_5 : decode cX2_addBar 5 = .ok (.getfield 9, 3) := by decide +kernel
theorem dX2_addBar_8 : decode cX2_addBar 8 = .ok (.iload_n 1, 1) := by decide +kernel
theorem dX2_addBar_9 : decode cX2_addBar 9 = .ok (.iastore, 1) := by decide +kernel
theorem dX2_addBar_10 : decode cX2_addBar 10 = .ok (.aload_n 0, 1) := by decide +kernel
theorem dX2_addBar_11 : decode cX2_addBar 11 = .ok (.dup, 1) := by decide +kernel
theorem dX2_addBar_12 : decode cX2_addBar 12 = .ok (.getfield 9, 3) := by decide +kernel
theorem dX2_addBar_15 : decode cX2_addBar 15 = .ok (.iconst 1, 1) := by decide +kernel
theorem dX2_addBar_16 : decode cX2_addBar 16 = .ok (.iadd, 1) := by decide +kernel
theorem dX2_addBar_17 : decode cX2_addBar 17 = .ok (.putfield 9, 3) := by decide +kernel
theorem dX2_addBar_20 : decode cX2_addBar 20 = .ok (.return_, 1) := by decide +kernel
theorem dX2_addPerson_0 : decode cX2_addPerson 0 = .ok (.aload_n 0, 1) := by decide +kernel
theorem dX2_addPerson_1 : decode cX2_addPerson 1 = .ok (.getfield 25, 3) := by decide +kernel
theorem dX2_addPerson_4 : decode cX2_addPerson 4 = .ok (.aload_n 0, 1) := by decide +kernel
theorem dX2_addPerson_5 : decode cX2_addPerson 5 = .ok (.getfield 15, 3) := by decide +kernel
theorem dX2_addPerson_8 : decode cX2_addPerson 8 = .ok (.iload_n 1, 1) := by decide +kernel
theorem dX2_addPerson_9 : decode cX2_addPerson 9 = .ok (.iastore, 1) := by decide +kernel
theorem dX2_addPerson_10 : decode cX2_addPerson 10 = .ok (.aload_n 0, 1) := by decide +kernel
theorem dX2_addPerson_11 : decode cX2_addPerson 11 = .ok (.dup, 1) := by decide +kernel
theorem dX2_addPerson_12 : decode cX2_addPerson 12 = .ok (.getfield 15, 3) := by decide +kernel
theorem dX2_addPerson_15 : decode cX2_addPerson 15 = .ok (.iconst 1, 1) := by decide +kernel
theorem dX2_addPerson_16 : decode cX2_addPerson 16 = .ok (.iadd, 1) := by decide +kernel
theorem dX2_addPerson_17 : decode cX2_addPerson 17 = .ok (.putfield 15, 3) := by decide +kernel
theorem dX2_addPerson_20 : decode cX2_addPerson 20 = .ok (.return_, 1) := by decide +kernel
theorem dX2_addPaint_0 : decode cX2_addPaint 0 = .ok (.aload_n 0, 1) := by decide +kernel
theorem dX2_addPaint_1 : decode cX2_addPaint 1 = .ok (.getfield 31, 3) := by decide +kernel
theorem dX2_addPaint_4 : decode cX2_addPaint 4 = .ok (.aload_n 0, 1) := by decide +kernel
theorem dX2_addPaint_5 : decode cX2_addPaint 5 = .ok (.getfield 18, 3) := by decide +kernel
theorem dX2_addPaint_8 : decode cX2_addPaint 8 = .ok (.iload_n 1, 1) := by decide +kernel
theorem dX2_addPaint_9 : decode cX2_addPaint 9 = .ok (.iastore, 1) := by decide +kernel
theorem dX2_addPaint_10 : decode cX2_addPaint 10 = .ok (.aload_n 0, 1) := by decide +kernel
theorem dX2_addPaint_11 : decode cX2_addPaint 11 = .ok (.getfield 34, 3) := by decide +kernel
theorem dX2_addPaint_14 : decode cX2_addPaint 14 = .ok (.aload_n 0, 1) := by decide +kernel
theorem dX2_addPaint_15 : decode cX2_addPaint 15 = .ok (.getfield 18, 3) := by decide +kernel
theorem dX2_addPaint_18 : decode cX2_addPaint 18 = .ok (.iload_n 2, 1) := by decide +kernel
theorem dX2_addPaint_19 : decode cX2_addPaint 19 = .ok (.iastore, 1) := by decide +kernel
theorem dX2_addPaint_20 : decode cX2_addPaint 20 = .ok (.aload_n 0, 1) := by decide +kernel
theorem dX2_addPaint_21 : decode cX2_addPaint 21 = .ok (.getfield 37, 3) := by decide +kernel
theorem dX2_addPaint_24 : decode cX2_addPaint 24 = .ok (.aload_n 0, 1) := by decide +kernel
theorem dX2_addPaint_25 : decode cX2_addPaint 25 = .ok (.getfield 18, 3) := by decide +kernel
theorem dX2_addPaint_28 : decode cX2_addPaint 28 = .ok (.iload_n 3, 1) := by decide +kernel
theorem dX2_addPaint_29 : decode cX2_addPaint 29 = .ok (.iastore, 1) := by decide +kernel
theorem dX2_addPaint_30 : decode cX2_addPaint 30 = .ok (.aload_n 0, 1) := by decide +kernel
theorem dX2_addPaint_31 : decode cX2_addPaint 31 = .ok (.dup, 1) := by decide +kernel
theorem dX2_addPaint_32 : decode cX2_addPaint 32 = .ok (.getfield 18, 3) := by decide +kernel
theorem dX2_addPaint_35 : decode cX2_addPaint 35 = .ok (.iconst 1, 1) := by decide +kernel
theorem dX2_addPaint_36 : decode cX2_addPaint 36 = .ok (.iadd, 1) := by decide +kernel
theorem dX2_addPaint_37 : decode cX2_addPaint 37 = .ok (.putfield 18, 3) := by decide +kernel
theorem dX2_addPaint_40 : decode cX2_addPaint 40 = .ok (.return_, 1) := by decide +kernel
theorem dX2_isWet_0 : decode cX2_isWet 0 = .ok (.iconst 0, 1) := by decide +kernel
theorem dX2_isWet_1 : decode cX2_isWet 1 = .ok (.istore_n 3, 1) := by decide +kernel
theorem dX2_isWet_2 : decode cX2_isWet 2 = .ok (.iload_n 3, 1) := by decide +kernel
theorem dX2_isWet_3 : decode cX2_isWet 3 = .ok (.aload_n 0, 1) := by decide +kernel
theorem dX2_isWet_4 : decode cX2_isWet 4 = .ok (.getfield 18, 3) := by decide +kernel
theorem dX2_isWet_7 : decode cX2_isWet 7 = .ok (.if_icmp .ge 31, 3) := by decide +kernel
theorem dX2_isWet_10 : decode cX2_isWet 10 = .ok (.aload_n 0, 1) := by decide +kernel
theorem dX2_isWet_11 : decode cX2_isWet 11 = .ok (.getfield 31, 3) := by decide +kernel
theorem dX2_isWet_14 : decode cX2_isWet 14 = .ok (.iload_n 3, 1) := by decide +kernel
theorem dX2_isWet_15 : decode cX2_isWet 15 = .ok (.iaload, 1) := by decide +kernel
theorem dX2_isWet_16 : decode cX2_isWet 16 = .ok (.iload_n 1, 1) := by decide +kernel
theorem dX2_isWet_17 : decode cX2_isWet 17 = .ok (.if_icmp .ne 15, 3) := by decide +kernel
theorem dX2_isWet_20 : decode cX2_isWet 20 = .ok (.aload_n 0, 1) := by decide +kernel
theorem dX2_isWet_21 : decode cX2_isWet 21 = .ok (.getfield 34, 3) := by decide +kernel
theorem dX2_isWet_24 : decode cX2_isWet 24 = .ok (.iload_n 3, 1) := by decide +kernel
theorem dX2_isWet_25 : decode cX2_isWet 25 = .ok (.iaload, 1) := by decide +kernel
theorem dX2_isWet_26 : decode cX2_isWet 26 = .ok (.iload_n 2, 1) := by decide +kernel
theorem dX2_isWet_27 : decode cX2_isWet 27 = .ok (.if_icmp .ne 5, 3) := by decide +kernel
theorem dX2_isWet_30 : decode cX2_isWet 30 = .ok (.iconst 1, 1) := by decide +kernel
theorem dX2_isWet_31 : decode cX2_isWet 31 = .ok (.ireturn, 1) := by decide +kernel
theorem dX2_isWet_32 : decode cX2_isWet 32 = .ok (.iinc 3 1, 3) := by decide +kernel
theorem dX2_isWet_35 : decode cX2_isWet 35 = .ok (.goto (-33), 3) := by decide +kernel
theorem dX2_isWet_38 : decode cX2_isWet 38 = .ok (.iconst 0, 1) := by decide +kernel
theorem dX2_isWet_39 : decode cX2_isWet 39 = .ok (.ireturn, 1) := by decide +kernel
theorem dX2_isCovered_0 : decode cX2_isCovered 0 = .ok (.iconst 0, 1) := by decide +kernel
theorem dX2_isCovered_1 : decode cX2_isCovered 1 = .ok (.istore_n 3, 1) := by decide +kernel
theorem dX2_isCovered_2 : decode cX2_isCovered 2 = .ok (.iload_n 3, 1) := by decide +kernel
theorem dX2_isCovered_3 : decode cX2_isCovered 3 = .ok (.aload_n 0, 1) := by decide +kernel
theorem dX2_isCovered_4 : decode cX2_isCovered 4 = .ok (.getfield 18, 3) := by decide +kernel
theorem dX2_isCovered_7 : decode cX2_isCovered 7 = .ok (.if_icmp .ge 53, 3) := by decide +kernel
theorem dX2_isCovered_10 : decode cX2_isCovered 10 = .ok (.aload_n 0, 1) := by decide +kernel
theorem dX2_isCovered_11 : decode cX2_isCovered 11 = .ok (.getfield 34, 3) := by decide +kernel
theorem dX2_isCovered_14 : decode cX2_isCovered 14 = .ok (.iload_n 3, 1) := by decide +kernel
theorem dX2_isCovered_15 : decode cX2_isCovered 15 = .ok (.iaload, 1) := by decide +kernel
theorem dX2_isCovered_16 : decode cX2_isCovered 16 = .ok (.aload_n 0, 1) := by decide +kernel
theorem dX2_isCovered_17 : decode cX2_isCovered 17 = .ok (.getfield 37, 3) := by decide +kernel
theorem dX2_isCovered_20 : decode cX2_isCovered 20 = .ok (.iload_n 3, 1) := by decide +kernel
theorem dX2_isCovered_21 : decode cX2_isCovered 21 = .ok (.iaload, 1) := by decide +kernel
theorem dX2_isCovered_22 : decode cX2_isCovered 22 = .ok (.iadd, 1) := by decide +kernel
theorem dX2_isCovered_23 : decode cX2_isCovered 23 = .ok (.iconst 1, 1) := by decide +kernel
theorem dX2_isCovered_24 : decode cX2_isCovered 24 = .ok (.isub, 1) := by decide +kernel
theorem dX2_isCovered_25 : decode cX2_isCovered 25 = .ok (.istore 4, 2) := by decide +kernel
theorem dX2_isCovered_27 : decode cX2_isCovered 27 = .ok (.aload_n 0, 1) := by decide +kernel
theorem dX2_isCovered_28 : decode cX2_isCovered 28 = .ok (.getfield 31, 3) := by decide +kernel
theorem dX2_isCovered_31 : decode cX2_isCovered 31 = .ok (.iload_n 3, 1) := by decide +kernel
theorem dX2_isCovered_32 : decode cX2_isCovered 32 = .ok (.iaload, 1) := by decide +kernel
theorem dX2_isCovered_33 : decode cX2_isCovered 33 = .ok (.iload_n 1, 1) := by decide +kernel
theorem dX2_isCovered_34 : decode cX2_isCovered 34 = .ok (.if_icmp .ne 20, 3) := by decide +kernel
theorem dX2_isCovered_37 : decode cX2_isCovered 37 = .ok (.iload_n 2, 1) := by decide +kernel
theorem dX2_isCovered_38 : decode cX2_isCovered 38 = .ok (.aload_n 0, 1) := by decide +kernel
theorem dX2_isCovered_39 : decode cX2_isCovered 39 = .ok (.getfield 34, 3) := by decide +kernel
theorem dX2_isCovered_42 : decode cX2_isCovered 42 = .ok (.iload_n 3, 1) := by decide +kernel
theorem dX2_isCovered_43 : decode cX2_isCovered 43 = .ok (.iaload, 1) := by decide +kernel
theorem dX2_isCovered_44 : decode cX2_isCovered 44 = .ok (.iload 4, 2) := by decide +kernel
theorem dX2_isCovered_46 : decode cX2_isCovered 46 = .ok (.invokestatic 52, 3) := by decide +kernel
theorem dX2_isCovered_49 : decode cX2_isCovered 49 = .ok (.ifCond .eq 5, 3) := by decide +kernel
theorem dX2_isCovered_52 : decode cX2_isCovered 52 = .ok (.iconst 1, 1) := by decide +kernel
theorem dX2_isCovered_53 : decode cX2_isCovered 53 = .ok (.ireturn, 1) := by decide +kernel
theorem dX2_isCovered_54 : decode cX2_isCovered 54 = .ok (.iinc 3 1, 3) := by decide +kernel
theorem dX2_isCovered_57 : decode cX2_isCovered 57 = .ok (.goto (-55), 3) := by decide +kernel
theorem dX2_isCovered_60 : decode cX2_isCovered 60 = .ok (.iconst 0, 1) := by decide +kernel
theorem dX2_isCovered_61 : decode cX2_isCovered 61 = .ok (.ireturn, 1) := by decide +kernel
theorem dX2_coveredYears_0 : decode cX2_coveredYears 0 = .ok (.iconst 0, 1) := by decide +kernel
theorem dX2_coveredYears_1 : decode cX2_coveredYears 1 = .ok (.istore_n 2, 1) := by decide +kernel
theorem dX2_coveredYears_2 : decode cX2_coveredYears 2 = .ok (.iconst 0, 1) := by decide +kernel
theorem dX2_coveredYears_3 : decode cX2_coveredYears 3 = .ok (.istore_n 3, 1) := by decide +kernel
theorem dX2_coveredYears_4 : decode cX2_coveredYears 4 = .ok (.iload_n 3, 1) := by decide +kernel
theorem dX2_coveredYears_5 : decode cX2_coveredYears 5 = .ok (.bipush 10, 2) := by decide +kernel
theorem dX2_coveredYears_7 : decode cX2_coveredYears 7 = .ok (.if_icmp .ge 21, 3) := by decide +kernel
theorem dX2_coveredYears_10 : decode cX2_coveredYears 10 = .ok (.aload_n 0, 1) := by decide +kernel
theorem dX2_coveredYears_11 : decode cX2_coveredYears 11 = .ok (.iload_n 1, 1) := by decide +kernel
theorem dX2_coveredYears_12 : decode cX2_coveredYears 12 = .ok (.iload_n 3, 1) := by decide +kernel
theorem dX2_coveredYears_13 : decode cX2_coveredYears 13 = .ok (.invokevirtual 56, 3) := by decide +kernel
theorem dX2_coveredYears_16 : decode cX2_coveredYears 16 = .ok (.ifCond .eq 6, 3) := by decide +kernel
theorem dX2_coveredYears_19 : decode cX2_coveredYears 19 = .ok (.iinc 2 1, 3) := by decide +kernel
theorem dX2_coveredYears_22 : decode cX2_coveredYears 22 = .ok (.iinc 3 1, 3) := by decide +kernel
theorem dX2_coveredYears_25 : decode cX2_coveredYears 25 = .ok (.goto (-21), 3) := by decide +kernel
theorem dX2_coveredYears_28 : decode cX2_coveredYears 28 = .ok (.iload_n 2, 1) := by decide +kernel
theorem dX2_coveredYears_29 : decode cX2_coveredYears 29 = .ok (.ireturn, 1) := by decide +kernel
theorem dX2_weather_0 : decode cX2_weather 0 = .ok (.iconst 0, 1) := by decide +kernel
theorem dX2_weather_1 : decode cX2_weather 1 = .ok (.istore_n 3, 1) := by decide +kernel
theorem dX2_weather_2 : decode cX2_weather 2 = .ok (.iconst 0, 1) := by decide +kernel
theorem dX2_weather_3 : decode cX2_weather 3 = .ok (.istore 4, 2) := by decide +kernel
theorem dX2_weather_5 : decode cX2_weather 5 = .ok (.iload 4, 2) := by decide +kernel
theorem dX2_weather_7 : decode cX2_weather 7 = .ok (.iload_n 2, 1) := by decide +kernel
theorem dX2_weather_8 : decode cX2_weather 8 = .ok (.if_icmp .gt 43, 3) := by decide +kernel
theorem dX2_weather_11 : decode cX2_weather 11 = .ok (.iload 4, 2) := by decide +kernel
theorem dX2_weather_13 : decode cX2_weather 13 = .ok (.bipush 10, 2) := by decide +kernel
theorem dX2_weather_15 : decode cX2_weather 15 = .ok (.if_icmp .ge 36, 3) := by decide +kernel
theorem dX2_weather_18 : decode cX2_weather 18 = .ok (.aload_n 0, 1) := by decide +kernel
theorem dX2_weather_19 : decode cX2_weather 19 = .ok (.iload_n 1, 1) := by decide +kernel
theorem dX2_weather_20 : decode cX2_weather 20 = .ok (.iload 4, 2) := by decide +kernel
theorem dX2_weather_22 : decode cX2_weather 22 = .ok (.invokevirtual 56, 3) := by decide +kernel
theorem dX2_weather_25 : decode cX2_weather 25 = .ok (.ifCond .ne 20, 3) := by decide +kernel
theorem dX2_weather_28 : decode cX2_weather 28 = .ok (.iload_n 3, 1) := by decide +kernel
theorem dX2_weather_29 : decode cX2_weather 29 = .ok (.aload_n 0, 1) := by decide +kernel
theorem dX2_weather_30 : decode cX2_weather 30 = .ok (.getfield 28, 3) := by decide +kernel
theorem dX2_weather_33 : decode cX2_weather 33 = .ok (.iload 4, 2) := by decide +kernel
theorem dX2_weather_35 : decode cX2_weather 35 = .ok (.iaload, 1) := by decide +kernel
theorem dX2_weather_36 : decode cX2_weather 36 = .ok (.aload_n 0, 1) := by decide +kernel
theorem dX2_weather_37 : decode cX2_weather 37 = .ok (.getfield 21, 3) := by decide +kernel
theorem dX2_weather_40 : decode cX2_weather 40 = .ok (.iload_n 1, 1) := by decide +kernel
theorem dX2_weather_41 : decode cX2_weather 41 = .ok (.iaload, 1) := by decide +kernel
theorem dX2_weather_42 : decode cX2_weather 42 = .ok (.imul, 1) := by decide +kernel
theorem dX2_weather_43 : decode cX2_weather 43 = .ok (.iadd, 1) := by decide +kernel
theorem dX2_weather_44 : decode cX2_weather 44 = .ok (.istore_n 3, 1) := by decide +kernel
theorem dX2_weather_45 : decode cX2_weather 45 = .ok (.iinc 4 1, 3) := by decide +kernel
theorem dX2_weather_48 : decode cX2_weather 48 = .ok (.goto (-43), 3) := by decide +kernel
theorem dX2_weather_51 : decode cX2_weather 51 = .ok (.iload_n 3, 1) := by decide +kernel
theorem dX2_weather_52 : decode cX2_weather 52 = .ok (.ireturn, 1) := by decide +kernel
theorem dX2_dryYears_0 : decode cX2_dryYears 0 = .ok (.iconst 0, 1) := by decide +kernel
theorem dX2_dryYears_1 : decode cX2_dryYears 1 = .ok (.istore 4, 2) := by decide +kernel
theorem dX2_dryYears_3 : decode cX2_dryYears 3 = .ok (.iload_n 2, 1) := by decide +kernel
theorem dX2_dryYears_4 : decode cX2_dryYears 4 = .ok (.istore 5, 2) := by decide +kernel
theorem dX2_dryYears_6 : decode cX2_dryYears 6 = .ok (.iload 5, 2) := by decide +kernel
theorem dX2_dryYears_8 : decode cX2_dryYears 8 = .ok (.iload_n 3, 1) := by decide +kernel
theorem dX2_dryYears_9 : decode cX2_dryYears 9 = .ok (.if_icmp .gt 29, 3) := by decide +kernel
theorem dX2_dryYears_12 : decode cX2_dryYears 12 = .ok (.iload 5, 2) := by decide +kernel
theorem dX2_dryYears_14 : decode cX2_dryYears 14 = .ok (.bipush 10, 2) := by decide +kernel
theorem dX2_dryYears_16 : decode cX2_dryYears 16 = .ok (.if_icmp .ge 22, 3) := by decide +kernel
theorem dX2_dryYears_19 : decode cX2_dryYears 19 = .ok (.aload_n 0, 1) := by decide +kernel
theorem dX2_dryYears_20 : decode cX2_dryYears 20 = .ok (.iload_n 1, 1) := by decide +kernel
theorem dX2_dryYears_21 : decode cX2_dryYears 21 = .ok (.iload 5, 2) := by decide +kernel
theorem dX2_dryYears_23 : decode cX2_dryYears 23 = .ok (.invokevirtual 60, 3) := by decide +kernel
theorem dX2_dryYears_26 : decode cX2_dryYears 26 = .ok (.ifCond .ne 6, 3) := by decide +kernel
theorem dX2_dryYears_29 : decode cX2_dryYears 29 = .ok (.iinc 4 1, 3) := by decide +kernel
theorem dX2_dryYears_32 : decode cX2_dryYears 32 = .ok (.iinc 5 1, 3) := by decide +kernel
theorem dX2_dryYears_35 : decode cX2_dryYears 35 = .ok (.goto (-29), 3) := by decide +kernel
theorem dX2_dryYears_38 : decode cX2_dryYears 38 = .ok (.iload 4, 2) := by decide +kernel
theorem dX2_dryYears_40 : decode cX2_dryYears 40 = .ok (.ireturn, 1) := by decide +kernel
theorem dX3_init_0 : decode cX3_init 0 = .ok (.aload_n 0, 1) := by decide +kernel
theorem dX3_init_1 : decode cX3_init 1 = .ok (.invokespecial 3, 3) := by decide +kernel
theorem dX3_init_4 : decode cX3_init 4 = .ok (.aload_n 0, 1) := by decide +kernel
theorem dX3_init_5 : decode cX3_init 5 = .ok (.new 9, 3) := by decide +kernel
theorem dX3_init_8 : decode cX3_init 8 = .ok (.dup, 1) := by decide +kernel
theorem dX3_init_9 : decode cX3_init 9 = .ok (.invokespecial 11, 3) := by decide +kernel
theorem dX3_init_12 : decode cX3_init 12 = .ok (.putfield 12, 3) := by decide +kernel
theorem dX3_init_15 : decode cX3_init 15 = .ok (.aload_n 0, 1) := by decide +kernel
theorem dX3_init_16 : decode cX3_init 16 = .ok (.new 18, 3) := by decide +kernel
theorem dX3_init_19 : decode cX3_init 19 = .ok (.dup, 1) := by decide +kernel
theorem dX3_init_20 : decode cX3_init 20 = .ok (.invokespecial 20, 3) := by decide +kernel
theorem dX3_init_23 : decode cX3_init 23 = .ok (.putfield 21, 3) := by decide +kernel
theorem dX3_init_26 : decode cX3_init 26 = .ok (.aload_n 0, 1) := by decide +kernel
theorem dX3_init_27 : decode cX3_init 27 = .ok (.iconst 0, 1) := by decide +kernel
theorem dX3_init_28 : decode cX3_init 28 = .ok (.putfield 25, 3) := by decide +kernel
theorem dX3_init_31 : decode cX3_init 31 = .ok (.aload_n 0, 1) := by decide +kernel
theorem dX3_init_32 : decode cX3_init 32 = .ok (.iconst 0, 1) := by decide +kernel
theorem dX3_init_33 : decode cX3_init 33 = .ok (.putfield 29, 3) := by decide +kernel
theorem dX3_init_36 : decode cX3_init 36 = .ok (.aload_n 0, 1) := by decide +kernel
theorem dX3_init_37 : decode cX3_init 37 = .ok (.iconst 0, 1) := by decide +kernel
theorem dX3_init_38 : decode cX3_init 38 = .ok (.putfield 32, 3) := by decide +kernel
theorem dX3_init_41 : decode cX3_init 41 = .ok (.aload_n 0, 1) := by decide +kernel
theorem dX3_init_42 : decode cX3_init 42 = .ok (.iconst 0, 1) := by decide +kernel
theorem dX3_init_43 : decode cX3_init 43 = .ok (.putfield 35, 3) := by decide +kernel
theorem dX3_init_46 : decode cX3_init 46 = .ok (.return_, 1) := by decide +kernel
theorem dX3_read_0 : decode cX3_read 0 = .ok (.aload_n 0, 1) := by decide +kernel
theorem dX3_read_1 : decode cX3_read 1 = .ok (.getfield 21, 3) := by decide +kernel
theorem dX3_read_4 : decode cX3_read 4 = .ok (.invokevirtual 38, 3) := by decide +kernel
theorem dX3_read_7 : decode cX3_read 7 = .ok (.aload_n 0, 1) := by decide +kernel
theorem dX3_read_8 : decode cX3_read 8 = .ok (.iconst 0, 1) := by decide +kernel
theorem dX3_read_9 : decode cX3_read 9 = .ok (.putfield 32, 3) := by decide +kernel
theorem dX3_read_12 : decode cX3_read 12 = .ok (.aload_n 0, 1) := by decide +kernel
theorem dX3_read_13 : decode cX3_read 13 = .ok (.invokevirtual 41, 3) := by decide +kernel
theorem dX3_read_16 : decode cX3_read 16 = .ok (.iconst 0, 1) := by decide +kernel
theorem dX3_read_17 : decode cX3_read 17 = .ok (.istore_n 1, 1) := by decide +kernel
theorem dX3_read_18 : decode cX3_read 18 = .ok (.iconst 0, 1) := by decide +kernel
theorem dX3_read_19 : decode cX3_read 19 = .ok (.istore_n 2, 1) := by decide +kernel
theorem dX3_read_20 : decode cX3_read 20 = .ok (.iload_n 2, 1) := by decide +kernel
theorem dX3_read_21 : decode cX3_read 21 = .ok (.sipush 300, 3) := by decide +kernel
theorem dX3_read_24 : decode cX3_read 24 = .ok (.if_icmp .ge 34, 3) := by decide +kernel
theorem dX3_read_27 : decode cX3_read 27 = .ok (.aload_n 0, 1) := by decide +kernel
theorem dX3_read_28 : decode cX3_read 28 = .ok (.getfield 25, 3) := by decide +kernel
theorem dX3_read_31 : decode cX3_read 31 = .ok (.ifCond .eq 27, 3) := by decide +kernel
theorem dX3_read_34 : decode cX3_read 34 = .ok (.aload_n 0, 1) := by decide +kernel
theorem dX3_read_35 : decode cX3_read 35 = .ok (.invokevirtual 44, 3) := by decide +kernel
theorem dX3_read_38 : decode cX3_read 38 = .ok (.ifCond .ne 11, 3) := by decide +kernel
theorem dX3_read_41 : decode cX3_read 41 = .ok (.bipush (-10), 2) := by decide +kernel
theorem dX3_read_43 : decode cX3_read 43 = .ok (.aload_n 0, 1) := by decide +kernel
theorem dX3_read_44 : decode cX3_read 44 = .ok (.getfield 29, 3) := by decide +kernel
theorem dX3_read_47 : decode cX3_read 47 = .ok (.isub, 1) := by decide +kernel
theorem dX3_read_48 : decode cX3_read 48 = .ok (.ireturn, 1) := by decide +kernel
theorem dX3_read_49 : decode cX3_read 49 = .ok (.iinc 1 1, 3) := by decide +kernel
theorem dX3_read_52 : decode cX3_read 52 = .ok (.iinc 2 1, 3) := by decide +kernel
theorem dX3_read_55 : decode cX3_read 55 = .ok (.goto (-35), 3) := by decide +kernel
theorem dX3_read_58 : decode cX3_read 58 = .ok (.iload_n 1, 1) := by decide +kernel
theorem dX3_read_59 : decode cX3_read 59 = .ok (.ireturn, 1) := by decide +kernel
theorem dX3_readItem_0 : decode cX3_readItem 0 = .ok (.aload_n 0, 1) := by decide +kernel
theorem dX3_readItem_1 : decode cX3_readItem 1 = .ok (.getfield 25, 3) := by decide +kernel
theorem dX3_readItem_4 : decode cX3_readItem 4 = .ok (.iconst 1, 1) := by decide +kernel
theorem dX3_readItem_5 : decode cX3_readItem 5 = .ok (.if_icmp .eq 5, 3) := by decide +kernel
theorem dX3_readItem_8 : decode cX3_readItem 8 = .ok (.iconst 0, 1) := by decide +kernel
theorem dX3_readItem_9 : decode cX3_readItem 9 = .ok (.ireturn, 1) := by decide +kernel
theorem dX3_readItem_10 : decode cX3_readItem 10 = .ok (.aload_n 0, 1) := by decide +kernel
theorem dX3_readItem_11 : decode cX3_readItem 11 = .ok (.getfield 12, 3) := by decide +kernel
theorem dX3_readItem_14 : decode cX3_readItem 14 = .ok (.aload_n 0, 1) := by decide +kernel
theorem dX3_readItem_15 : decode cX3_readItem 15 = .ok (.getfield 29, 3) := by decide +kernel
theorem dX3_readItem_18 : decode cX3_readItem 18 = .ok (.aload_n 0, 1) := by decide +kernel
theorem dX3_readItem_19 : decode cX3_readItem 19 = .ok (.getfield 32, 3) := by decide +kernel
theorem dX3_readItem_22 : decode cX3_readItem 22 = .ok (.ldc 48, 2) := by decide +kernel
theorem dX3_readItem_24 : decode cX3_readItem 24 = .ok (.invokevirtual 50, 3) := by decide +kernel
theorem dX3_readItem_27 : decode cX3_readItem 27 = .ok (.ifCond .eq 8, 3) := by decide +kernel
theorem dX3_readItem_30 : decode cX3_readItem 30 = .ok (.aload_n 0, 1) := by decide +kernel
theorem dX3_readItem_31 : decode cX3_readItem 31 = .ok (.invokevirtual 54, 3) := by decide +kernel
theorem dX3_readItem_34 : decode cX3_readItem 34 = .ok (.ireturn, 1) := by decide +kernel
theorem dX3_readItem_35 : decode cX3_readItem 35 = .ok (.aload_n 0, 1) := by decide +kernel
theorem dX3_readItem_36 : decode cX3_readItem 36 = .ok (.getfield 12, 3) := by decide +kernel
theorem dX3_readItem_39 : decode cX3_readItem 39 = .ok (.aload_n 0, 1) := by decide +kernel
theorem dX3_readItem_40 : decode cX3_readItem 40 = .ok (.getfield 29, 3) := by decide +kernel
theorem dX3_readItem_43 : decode cX3_readItem 43 = .ok (.aload_n 0, 1) := by decide +kernel
theorem dX3_readItem_44 : decode cX3_readItem 44 = .ok (.getfield 32, 3) := by decide +kernel
theorem dX3_readItem_47 : decode cX3_readItem 47 = .ok (.ldc 57, 2) := by decide +kernel
theorem dX3_readItem_49 : decode cX3_readItem 49 = .ok (.invokevirtual 50, 3) := by decide +kernel
theorem dX3_readItem_52 : decode cX3_readItem 52 = .ok (.ifCond .eq 8, 3) := by decide +kernel
theorem dX3_readItem_55 : decode cX3_readItem 55 = .ok (.aload_n 0, 1) := by decide +kernel
theorem dX3_readItem_56 : decode cX3_readItem 56 = .ok (.invokevirtual 59, 3) := by decide +kernel
theorem dX3_readItem_59 : decode cX3_readItem 59 = .ok (.ireturn, 1) := by decide +kernel
theorem dX3_readItem_60 : decode cX3_readItem 60 = .ok (.aload_n 0, 1) := by decide +kernel
theorem dX3_readItem_61 : decode cX3_readItem 61 = .ok (.getfield 12, 3) := by decide +kernel
theorem dX3_readItem_64 : decode cX3_readItem 64 = .ok (.aload_n 0, 1) := by decide +kernel
theorem dX3_readItem_65 : decode cX3_readItem 65 = .ok (.getfield 29, 3) := by decide +kernel
theorem dX3_readItem_68 : decode cX3_readItem 68 = .ok (.aload_n 0, 1) := by decide +kernel
theorem dX3_readItem_69 : decode cX3_readItem 69 = .ok (.getfield 32, 3) := by decide +kernel
theorem dX3_readItem_72 : decode cX3_readItem 72 = .ok (.ldc 62, 2) := by decide +kernel
theorem dX3_readItem_74 : decode cX3_readItem 74 = .ok (.invokevirtual 50, 3) := by decide +kernel
theorem dX3_readItem_77 : decode cX3_readItem 77 = .ok (.ifCond .eq 8, 3) := by decide +kernel
theorem dX3_readItem_80 : decode cX3_readItem 80 = .ok (.aload_n 0, 1) := by decide +kernel
theorem dX3_readItem_81 : decode cX3_readItem 81 = .ok (.invokevirtual 64, 3) := by decide +kernel
theorem dX3_readItem_84 : decode cX3_readItem 84 = .ok (.ireturn, 1) := by decide +kernel
theorem dX3_readItem_85 : decode cX3_readItem 85 = .ok (.aload_n 0, 1) := by decide +kernel
theorem dX3_readItem_86 : decode cX3_readItem 86 = .ok (.getfield 12, 3) := by decide +kernel
theorem dX3_readItem_89 : decode cX3_readItem 89 = .ok (.aload_n 0, 1) := by decide +kernel
theorem dX3_readItem_90 : decode cX3_readItem 90 = .ok (.getfield 29, 3) := by decide +kernel
theorem dX3_readItem_93 : decode cX3_readItem 93 = .ok (.aload_n 0, 1) := by decide +kernel
theorem dX3_readItem_94 : decode cX3_readItem 94 = .ok (.getfield 32, 3) := by decide +kernel
theorem dX3_readItem_97 : decode cX3_readItem 97 = .ok (.ldc 67, 2) := by decide +kernel
theorem dX3_readItem_99 : decode cX3_readItem 99 = .ok (.invokevirtual 50, 3) := by decide +kernel
theorem dX3_readItem_102 : decode cX3_readItem 102 = .ok (.ifCond .eq 14, 3) := by decide +kernel
theorem dX3_readItem_105 : decode cX3_readItem 105 = .ok (.aload_n 0, 1) := by decide +kernel
theorem dX3_readItem_106 : decode cX3_readItem 106 = .ok (.invokevirtual 69, 3) := by decide +kernel
theorem dX3_readItem_109 : decode cX3_readItem 109 = .ok (.ifCond .eq 7, 3) := by decide +kernel
theorem dX3_readItem_112 : decode cX3_readItem 112 = .ok (.iconst 1, 1) := by decide +kernel
theorem dX3_readItem_113 : decode cX3_readItem 113 = .ok (.goto 4, 3) := by decide +kernel
theorem dX3_readItem_116 : decode cX3_readItem 116 = .ok (.iconst 0, 1) := by decide +kernel
theorem dX3_readItem_117 : decode cX3_readItem 117 = .ok (.ireturn, 1) := by decide +kernel
theorem dX3_readBar_0 : decode cX3_readBar 0 = .ok (.aload_n 0, 1) := by decide +kernel
theorem dX3_readBar_1 : decode cX3_readBar 1 = .ok (.getfield 21, 3) := by decide +kernel
theorem dX3_readBar_4 : decode cX3_readBar 4 = .ok (.getfield 72, 3) := by decide +kernel
theorem dX3_readBar_7 : decode cX3_readBar 7 = .ok (.bipush 6, 2) := by decide +kernel
theorem dX3_readBar_9 : decode cX3_readBar 9 = .ok (.if_icmp .lt 5, 3) := by decide +kernel
theorem dX3_readBar_12 : decode cX3_readBar 12 = .ok (.iconst 0, 1) := by decide +kernel
theorem dX3_readBar_13 : decode cX3_readBar 13 = .ok (.ireturn, 1) := by decide +kernel
theorem dX3_readBar_14 : decode cX3_readBar 14 = .ok (.aload_n 0, 1) := by decide +kernel
theorem dX3_readBar_15 : decode cX3_readBar 15 = .ok (.invokevirtual 41, 3) := by decide +kernel
theorem dX3_readBar_18 : decode cX3_readBar 18 = .ok (.aload_n 0, 1) := by decide +kernel
theorem dX3_readBar_19 : decode cX3_readBar 19 = .ok (.iconst 1, 1) := by decide +kernel
theorem dX3_readBar_20 : decode cX3_readBar 20 = .ok (.iconst 3, 1) := by decide +kernel
theorem dX3_readBar_21 : decode cX3_readBar 21 = .ok (.invokevirtual 75, 3) := by decide +kernel
theorem dX3_readBar_24 : decode cX3_readBar 24 = .ok (.istore_n 1, 1) := by decide +kernel
theorem dX3_readBar_25 : decode cX3_readBar 25 = .ok (.iload_n 1, 1) := by decide +kernel
theorem dX3_readBar_26 : decode cX3_readBar 26 = .ok (.ifCond .lt 10, 3) := by decide +kernel
theorem dX3_readBar_29 : decode cX3_readBar 29 = .ok (.aload_n 0, 1) := by decide +kernel
theorem dX3_readBar_30 : decode cX3_readBar 30 = .ok (.invokevirtual 79, 3) := by decide +kernel
theorem dX3_readBar_33 : decode cX3_readBar 33 = .ok (.ifCond .ne 5, 3) := by decide +kernel
theorem dX3_readBar_36 : decode cX3_readBar 36 = .ok (.iconst 0, 1) := by decide +kernel
theorem dX3_readBar_37 : decode cX3_readBar 37 = .ok (.ireturn, 1) := by decide +kernel
theorem dX3_readBar_38 : decode cX3_readBar 38 = .ok (.aload_n 0, 1) := by decide +kernel
theorem dX3_readBar_39 : decode cX3_readBar 39 = .ok (.getfield 21, 3) := by decide +kernel
theorem dX3_readBar_42 : decode cX3_readBar 42 = .ok (.iload_n 1, 1) := by decide +kernel
theorem dX3_readBar_43 : decode cX3_readBar 43 = .ok (.invokevirtual 82, 3) := by decide +kernel
theorem dX3_readBar_46 : decode cX3_readBar 46 = .ok (.iconst 1, 1) := by decide +kernel
theorem dX3_readBar_47 : decode cX3_readBar 47 = .ok (.ireturn, 1) := by decide +kernel
theorem dX3_readPerson_0 : decode cX3_readPerson 0 = .ok (.aload_n 0, 1) := by decide +kernel
theorem dX3_readPerson_1 : decode cX3_readPerson 1 = .ok (.getfield 21, 3) := by decide +kernel
theorem dX3_readPerson_4 : decode cX3_readPerson 4 = .ok (.getfield 86, 3) := by decide +kernel
theorem dX3_readPerson_7 : decode cX3_readPerson 7 = .ok (.iconst 3, 1) := by decide +kernel
theorem dX3_readPerson_8 : decode cX3_readPerson 8 = .ok (.if_icmp .lt 5, 3) := by decide +kernel
theorem dX3_readPerson_11 : decode cX3_readPerson 11 = .ok (.iconst 0, 1) := by decide +kernel
theorem dX3_readPerson_12 : decode cX3_readPerson 12 = .ok (.ireturn, 1) := by decide +kernel
theorem dX3_readPerson_13 : decode cX3_readPerson 13 = .ok (.aload_n 0, 1) := by decide +kernel
theorem dX3_readPerson_14 : decode cX3_readPerson 14 = .ok (.invokevirtual 41, 3) := by decide +kernel
theorem dX3_readPerson_17 : decode cX3_readPerson 17 = .ok (.aload_n 0, 1) := by decide +kernel
theorem dX3_readPerson_18 : decode cX3_readPerson 18 = .ok (.iconst 1, 1) := by decide +kernel
theorem dX3_readPerson_19 : decode cX3_readPerson 19 = .ok (.bipush 9, 2) := by decide +kernel
theorem dX3_readPerson_21 : decode cX3_readPerson 21 = .ok (.invokevirtual 75, 3) := by decide +kernel
theorem dX3_readPerson_24 : decode cX3_readPerson 24 = .ok (.istore_n 1, 1) := by decide +kernel
theorem dX3_readPerson_25 : decode cX3_readPerson 25 = .ok (.iload_n 1, 1) := by decide +kernel
theorem dX3_readPerson_26 : decode cX3_readPerson 26 = .ok (.ifCond .lt 10, 3) := by decide +kernel
theorem dX3_readPerson_29 : decode cX3_readPerson 29 = .ok (.aload_n 0, 1) := by decide +kernel
theorem dX3_readPerson_30 : decode cX3_readPerson 30 = .ok (.invokevirtual 79, 3) := by decide +kernel
theorem dX3_readPerson_33 : decode cX3_readPerson 33 = .ok (.ifCond .ne 5, 3) := by decide +kernel
theorem dX3_readPerson_36 : decode cX3_readPerson 36 = .ok (.iconst 0, 1) := by decide +kernel
theorem dX3_readPerson_37 : decode cX3_readPerson 37 = .ok (.ireturn, 1) := by decide +kernel
theorem dX3_readPerson_38 : decode cX3_readPerson 38 = .ok (.aload_n 0, 1) := by decide +kernel
theorem dX3_readPerson_39 : decode cX3_readPerson 39 = .ok (.getfield 21, 3) := by decide +kernel
theorem dX3_readPerson_42 : decode cX3_readPerson 42 = .ok (.iload_n 1, 1) := by decide +kernel
theorem dX3_readPerson_43 : decode cX3_readPerson 43 = .ok (.invokevirtual 89, 3) := by decide +kernel
theorem dX3_readPerson_46 : decode cX3_readPerson 46 = .ok (.iconst 1, 1) := by decide +kernel
theorem dX3_readPerson_47 : decode cX3_readPerson 47 = .ok (.ireturn, 1) := by decide +kernel
theorem dX3_readRain_0 : decode cX3_readRain 0 = .ok (.aload_n 0, 1) := by decide +kernel
theorem dX3_readRain_1 : decode cX3_readRain 1 = .ok (.invokevirtual 41, 3) := by decide +kernel
theorem dX3_readRain_4 : decode cX3_readRain 4 = .ok (.aload_n 0, 1) := by decide +kernel
theorem dX3_readRain_5 : decode cX3_readRain 5 = .ok (.iconst 0, 1) := by decide +kernel
theorem dX3_readRain_6 : decode cX3_readRain 6 = .ok (.bipush 9, 2) := by decide +kernel
theorem dX3_readRain_8 : decode cX3_readRain 8 = .ok (.invokevirtual 75, 3) := by decide +kernel
theorem dX3_readRain_11 : decode cX3_readRain 11 = .ok (.istore_n 1, 1) := by decide +kernel
theorem dX3_readRain_12 : decode cX3_readRain 12 = .ok (.iload_n 1, 1) := by decide +kernel
theorem dX3_readRain_13 : decode cX3_readRain 13 = .ok (.ifCond .ge 5, 3) := by decide +kernel
theorem dX3_readRain_16 : decode cX3_readRain 16 = .ok (.iconst 0, 1) := by decide +kernel
theorem dX3_readRain_17 : decode cX3_readRain 17 = .ok (.ireturn, 1) := by decide +kernel
theorem dX3_readRain_18 : decode cX3_readRain 18 = .ok (.aload_n 0, 1) := by decide +kernel
theorem dX3_readRain_19 : decode cX3_readRain 19 = .ok (.iconst 0, 1) := by decide +kernel
theorem dX3_readRain_20 : decode cX3_readRain 20 = .ok (.iconst 3, 1) := by decide +kernel
theorem dX3_readRain_21 : decode cX3_readRain 21 = .ok (.invokevirtual 75, 3) := by decide +kernel
theorem dX3_readRain_24 : decode cX3_readRain 24 = .ok (.istore_n 2, 1) := by decide +kernel
theorem dX3_readRain_25 : decode cX3_readRain 25 = .ok (.iload_n 2, 1) := by decide +kernel
theorem dX3_readRain_26 : decode cX3_readRain 26 = .ok (.ifCond .lt 10, 3) := by decide +kernel
theorem dX3_readRain_29 : decode cX3_readRain 29 = .ok (.aload_n 0, 1) := by decide +kernel
theorem dX3_readRain_30 : decode cX3_readRain 30 = .ok (.invokevirtual 79, 3) := by decide +kernel
theorem dX3_readRain_33 : decode cX3_readRain 33 = .ok (.ifCond .ne 5, 3) := by decide +kernel
theorem dX3_readRain_36 : decode cX3_readRain 36 = .ok (.iconst 0, 1) := by decide +kernel
theorem dX3_readRain_37 : decode cX3_readRain 37 = .ok (.ireturn, 1) := by decide +kernel
theorem dX3_readRain_38 : decode cX3_readRain 38 = .ok (.aload_n 0, 1) := by decide +kernel
theorem dX3_readRain_39 : decode cX3_readRain 39 = .ok (.getfield 21, 3) := by decide +kernel
theorem dX3_readRain_42 : decode cX3_readRain 42 = .ok (.getfield 92, 3) := by decide +kernel
theorem dX3_readRain_45 : decode cX3_readRain 45 = .ok (.iload_n 1, 1) := by decide +kernel
theorem dX3_readRain_46 : decode cX3_readRain 46 = .ok (.iload_n 2, 1) := by decide +kernel
theorem dX3_readRain_47 : decode cX3_readRain 47 = .ok (.iastore, 1) := by decide +kernel
theorem dX3_readRain_48 : decode cX3_readRain 48 = .ok (.iconst 1, 1) := by decide +kernel
theorem dX3_readRain_49 : decode cX3_readRain 49 = .ok (.ireturn, 1) := by decide +kernel
theorem dX3_readPaint_0 : decode cX3_readPaint 0 = .ok (.aload_n 0, 1) := by decide +kernel
theorem dX3_readPaint_1 : decode cX3_readPaint 1 = .ok (.getfield 21, 3) := by decide +kernel
theorem dX3_readPaint_4 : decode cX3_readPaint 4 = .ok (.getfield 96, 3) := by decide +kernel
theorem dX3_readPaint_7 : decode cX3_readPaint 7 = .ok (.bipush 8, 2) := by decide +kernel
theorem dX3_readPaint_9 : decode cX3_readPaint 9 = .ok (.if_icmp .lt 5, 3) := by decide +kernel
theorem dX3_readPaint_12 : decode cX3_readPaint 12 = .ok (.iconst 0, 1) := by decide +kernel
theorem dX3_readPaint_13 : decode cX3_readPaint 13 = .ok (.ireturn, 1) := by decide +kernel
theorem dX3_readPaint_14 : decode cX3_readPaint 14 = .ok (.aload_n 0, 1) := by decide +kernel
theorem dX3_readPaint_15 : decode cX3_readPaint 15 = .ok (.invokevirtual 41, 3) := by decide +kernel
theorem dX3_readPaint_18 : decode cX3_readPaint 18 = .ok (.aload_n 0, 1) := by decide +kernel
theorem dX3_readPaint_19 : decode cX3_readPaint 19 = .ok (.iconst 0, 1) := by decide +kernel
theorem dX3_readPaint_20 : decode cX3_readPaint 20 = .ok (.aload_n 0, 1) := by decide +kernel
theorem dX3_readPaint_21 : decode cX3_readPaint 21 = .ok (.getfield 21, 3) := by decide +kernel
theorem dX3_readPaint_24 : decode cX3_readPaint 24 = .ok (.getfield 72, 3) := by decide +kernel
theorem dX3_readPaint_27 : decode cX3_readPaint 27 = .ok (.iconst 1, 1) := by decide +kernel
theorem dX3_readPaint_28 : decode cX3_readPaint 28 = .ok (.isub, 1) := by decide +kernel
theorem dX3_readPaint_29 : decode cX3_readPaint 29 = .ok (.invokevirtual 75, 3) := by decide +kernel
theorem dX3_readPaint_32 : decode cX3_readPaint 32 = .ok (.istore_n 1, 1) := by decide +kernel
theorem dX3_readPaint_33 : decode cX3_readPaint 33 = .ok (.iload_n 1, 1) := by decide +kernel
theorem dX3_readPaint_34 : decode cX3_readPaint 34 = .ok (.ifCond .ge 5, 3) := by decide +kernel
theorem dX3_readPaint_37 : decode cX3_readPaint 37 = .ok (.iconst 0, 1) := by decide +kernel
theorem dX3_readPaint_38 : decode cX3_readPaint 38 = .ok (.ireturn, 1) := by decide +kernel
theorem dX3_readPaint_39 : decode cX3_readPaint 39 = .ok (.aload_n 0, 1) := by decide +kernel
theorem dX3_readPaint_40 : decode cX3_readPaint 40 = .ok (.iconst 0, 1) := by decide +kernel
theorem dX3_readPaint_41 : decode cX3_readPaint 41 = .ok (.bipush 9, 2) := by decide +kernel
theorem dX3_readPaint_43 : decode cX3_readPaint 43 = .ok (.invokevirtual 75, 3) := by decide +kernel
theorem dX3_readPaint_46 : decode cX3_readPaint 46 = .ok (.istore_n 2, 1) := by decide +kernel
theorem dX3_readPaint_47 : decode cX3_readPaint 47 = .ok (.iload_n 2, 1) := by decide +kernel
theorem dX3_readPaint_48 : decode cX3_readPaint 48 = .ok (.ifCond .ge 5, 3) := by decide +kernel
theorem dX3_readPaint_51 : decode cX3_readPaint 51 = .ok (.iconst 0, 1) := by decide +kernel
theorem dX3_readPaint_52 : decode cX3_readPaint 52 = .ok (.ireturn, 1) := by decide +kernel
theorem dX3_readPaint_53 : decode cX3_readPaint 53 = .ok (.aload_n 0, 1) := by decide +kernel
theorem dX3_readPaint_54 : decode cX3_readPaint 54 = .ok (.iconst 1, 1) := by decide +kernel
theorem dX3_readPaint_55 : decode cX3_readPaint 55 = .ok (.iconst 5, 1) := by decide +kernel
theorem dX3_readPaint_56 : decode cX3_readPaint 56 = .ok (.invokevirtual 75, 3) := by decide +kernel
theorem dX3_readPaint_59 : decode cX3_readPaint 59 = .ok (.istore_n 3, 1) := by decide +kernel
theorem dX3_readPaint_60 : decode cX3_readPaint 60 = .ok (.iload_n 3, 1) := by decide +kernel
theorem dX3_readPaint_61 : decode cX3_readPaint 61 = .ok (.ifCond .lt 10, 3) := by decide +kernel
theorem dX3_readPaint_64 : decode cX3_readPaint 64 = .ok (.aload_n 0, 1) := by decide +kernel
theorem dX3_readPaint_65 : decode cX3_readPaint 65 = .ok (.invokevirtual 79, 3) := by decide +kernel
theorem dX3_readPaint_68 : decode cX3_readPaint 68 = .ok (.ifCond .ne 5, 3) := by decide +kernel
theorem dX3_readPaint_71 : decode cX3_readPaint 71 = .ok (.iconst 0, 1) := by decide +kernel
theorem dX3_readPaint_72 : decode cX3_readPaint 72 = .ok (.ireturn, 1) := by decide +kernel
theorem dX3_readPaint_73 : decode cX3_readPaint 73 = .ok (.aload_n 0, 1) := by decide +kernel
theorem dX3_readPaint_74 : decode cX3_readPaint 74 = .ok (.getfield 21, 3) := by decide +kernel
theorem dX3_readPaint_77 : decode cX3_readPaint 77 = .ok (.iload_n 1, 1) := by decide +kernel
theorem dX3_readPaint_78 : decode cX3_readPaint 78 = .ok (.iload_n 2, 1) := by decide +kernel
theorem dX3_readPaint_79 : decode cX3_readPaint 79 = .ok (.iload_n 3, 1) := by decide +kernel
theorem dX3_readPaint_80 : decode cX3_readPaint 80 = .ok (.invokevirtual 99, 3) := by decide +kernel
theorem dX3_readPaint_83 : decode cX3_readPaint 83 = .ok (.iconst 1, 1) := by decide +kernel
theorem dX3_readPaint_84 : decode cX3_readPaint 84 = .ok (.ireturn, 1) := by decide +kernel
theorem dX3_take_0 : decode cX3_take 0 = .ok (.aload_n 0, 1) := by decide +kernel
theorem dX3_take_1 : decode cX3_take 1 = .ok (.getfield 25, 3) := by decide +kernel
theorem dX3_take_4 : decode cX3_take 4 = .ok (.iconst 2, 1) := by decide +kernel
theorem dX3_take_5 : decode cX3_take 5 = .ok (.if_icmp .ne 15, 3) := by decide +kernel
theorem dX3_take_8 : decode cX3_take 8 = .ok (.aload_n 0, 1) := by decide +kernel
theorem dX3_take_9 : decode cX3_take 9 = .ok (.getfield 35, 3) := by decide +kernel
theorem dX3_take_12 : decode cX3_take 12 = .ok (.iload_n 1, 1) := by decide +kernel
theorem dX3_take_13 : decode cX3_take 13 = .ok (.iload_n 2, 1) := by decide +kernel
theorem dX3_take_14 : decode cX3_take 14 = .ok (.invokestatic 103, 3) := by decide +kernel
theorem dX3_take_17 : decode cX3_take 17 = .ok (.ifCond .ne 5, 3) := by decide +kernel
theorem dX3_take_20 : decode cX3_take 20 = .ok (.iconst (-1), 1) := by decide +kernel
theorem dX3_take_21 : decode cX3_take 21 = .ok (.ireturn, 1) := by decide +kernel
theorem dX3_take_22 : decode cX3_take 22 = .ok (.aload_n 0, 1) := by decide +kernel
theorem dX3_take_23 : decode cX3_take 23 = .ok (.getfield 35, 3) := by decide +kernel
theorem dX3_take_26 : decode cX3_take 26 = .ok (.istore_n 3, 1) := by decide +kernel
theorem dX3_take_27 : decode cX3_take 27 = .ok (.aload_n 0, 1) := by decide +kernel
theorem dX3_take_28 : decode cX3_take 28 = .ok (.invokevirtual 41, 3) := by decide +kernel
theorem dX3_take_31 : decode cX3_take 31 = .ok (.iload_n 3, 1) := by decide +kernel
theorem dX3_take_32 : decode cX3_take 32 = .ok (.ireturn, 1) := by decide +kernel
theorem dX3_takeStop_0 : decode cX3_takeStop 0 = .ok (.aload_n 0, 1) := by decide +kernel
theorem dX3_takeStop_1 : decode cX3_takeStop 1 = .ok (.getfield 25, 3) := by decide +kernel
theorem dX3_takeStop_4 : decode cX3_takeStop 4 = .ok (.iconst 3, 1) := by decide +kernel
theorem dX3_takeStop_5 : decode cX3_takeStop 5 = .ok (.if_icmp .eq 5, 3) := by decide +kernel
theorem dX3_takeStop_8 : decode cX3_takeStop 8 = .ok (.iconst 0, 1) := by decide +kernel
theorem dX3_takeStop_9 : decode cX3_takeStop 9 = .ok (.ireturn, 1) := by decide +kernel
theorem dX3_takeStop_10 : decode cX3_takeStop 10 = .ok (.aload_n 0, 1) := by decide +kernel
theorem dX3_takeStop_11 : decode cX3_takeStop 11 = .ok (.invokevirtual 41, 3) := by decide +kernel
theorem dX3_takeStop_14 : decode cX3_takeStop 14 = .ok (.iconst 1, 1) := by decide +kernel
theorem dX3_takeStop_15 : decode cX3_takeStop 15 = .ok (.ireturn, 1) := by decide +kernel
theorem dX3_next_0 : decode cX3_next 0 = .ok (.aload_n 0, 1) := by decide +kernel
theorem dX3_next_1 : decode cX3_next 1 = .ok (.aload_n 0, 1) := by decide +kernel
theorem dX3_next_2 : decode cX3_next 2 = .ok (.getfield 12, 3) := by decide +kernel
theorem dX3_next_5 : decode cX3_next 5 = .ok (.aload_n 0, 1) := by decide +kernel
theorem dX3_next_6 : decode cX3_next 6 = .ok (.getfield 32, 3) := by decide +kernel
theorem dX3_next_9 : decode cX3_next 9 = .ok (.bipush 32, 2) := by decide +kernel
theorem dX3_next_11 : decode cX3_next 11 = .ok (.bipush 32, 2) := by decide +kernel
theorem dX3_next_13 : decode cX3_next 13 = .ok (.invokevirtual 107, 3) := by decide +kernel
theorem dX3_next_16 : decode cX3_next 16 = .ok (.putfield 29, 3) := by decide +kernel
theorem dX3_next_19 : decode cX3_next 19 = .ok (.aload_n 0, 1) := by decide +kernel
theorem dX3_next_20 : decode cX3_next 20 = .ok (.getfield 29, 3) := by decide +kernel
theorem dX3_next_23 : decode cX3_next 23 = .ok (.aload_n 0, 1) := by decide +kernel
theorem dX3_next_24 : decode cX3_next 24 = .ok (.getfield 12, 3) := by decide +kernel
theorem dX3_next_27 : decode cX3_next 27 = .ok (.getfield 111, 3) := by decide +kernel
theorem dX3_next_30 : decode cX3_next 30 = .ok (.if_icmp .lt 9, 3) := by decide +kernel
theorem dX3_next_33 : decode cX3_next 33 = .ok (.aload_n 0, 1) := by decide +kernel
theorem dX3_next_34 : decode cX3_next 34 = .ok (.iconst 0, 1) := by decide +kernel
theorem dX3_next_35 : decode cX3_next 35 = .ok (.putfield 25, 3) := by decide +kernel
theorem dX3_next_38 : decode cX3_next 38 = .ok (.return_, 1) := by decide +kernel
theorem dX3_next_39 : decode cX3_next 39 = .ok (.aload_n 0, 1) := by decide +kernel
theorem dX3_next_40 : decode cX3_next 40 = .ok (.aload_n 0, 1) := by decide +kernel
theorem dX3_next_41 : decode cX3_next 41 = .ok (.getfield 12, 3) := by decide +kernel
theorem dX3_next_44 : decode cX3_next 44 = .ok (.aload_n 0, 1) := by decide +kernel
theorem dX3_next_45 : decode cX3_next 45 = .ok (.getfield 29, 3) := by decide +kernel
theorem dX3_next_48 : decode cX3_next 48 = .ok (.bipush 97, 2) := by decide +kernel
theorem dX3_next_50 : decode cX3_next 50 = .ok (.bipush 122, 2) := by decide +kernel
theorem dX3_next_52 : decode cX3_next 52 = .ok (.invokevirtual 107, 3) := by decide +kernel
theorem dX3_next_55 : decode cX3_next 55 = .ok (.putfield 32, 3) := by decide +kernel
theorem dX3_next_58 : decode cX3_next 58 = .ok (.aload_n 0, 1) := by decide +kernel
theorem dX3_next_59 : decode cX3_next 59 = .ok (.getfield 32, 3) := by decide +kernel
theorem dX3_next_62 : decode cX3_next 62 = .ok (.aload_n 0, 1) := by decide +kernel
theorem dX3_next_63 : decode cX3_next 63 = .ok (.getfield 29, 3) := by decide +kernel
theorem dX3_next_66 : decode cX3_next 66 = .ok (.if_icmp .le 9, 3) := by decide +kernel
theorem dX3_next_69 : decode cX3_next 69 = .ok (.aload_n 0, 1) := by decide +kernel
theorem dX3_next_70 : decode cX3_next 70 = .ok (.iconst 1, 1) := by decide +kernel
theorem dX3_next_71 : decode cX3_next 71 = .ok (.putfield 25, 3) := by decide +kernel
theorem dX3_next_74 : decode cX3_next 74 = .ok (.return_, 1) := by decide +kernel
theorem dX3_next_75 : decode cX3_next 75 = .ok (.aload_n 0, 1) := by decide +kernel
theorem dX3_next_76 : decode cX3_next 76 = .ok (.aload_n 0, 1) := by decide +kernel
theorem dX3_next_77 : decode cX3_next 77 = .ok (.getfield 12, 3) := by decide +kernel
theorem dX3_next_80 : decode cX3_next 80 = .ok (.aload_n 0, 1) := by decide +kernel
theorem dX3_next_81 : decode cX3_next 81 = .ok (.getfield 29, 3) := by decide +kernel
theorem dX3_next_84 : decode cX3_next 84 = .ok (.bipush 48, 2) := by decide +kernel
theorem dX3_next_86 : decode cX3_next 86 = .ok (.bipush 57, 2) := by decide +kernel
theorem dX3_next_88 : decode cX3_next 88 = .ok (.invokevirtual 107, 3) := by decide +kernel
theorem dX3_next_91 : decode cX3_next 91 = .ok (.putfield 32, 3) := by decide +kernel
theorem dX3_next_94 : decode cX3_next 94 = .ok (.aload_n 0, 1) := by decide +kernel
theorem dX3_next_95 : decode cX3_next 95 = .ok (.getfield 32, 3) := by decide +kernel
theorem dX3_next_98 : decode cX3_next 98 = .ok (.aload_n 0, 1) := by decide +kernel
theorem dX3_next_99 : decode cX3_next 99 = .ok (.getfield 29, 3) := by decide +kernel
theorem dX3_next_102 : decode cX3_next 102 = .ok (.if_icmp .le 39, 3) := by decide +kernel
theorem dX3_next_105 : decode cX3_next 105 = .ok (.aload_n 0, 1) := by decide +kernel
theorem dX3_next_106 : decode cX3_next 106 = .ok (.aload_n 0, 1) := by decide +kernel
theorem dX3_next_107 : decode cX3_next 107 = .ok (.getfield 12, 3) := by decide +kernel
theorem dX3_next_110 : decode cX3_next 110 = .ok (.aload_n 0, 1) := by decide +kernel
theorem dX3_next_111 : decode cX3_next 111 = .ok (.getfield 29, 3) := by decide +kernel
theorem dX3_next_114 : decode cX3_next 114 = .ok (.aload_n 0, 1) := by decide +kernel
theorem dX3_next_115 : decode cX3_next 115 = .ok (.getfield 32, 3) := by decide +kernel
theorem dX3_next_118 : decode cX3_next 118 = .ok (.invokevirtual 114, 3) := by decide +kernel
theorem dX3_next_121 : decode cX3_next 121 = .ok (.putfield 35, 3) := by decide +kernel
theorem dX3_next_124 : decode cX3_next 124 = .ok (.aload_n 0, 1) := by decide +kernel
theorem dX3_next_125 : decode cX3_next 125 = .ok (.aload_n 0, 1) := by decide +kernel
theorem dX3_next_126 : decode cX3_next 126 = .ok (.getfield 35, 3) := by decide +kernel
theorem dX3_next_129 : decode cX3_next 129 = .ok (.ifCond .ge 7, 3) := by decide +kernel
theorem dX3_next_132 : decode cX3_next 132 = .ok (.iconst 4, 1) := by decide +kernel
theorem dX3_next_133 : decode cX3_next 133 = .ok (.goto 4, 3) := by decide +kernel
theorem dX3_next_136 : decode cX3_next 136 = .ok (.iconst 2, 1) := by decide +kernel
theorem dX3_next_137 : decode cX3_next 137 = .ok (.putfield 25, 3) := by decide +kernel
theorem dX3_next_140 : decode cX3_next 140 = .ok (.return_, 1) := by decide +kernel
theorem dX3_next_141 : decode cX3_next 141 = .ok (.aload_n 0, 1) := by decide +kernel
theorem dX3_next_142 : decode cX3_next 142 = .ok (.aload_n 0, 1) := by decide +kernel
theorem dX3_next_143 : decode cX3_next 143 = .ok (.getfield 29, 3) := by decide +kernel
theorem dX3_next_146 : decode cX3_next 146 = .ok (.iconst 1, 1) := by decide +kernel
theorem dX3_next_147 : decode cX3_next 147 = .ok (.iadd, 1) := by decide +kernel
theorem dX3_next_148 : decode cX3_next 148 = .ok (.putfield 32, 3) := by decide +kernel
theorem dX3_next_151 : decode cX3_next 151 = .ok (.aload_n 0, 1) := by decide +kernel
theorem dX3_next_152 : decode cX3_next 152 = .ok (.aload_n 0, 1) := by decide +kernel
theorem dX3_next_153 : decode cX3_next 153 = .ok (.getfield 12, 3) := by decide +kernel
theorem dX3_next_156 : decode cX3_next 156 = .ok (.aload_n 0, 1) := by decide +kernel
theorem dX3_next_157 : decode cX3_next 157 = .ok (.getfield 29, 3) := by decide +kernel
theorem dX3_next_160 : decode cX3_next 160 = .ok (.bipush 59, 2) := by decide +kernel
theorem dX3_next_162 : decode cX3_next 162 = .ok (.invokevirtual 117, 3) := by decide +kernel
theorem dX3_next_165 : decode cX3_next 165 = .ok (.ifCond .eq 7, 3) := by decide +kernel
theorem dX3_next_168 : decode cX3_next 168 = .ok (.iconst 3, 1) := by decide +kernel
theorem dX3_next_169 : decode cX3_next 169 = .ok (.goto 4, 3) := by decide +kernel
theorem dX3_next_172 : decode cX3_next 172 = .ok (.iconst 4, 1) := by decide +kernel
theorem dX3_next_173 : decode cX3_next 173 = .ok (.putfield 25, 3) := by decide +kernel
theorem dX3_next_176 : decode cX3_next 176 = .ok (.return_, 1) := by decide +kernel
theorem dX4_init_0 : decode cX4_init 0 = .ok (.aload_n 0, 1) := by decide +kernel
theorem dX4_init_1 : decode cX4_init 1 = .ok (.invokespecial 3, 3) := by decide +kernel
theorem dX4_init_4 : decode cX4_init 4 = .ok (.aload_n 0, 1) := by decide +kernel
theorem dX4_init_5 : decode cX4_init 5 = .ok (.sipush 300, 3) := by decide +kernel
theorem dX4_init_8 : decode cX4_init 8 = .ok (.newarray .byte, 2) := by decide +kernel
theorem dX4_init_10 : decode cX4_init 10 = .ok (.putfield 9, 3) := by decide +kernel
theorem dX4_init_13 : decode cX4_init 13 = .ok (.aload_n 0, 1) := by decide +kernel
theorem dX4_init_14 : decode cX4_init 14 = .ok (.iconst 0, 1) := by decide +kernel
theorem dX4_init_15 : decode cX4_init 15 = .ok (.putfield 15, 3) := by decide +kernel
theorem dX4_init_18 : decode cX4_init 18 = .ok (.return_, 1) := by decide +kernel
theorem dX4_append_0 : decode cX4_append 0 = .ok (.iload_n 3, 1) := by decide +kernel
theorem dX4_append_1 : decode cX4_append 1 = .ok (.iconst 1, 1) := by decide +kernel
theorem dX4_append_2 : decode cX4_append 2 = .ok (.isub, 1) := by decide +kernel
theorem dX4_append_3 : decode cX4_append 3 = .ok (.istore 4, 2) := by decide +kernel
theorem dX4_append_5 : decode cX4_append 5 = .ok (.iload 4, 2) := by decide +kernel
theorem dX4_append_7 : decode cX4_append 7 = .ok (.ifCond .lt 47, 3) := by decide +kernel
theorem dX4_append_10 : decode cX4_append 10 = .ok (.aload_n 0, 1) := by decide +kernel
theorem dX4_append_11 : decode cX4_append 11 = .ok (.getfield 15, 3) := by decide +kernel
theorem dX4_append_14 : decode cX4_append 14 = .ok (.sipush 300, 3) := by decide +kernel
theorem dX4_append_17 : decode cX4_append 17 = .ok (.if_icmp .ge 37, 3) := by decide +kernel
theorem dX4_append_20 : decode cX4_append 20 = .ok (.aload_n 0, 1) := by decide +kernel
theorem dX4_append_21 : decode cX4_append 21 = .ok (.getfield 9, 3) := by decide +kernel
theorem dX4_append_24 : decode cX4_append 24 = .ok (.aload_n 0, 1) := by decide +kernel
theorem dX4_append_25 : decode cX4_append 25 = .ok (.getfield 15, 3) := by decide +kernel
theorem dX4_append_28 : decode cX4_append 28 = .ok (.lload_n 1, 1) := by decide +kernel
theorem dX4_append_29 : decode cX4_append 29 = .ok (.bipush 8, 2) := by decide +kernel
theorem dX4_append_31 : decode cX4_append 31 = .ok (.iload 4, 2) := by decide +kernel
theorem dX4_append_33 : decode cX4_append 33 = .ok (.imul, 1) := by decide +kernel
theorem dX4_append_34 : decode cX4_append 34 = .ok (.lushr, 1) := by decide +kernel
theorem dX4_append_35 : decode cX4_append 35 = .ok (.l2i, 1) := by decide +kernel
theorem dX4_append_36 : decode cX4_append 36 = .ok (.i2b, 1) := by decide +kernel
theorem dX4_append_37 : decode cX4_append 37 = .ok (.bastore, 1) := by decide +kernel
theorem dX4_append_38 : decode cX4_append 38 = .ok (.aload_n 0, 1) := by decide +kernel
theorem dX4_append_39 : decode cX4_append 39 = .ok (.dup, 1) := by decide +kernel
theorem dX4_append_40 : decode cX4_append 40 = .ok (.getfield 15, 3) := by decide +kernel
theorem dX4_append_43 : decode cX4_append 43 = .ok (.iconst 1, 1) := by decide +kernel
theorem dX4_append_44 : decode cX4_append 44 = .ok (.iadd, 1) := by decide +kernel
theorem dX4_append_45 : decode cX4_append 45 = .ok (.putfield 15, 3) := by decide +kernel
theorem dX4_append_48 : decode cX4_append 48 = .ok (.iinc 4 (-1), 3) := by decide +kernel
theorem dX4_append_51 : decode cX4_append 51 = .ok (.goto (-46), 3) := by decide +kernel
theorem dX4_append_54 : decode cX4_append 54 = .ok (.return_, 1) := by decide +kernel
theorem dX4_isSign_0 : decode cX4_isSign 0 = .ok (.iload_n 1, 1) := by decide +kernel
theorem dX4_isSign_1 : decode cX4_isSign 1 = .ok (.iconst 0, 1) := by decide +kernel
theorem dX4_isSign_2 : decode cX4_isSign 2 = .ok (.aload_n 0, 1) := by decide +kernel
theorem dX4_isSign_3 : decode cX4_isSign 3 = .ok (.getfield 15, 3) := by decide +kernel
theorem dX4_isSign_6 : decode cX4_isSign 6 = .ok (.iconst 1, 1) := by decide +kernel
theorem dX4_isSign_7 : decode cX4_isSign 7 = .ok (.isub, 1) := by decide +kernel
theorem dX4_isSign_8 : decode cX4_isSign 8 = .ok (.invokestatic 19, 3) := by decide +kernel
theorem dX4_isSign_11 : decode cX4_isSign 11 = .ok (.ifCond .eq 17, 3) := by decide +kernel
theorem dX4_isSign_14 : decode cX4_isSign 14 = .ok (.aload_n 0, 1) := by decide +kernel
theorem dX4_isSign_15 : decode cX4_isSign 15 = .ok (.getfield 9, 3) := by decide +kernel
theorem dX4_isSign_18 : decode cX4_isSign 18 = .ok (.iload_n 1, 1) := by decide +kernel
theorem dX4_isSign_19 : decode cX4_isSign 19 = .ok (.baload, 1) := by decide +kernel
theorem dX4_isSign_20 : decode cX4_isSign 20 = .ok (.iload_n 2, 1) := by decide +kernel
theorem dX4_isSign_21 : decode cX4_isSign 21 = .ok (.if_icmp .ne 7, 3) := by decide +kernel
theorem dX4_isSign_24 : decode cX4_isSign 24 = .ok (.iconst 1, 1) := by decide +kernel
theorem dX4_isSign_25 : decode cX4_isSign 25 = .ok (.goto 4, 3) := by decide +kernel
theorem dX4_isSign_28 : decode cX4_isSign 28 = .ok (.iconst 0, 1) := by decide +kernel
theorem dX4_isSign_29 : decode cX4_isSign 29 = .ok (.ireturn, 1) := by decide +kernel
theorem dX4_isWord_0 : decode cX4_isWord 0 = .ok (.iload_n 2, 1) := by decide +kernel
theorem dX4_isWord_1 : decode cX4_isWord 1 = .ok (.iload_n 1, 1) := by decide +kernel
theorem dX4_isWord_2 : decode cX4_isWord 2 = .ok (.isub, 1) := by decide +kernel
theorem dX4_isWord_3 : decode cX4_isWord 3 = .ok (.aload_n 3, 1) := by decide +kernel
theorem dX4_isWord_4 : decode cX4_isWord 4 = .ok (.invokevirtual 23, 3) := by decide +kernel
theorem dX4_isWord_7 : decode cX4_isWord 7 = .ok (.if_icmp .eq 5, 3) := by decide +kernel
theorem dX4_isWord_10 : decode cX4_isWord 10 = .ok (.iconst 0, 1) := by decide +kernel
theorem dX4_isWord_11 : decode cX4_isWord 11 = .ok (.ireturn, 1) := by decide +kernel
theorem dX4_isWord_12 : decode cX4_isWord 12 = .ok (.iconst 0, 1) := by decide +kernel
theorem dX4_isWord_13 : decode cX4_isWord 13 = .ok (.istore 4, 2) := by decide +kernel
theorem dX4_isWord_15 : decode cX4_isWord 15 = .ok (.iload 4, 2) := by decide +kernel
theorem dX4_isWord_17 : decode cX4_isWord 17 = .ok (.aload_n 3, 1) := by decide +kernel
theorem dX4_isWord_18 : decode cX4_isWord 18 = .ok (.invokevirtual 23, 3) := by decide +kernel
theorem dX4_isWord_21 : decode cX4_isWord 21 = .ok (.if_icmp .ge 28, 3) := by decide +kernel
theorem dX4_isWord_24 : decode cX4_isWord 24 = .ok (.aload_n 0, 1) := by decide +kernel
theorem dX4_isWord_25 : decode cX4_isWord 25 = .ok (.iload_n 1, 1) := by decide +kernel
theorem dX4_isWord_26 : decode cX4_isWord 26 = .ok (.iload 4, 2) := by decide +kernel
theorem dX4_isWord_28 : decode cX4_isWord 28 = .ok (.iadd, 1) := by decide +kernel
theorem dX4_isWord_29 : decode cX4_isWord 29 = .ok (.aload_n 3, 1) := by decide +kernel
theorem dX4_isWord_30 : decode cX4_isWord 30 = .ok (.iload 4, 2) := by decide +kernel
theorem dX4_isWord_32 : decode cX4_isWord 32 = .ok (.invokevirtual 28, 3) := by decide +kernel
theorem dX4_isWord_35 : decode cX4_isWord 35 = .ok (.invokevirtual 32, 3) := by decide +kernel
theorem dX4_isWord_38 : decode cX4_isWord 38 = .ok (.ifCond .ne 5, 3) := by decide +kernel
theorem dX4_isWord_41 : decode cX4_isWord 41 = .ok (.iconst 0, 1) := by decide +kernel
theorem dX4_isWord_42 : decode cX4_isWord 42 = .ok (.ireturn, 1) := by decide +kernel
theorem dX4_isWord_43 : decode cX4_isWord 43 = .ok (.iinc 4 1, 3) := by decide +kernel
theorem dX4_isWord_46 : decode cX4_isWord 46 = .ok (.goto (-31), 3) := by decide +kernel
theorem dX4_isWord_49 : decode cX4_isWord 49 = .ok (.iconst 1, 1) := by decide +kernel
theorem dX4_isWord_50 : decode cX4_isWord 50 = .ok (.ireturn, 1) := by decide +kernel
theorem dX4_behindRow_0 : decode cX4_behindRow 0 = .ok (.iload_n 1, 1) := by decide +kernel
theorem dX4_behindRow_1 : decode cX4_behindRow 1 = .ok (.istore 4, 2) := by decide +kernel
theorem dX4_behindRow_3 : decode cX4_behindRow 3 = .ok (.iload 4, 2) := by decide +kernel
theorem dX4_behindRow_5 : decode cX4_behindRow 5 = .ok (.aload_n 0, 1) := by decide +kernel
theorem dX4_behindRow_6 : decode cX4_behindRow 6 = .ok (.getfield 15, 3) := by decide +kernel
theorem dX4_behindRow_9 : decode cX4_behindRow 9 = .ok (.if_icmp .ge 24, 3) := by decide +kernel
theorem dX4_behindRow_12 : decode cX4_behindRow 12 = .ok (.aload_n 0, 1) := by decide +kernel
theorem dX4_behindRow_13 : decode cX4_behindRow 13 = .ok (.getfield 9, 3) := by decide +kernel
theorem dX4_behindRow_16 : decode cX4_behindRow 16 = .ok (.iload 4, 2) := by decide +kernel
theorem dX4_behindRow_18 : decode cX4_behindRow 18 = .ok (.baload, 1) := by decide +kernel
theorem dX4_behindRow_19 : decode cX4_behindRow 19 = .ok (.iload_n 2, 1) := by decide +kernel
theorem dX4_behindRow_20 : decode cX4_behindRow 20 = .ok (.iload_n 3, 1) := by decide +kernel
theorem dX4_behindRow_21 : decode cX4_behindRow 21 = .ok (.invokestatic 19, 3) := by decide +kernel
theorem dX4_behindRow_24 : decode cX4_behindRow 24 = .ok (.ifCond .eq 9, 3) := by decide +kernel
theorem dX4_behindRow_27 : decode cX4_behindRow 27 = .ok (.iinc 4 1, 3) := by decide +kernel
theorem dX4_behindRow_30 : decode cX4_behindRow 30 = .ok (.goto (-27), 3) := by decide +kernel
theorem dX4_behindRow_33 : decode cX4_behindRow 33 = .ok (.iload 4, 2) := by decide +kernel
theorem dX4_behindRow_35 : decode cX4_behindRow 35 = .ok (.ireturn, 1) := by decide +kernel
theorem dX4_numberIn_0 : decode cX4_numberIn 0 = .ok (.iload_n 2, 1) := by decide +kernel
theorem dX4_numberIn_1 : decode cX4_numberIn 1 = .ok (.iload_n 1, 1) := by decide +kernel
theorem dX4_numberIn_2 : decode cX4_numberIn 2 = .ok (.isub, 1) := by decide +kernel
theorem dX4_numberIn_3 : decode cX4_numberIn 3 = .ok (.iconst 2, 1) := by decide +kernel
theorem dX4_numberIn_4 : decode cX4_numberIn 4 = .ok (.if_icmp .le 5, 3) := by decide +kernel
theorem dX4_numberIn_7 : decode cX4_numberIn 7 = .ok (.iconst (-1), 1) := by decide +kernel
theorem dX4_numberIn_8 : decode cX4_numberIn 8 = .ok (.ireturn, 1) := by decide +kernel
theorem dX4_numberIn_9 : decode cX4_numberIn 9 = .ok (.iconst 0, 1) := by decide +kernel
theorem dX4_numberIn_10 : decode cX4_numberIn 10 = .ok (.istore_n 3, 1) := by decide +kernel
theorem dX4_numberIn_11 : decode cX4_numberIn 11 = .ok (.iload_n 1, 1) := by decide +kernel
theorem dX4_numberIn_12 : decode cX4_numberIn 12 = .ok (.istore 4, 2) := by decide +kernel
theorem dX4_numberIn_14 : decode cX4_numberIn 14 = .ok (.iload 4, 2) := by decide +kernel
theorem dX4_numberIn_16 : decode cX4_numberIn 16 = .ok (.iload_n 2, 1) := by decide +kernel
theorem dX4_numberIn_17 : decode cX4_numberIn 17 = .ok (.if_icmp .ge 58, 3) := by decide +kernel
theorem dX4_numberIn_20 : decode cX4_numberIn 20 = .ok (.iload 4, 2) := by decide +kernel
theorem dX4_numberIn_22 : decode cX4_numberIn 22 = .ok (.aload_n 0, 1) := by decide +kernel
theorem dX4_numberIn_23 : decode cX4_numberIn 23 = .ok (.getfield 15, 3) := by decide +kernel
theorem dX4_numberIn_26 : decode cX4_numberIn 26 = .ok (.if_icmp .ge 49, 3) := by decide +kernel
theorem dX4_numberIn_29 : decode cX4_numberIn 29 = .ok (.iload 4, 2) := by decide +kernel
theorem dX4_numberIn_31 : decode cX4_numberIn 31 = .ok (.iload_n 1, 1) := by decide +kernel
theorem dX4_numberIn_32 : decode cX4_numberIn 32 = .ok (.if_icmp .le 11, 3) := by decide +kernel
theorem dX4_numberIn_35 : decode cX4_numberIn 35 = .ok (.iload_n 3, 1) := by decide +kernel
theorem dX4_numberIn_36 : decode cX4_numberIn 36 = .ok (.ifCond .ne 7, 3) := by decide +kernel
theorem dX4_numberIn_39 : decode cX4_numberIn 39 = .ok (.iconst 1, 1) := by decide +kernel
theorem dX4_numberIn_40 : decode cX4_numberIn 40 = .ok (.goto 4, 3) := by decide +kernel
theorem dX4_numberIn_43 : decode cX4_numberIn 43 = .ok (.iconst 0, 1) := by decide +kernel
theorem dX4_numberIn_44 : decode cX4_numberIn 44 = .ok (.istore 5, 2) := by decide +kernel
theorem dX4_numberIn_46 : decode cX4_numberIn 46 = .ok (.iload 5, 2) := by decide +kernel
theorem dX4_numberIn_48 : decode cX4_numberIn 48 = .ok (.ifCond .eq 5, 3) := by decide +kernel
theorem dX4_numberIn_51 : decode cX4_numberIn 51 = .ok (.iconst (-1), 1) := by decide +kernel
theorem dX4_numberIn_52 : decode cX4_numberIn 52 = .ok (.ireturn, 1) := by decide +kernel
theorem dX4_numberIn_53 : decode cX4_numberIn 53 = .ok (.bipush 10, 2) := by decide +kernel
theorem dX4_numberIn_55 : decode cX4_numberIn 55 = .ok (.iload_n 3, 1) := by decide +kernel
theorem dX4_numberIn_56 : decode cX4_numberIn 56 = .ok (.imul, 1) := by decide +kernel
theorem dX4_numberIn_57 : decode cX4_numberIn 57 = .ok (.aload_n 0, 1) := by decide +kernel
theorem dX4_numberIn_58 : decode cX4_numberIn 58 = .ok (.getfield 9, 3) := by decide +kernel
theorem dX4_numberIn_61 : decode cX4_numberIn 61 = .ok (.iload 4, 2) := by decide +kernel
theorem dX4_numberIn_63 : decode cX4_numberIn 63 = .ok (.baload, 1) := by decide +kernel
theorem dX4_numberIn_64 : decode cX4_numberIn 64 = .ok (.iadd, 1) := by decide +kernel
theorem dX4_numberIn_65 : decode cX4_numberIn 65 = .ok (.bipush 48, 2) := by decide +kernel
theorem dX4_numberIn_67 : decode cX4_numberIn 67 = .ok (.isub, 1) := by decide +kernel
theorem dX4_numberIn_68 : decode cX4_numberIn 68 = .ok (.istore_n 3, 1) := by decide +kernel
theorem dX4_numberIn_69 : decode cX4_numberIn 69 = .ok (.iinc 4 1, 3) := by decide +kernel
theorem dX4_numberIn_72 : decode cX4_numberIn 72 = .ok (.goto (-58), 3) := by decide +kernel
theorem dX4_numberIn_75 : decode cX4_numberIn 75 = .ok (.iload_n 3, 1) := by decide +kernel
theorem dX4_numberIn_76 : decode cX4_numberIn 76 = .ok (.ireturn, 1) := by decide +kernel
theorem dX5_init_0 : decode cX5_init 0 = .ok (.aload_n 0, 1) := by decide +kernel
theorem dX5_init_1 : decode cX5_init 1 = .ok (.invokespecial 3, 3) := by decide +kernel
theorem dX5_init_4 : decode cX5_init 4 = .ok (.aload_n 0, 1) := by decide +kernel
theorem dX5_init_5 : decode cX5_init 5 = .ok (.iconst 0, 1) := by decide +kernel
theorem dX5_init_6 : decode cX5_init 6 = .ok (.putfield 9, 3) := by decide +kernel
theorem dX5_init_9 : decode cX5_init 9 = .ok (.aload_n 0, 1) := by decide +kernel
theorem dX5_init_10 : decode cX5_init 10 = .ok (.iconst 0, 1) := by decide +kernel
theorem dX5_init_11 : decode cX5_init 11 = .ok (.putfield 15, 3) := by decide +kernel
theorem dX5_init_14 : decode cX5_init 14 = .ok (.aload_n 0, 1) := by decide +kernel
theorem dX5_init_15 : decode cX5_init 15 = .ok (.bipush 6, 2) := by decide +kernel
theorem dX5_init_17 : decode cX5_init 17 = .ok (.newarray .boolean, 2) := by decide +kernel
theorem dX5_init_19 : decode cX5_init 19 = .ok (.putfield 18, 3) := by decide +kernel
theorem dX5_init_22 : decode cX5_init 22 = .ok (.aload_n 0, 1) := by decide +kernel
theorem dX5_init_23 : decode cX5_init 23 = .ok (.bipush 6, 2) := by decide +kernel
theorem dX5_init_25 : decode cX5_init 25 = .ok (.newarray .int, 2) := by decide +kernel
theorem dX5_init_27 : decode cX5_init 27 = .ok (.putfield 22, 3) := by decide +kernel
theorem dX5_init_30 : decode cX5_init 30 = .ok (.aload_n 0, 1) := by decide +kernel
theorem dX5_init_31 : decode cX5_init 31 = .ok (.iconst 3, 1) := by decide +kernel
theorem dX5_init_32 : decode cX5_init 32 = .ok (.newarray .int, 2) := by decide +kernel
theorem dX5_init_34 : decode cX5_init 34 = .ok (.putfield 26, 3) := by decide +kernel
theorem dX5_init_37 : decode cX5_init 37 = .ok (.aload_n 0, 1) := by decide +kernel
theorem dX5_init_38 : decode cX5_init 38 = .ok (.bipush 66, 2) := by decide +kernel
theorem dX5_init_40 : decode cX5_init 40 = .ok (.newarray .int, 2) := by decide +kernel
theorem dX5_init_42 : decode cX5_init 42 = .ok (.putfield 29, 3) := by decide +kernel
theorem dX5_init_45 : decode cX5_init 45 = .ok (.aload_n 0, 1) := by decide +kernel
theorem dX5_init_46 : decode cX5_init 46 = .ok (.bipush 48, 2) := by decide +kernel
theorem dX5_init_48 : decode cX5_init 48 = .ok (.newarray .int, 2) := by decide +kernel
theorem dX5_init_50 : decode cX5_init 50 = .ok (.putfield 32, 3) := by decide +kernel
theorem dX5_init_53 : decode cX5_init 53 = .ok (.aload_n 0, 1) := by decide +kernel
theorem dX5_init_54 : decode cX5_init 54 = .ok (.bipush 8, 2) := by decide +kernel
theorem dX5_init_56 : decode cX5_init 56 = .ok (.newarray .int, 2) := by decide +kernel
theorem dX5_init_58 : decode cX5_init 58 = .ok (.putfield 35, 3) := by decide +kernel
theorem dX5_init_61 : decode cX5_init 61 = .ok (.aload_n 0, 1) := by decide +kernel
theorem dX5_init_62 : decode cX5_init 62 = .ok (.sipush 271, 3) := by decide +kernel
theorem dX5_init_65 : decode cX5_init 65 = .ok (.newarray .int, 2) := by decide +kernel
theorem dX5_init_67 : decode cX5_init 67 = .ok (.putfield 38, 3) := by decide +kernel
theorem dX5_init_70 : decode cX5_init 70 = .ok (.return_, 1) := by decide +kernel
theorem dX5_learn_0 : decode cX5_learn 0 = .ok (.aload_n 0, 1) := by decide +kernel
theorem dX5_learn_1 : decode cX5_learn 1 = .ok (.aload_n 1, 1) := by decide +kernel
theorem dX5_learn_2 : decode cX5_learn 2 = .ok (.getfield 41, 3) := by decide +kernel
theorem dX5_learn_5 : decode cX5_learn 5 = .ok (.putfield 9, 3) := by decide +kernel
theorem dX5_learn_8 : decode cX5_learn 8 = .ok (.aload_n 0, 1) := by decide +kernel
theorem dX5_learn_9 : decode cX5_learn 9 = .ok (.aload_n 1, 1) := by decide +kernel
theorem dX5_learn_10 : decode cX5_learn 10 = .ok (.getfield 44, 3) := by decide +kernel
theorem dX5_learn_13 : decode cX5_learn 13 = .ok (.putfield 15, 3) := by decide +kernel
theorem dX5_learn_16 : decode cX5_learn 16 = .ok (.aload_n 1, 1) := by decide +kernel
theorem dX5_learn_17 : decode cX5_learn 17 = .ok (.getfield 45, 3) := by decide +kernel
theorem dX5_learn_20 : decode cX5_learn 20 = .ok (.iconst 0, 1) := by decide +kernel
theorem dX5_learn_21 : decode cX5_learn 21 = .ok (.aload_n 0, 1) := by decide +kernel
theorem dX5_learn_22 : decode cX5_learn 22 = .ok (.getfield 26, 3) := by decide +kernel
theorem dX5_learn_25 : decode cX5_learn 25 = .ok (.iconst 0, 1) := by decide +kernel
theorem dX5_learn_26 : decode cX5_learn 26 = .ok (.iconst 3, 1) := by decide +kernel
theorem dX5_learn_27 : decode cX5_learn 27 = .ok (.invokestatic 46, 3) := by decide +kernel
theorem dX5_learn_30 : decode cX5_learn 30 = .ok (.iconst 0, 1) := by decide +kernel
theorem dX5_learn_31 : decode cX5_learn 31 = .ok (.istore_n 3, 1) := by decide +kernel
theorem dX5_learn_32 : decode cX5_learn 32 = .ok (.iload_n 3, 1) := by decide +kernel
theorem dX5_learn_33 : decode cX5_learn 33 = .ok (.aload_n 0, 1) := by decide +kernel
theorem dX5_learn_34 : decode cX5_learn 34 = .ok (.getfield 9, 3) := by decide +kernel
theorem dX5_learn_37 : decode cX5_learn 37 = .ok (.if_icmp .ge 134, 3) := by decide +kernel
theorem dX5_learn_40 : decode cX5_learn 40 = .ok (.aload_n 0, 1) := by decide +kernel
theorem dX5_learn_41 : decode cX5_learn 41 = .ok (.getfield 18, 3) := by decide +kernel
theorem dX5_learn_44 : decode cX5_learn 44 = .ok (.iload_n 3, 1) := by decide +kernel
theorem dX5_learn_45 : decode cX5_learn 45 = .ok (.aload_n 2, 1) := by decide +kernel
theorem dX5_learn_46 : decode cX5_learn 46 = .ok (.getfield 52, 3) := by decide +kernel
theorem dX5_learn_49 : decode cX5_learn 49 = .ok (.iload_n 3, 1) := by decide +kernel
theorem dX5_learn_50 : decode cX5_learn 50 = .ok (.iaload, 1) := by decide +kernel
theorem dX5_learn_51 : decode cX5_learn 51 = .ok (.bipush (-9), 2) := by decide +kernel
theorem dX5_learn_53 : decode cX5_learn 53 = .ok (.if_icmp .eq 7, 3) := by decide +kernel
theorem dX5_learn_56 : decode cX5_learn 56 = .ok (.iconst 1, 1) := by decide +kernel
theorem dX5_learn_57 : decode cX5_learn 57 = .ok (.goto 4, 3) := by decide +kernel
theorem dX5_learn_60 : decode cX5_learn 60 = .ok (.iconst 0, 1) := by decide +kernel
theorem dX5_learn_61 : decode cX5_learn 61 = .ok (.bastore, 1) := by decide +kernel
theorem dX5_learn_62 : decode cX5_learn 62 = .ok (.aload_n 0, 1) := by decide +kernel
theorem dX5_learn_63 : decode cX5_learn 63 = .ok (.getfield 22, 3) := by decide +kernel
theorem dX5_learn_66 : decode cX5_learn 66 = .ok (.iload_n 3, 1) := by decide +kernel
theorem dX5_learn_67 : decode cX5_learn 67 = .ok (.aload_n 2, 1) := by decide +kernel
theorem dX5_learn_68 : decode cX5_learn 68 = .ok (.getfield 52, 3) := by decide +kernel
theorem dX5_learn_71 : decode cX5_learn 71 = .ok (.iload_n 3, 1) := by decide +kernel
theorem dX5_learn_72 : decode cX5_learn 72 = .ok (.iaload, 1) := by decide +kernel
theorem dX5_learn_73 : decode cX5_learn 73 = .ok (.aload_n 1, 1) := by decide +kernel
theorem dX5_learn_74 : decode cX5_learn 74 = .ok (.iload_n 3, 1) := by decide +kernel
theorem dX5_learn_75 : decode cX5_learn 75 = .ok (.bipush 9, 2) := by decide +kernel
theorem dX5_learn_77 : decode cX5_learn 77 = .ok (.invokevirtual 57, 3) := by decide +kernel
theorem dX5_learn_80 : decode cX5_learn 80 = .ok (.isub, 1) := by decide +kernel
theorem dX5_learn_81 : decode cX5_learn 81 = .ok (.iastore, 1) := by decide +kernel
theorem dX5_learn_82 : decode cX5_learn 82 = .ok (.iconst 1, 1) := by decide +kernel
theorem dX5_learn_83 : decode cX5_learn 83 = .ok (.istore 4, 2) := by decide +kernel
theorem dX5_learn_85 : decode cX5_learn 85 = .ok (.iload 4, 2) := by decide +kernel
theorem dX5_learn_87 : decode cX5_learn 87 = .ok (.bipush 10, 2) := by decide +kernel
theorem dX5_learn_89 : decode cX5_learn 89 = .ok (.if_icmp .gt 31, 3) := by decide +kernel
theorem dX5_learn_92 : decode cX5_learn 92 = .ok (.aload_n 0, 1) := by decide +kernel
theorem dX5_learn_93 : decode cX5_learn 93 = .ok (.getfield 29, 3) := by decide +kernel
theorem dX5_learn_96 : decode cX5_learn 96 = .ok (.iload_n 3, 1) := by decide +kernel
theorem dX5_learn_97 : decode cX5_learn 97 = .ok (.bipush 11, 2) := by decide +kernel
theorem dX5_learn_99 : decode cX5_learn 99 = .ok (.imul, 1) := by decide +kernel
theorem dX5_learn_100 : decode cX5_learn 100 = .ok (.iload 4, 2) := by decide +kernel
theorem dX5_learn_102 : decode cX5_learn 102 = .ok (.iadd, 1) := by decide +kernel
theorem dX5_learn_103 : decode cX5_learn 103 = .ok (.aload_n 1, 1) := by decide +kernel
theorem dX5_learn_104 : decode cX5_learn 104 = .ok (.iload_n 3, 1) := by decide +kernel
theorem dX5_learn_105 : decode cX5_learn 105 = .ok (.iconst 0, 1) := by decide +kernel
theorem dX5_learn_106 : decode cX5_learn 106 = .ok (.iload 4, 2) := by decide +kernel
theorem dX5_learn_108 : decode cX5_learn 108 = .ok (.iconst 1, 1) := by decide +kernel
theorem dX5_learn_109 : decode cX5_learn 109 = .ok (.isub, 1) := by decide +kernel
theorem dX5_learn_110 : decode cX5_learn 110 = .ok (.invokevirtual 61, 3) := by decide +kernel
theorem dX5_learn_113 : decode cX5_learn 113 = .ok (.iastore, 1) := by decide +kernel
theorem dX5_learn_114 : decode cX5_learn 114 = .ok (.iinc 4 1, 3) := by decide +kernel
theorem dX5_learn_117 : decode cX5_learn 117 = .ok (.goto (-32), 3) := by decide +kernel
theorem dX5_learn_120 : decode cX5_learn 120 = .ok (.iconst 0, 1) := by decide +kernel
theorem dX5_learn_121 : decode cX5_learn 121 = .ok (.istore 4, 2) := by decide +kernel
theorem dX5_learn_123 : decode cX5_learn 123 = .ok (.iload 4, 2) := by decide +kernel
theorem dX5_learn_125 : decode cX5_learn 125 = .ok (.iconst 1, 1) := by decide +kernel
theorem dX5_learn_126 : decode cX5_learn 126 = .ok (.aload_n 0, 1) := by decide +kernel
theorem dX5_learn_127 : decode cX5_learn 127 = .ok (.getfield 15, 3) := by decide +kernel
theorem dX5_learn_130 : decode cX5_learn 130 = .ok (.ishl, 1) := by decide +kernel
theorem dX5_learn_131 : decode cX5_learn 131 = .ok (.if_icmp .ge 34, 3) := by decide +kernel
theorem dX5_learn_134 : decode cX5_learn 134 = .ok (.aload_n 0, 1) := by decide +kernel
theorem dX5_learn_135 : decode cX5_learn 135 = .ok (.getfield 32, 3) := by decide +kernel
theorem dX5_learn_138 : decode cX5_learn 138 = .ok (.iload_n 3, 1) := by decide +kernel
theorem dX5_learn_139 : decode cX5_learn 139 = .ok (.bipush 8, 2) := by decide +kernel
theorem dX5_learn_141 : decode cX5_learn 141 = .ok (.imul, 1) := by decide +kernel
theorem dX5_learn_142 : decode cX5_learn 142 = .ok (.iload 4, 2) := by decide +kernel
theorem dX5_learn_144 : decode cX5_learn 144 = .ok (.iadd, 1) := by decide +kernel
theorem dX5_learn_145 : decode cX5_learn 145 = .ok (.aload_n 0, 1) := by decide +kernel
theorem dX5_learn_146 : decode cX5_learn 146 = .ok (.iload_n 3, 1) := by decide +kernel
theorem dX5_learn_147 : decode cX5_learn 147 = .ok (.iload 4, 2) := by decide +kernel
theorem dX5_learn_149 : decode cX5_learn 149 = .ok (.aload_n 0, 1) := by decide +kernel
theorem dX5_learn_150 : decode cX5_learn 150 = .ok (.getfield 22, 3) := by decide +kernel
theorem dX5_learn_153 : decode cX5_learn 153 = .ok (.iload_n 3, 1) := by decide +kernel
theorem dX5_learn_154 : decode cX5_learn 154 = .ok (.iaload, 1) := by decide +kernel
theorem dX5_learn_155 : decode cX5_learn 155 = .ok (.invokevirtual 65, 3) := by decide +kernel
theorem dX5_learn_158 : decode cX5_learn 158 = .ok (.iastore, 1) := by decide +kernel
theorem dX5_learn_159 : decode cX5_learn 159 = .ok (.iinc 4 1, 3) := by decide +kernel
theorem dX5_learn_162 : decode cX5_learn 162 = .ok (.goto (-39), 3) := by decide +kernel
theorem dX5_learn_165 : decode cX5_learn 165 = .ok (.iinc 3 1, 3) := by decide +kernel
theorem dX5_learn_168 : decode cX5_learn 168 = .ok (.goto (-136), 3) := by decide +kernel
theorem dX5_learn_171 : decode cX5_learn 171 = .ok (.return_, 1) := by decide +kernel
theorem dX5_all_0 : decode cX5_all 0 = .ok (.aload_n 0, 1) := by decide +kernel
theorem dX5_all_1 : decode cX5_all 1 = .ok (.bipush (-9), 2) := by decide +kernel
theorem dX5_all_3 : decode cX5_all 3 = .ok (.invokevirtual 68, 3) := by decide +kernel
theorem dX5_all_6 : decode cX5_all 6 = .ok (.aload_n 0, 1) := by decide +kernel
theorem dX5_all_7 : decode cX5_all 7 = .ok (.iconst 0, 1) := by decide +kernel
theorem dX5_all_8 : decode cX5_all 8 = .ok (.invokevirtual 72, 3) := by decide +kernel
theorem dX5_all_11 : decode cX5_all 11 = .ok (.ireturn, 1) := by decide +kernel
theorem dX5_holdingNone_0 : decode cX5_holdingNone 0 = .ok (.aload_n 0, 1) := by decide +kernel
theorem dX5_holdingNone_1 : decode cX5_holdingNone 1 = .ok (.bipush (-9), 2) := by decide +kernel
theorem dX5_holdingNone_3 : decode cX5_holdingNone 3 = .ok (.invokevirtual 68, 3) := by decide +kernel
theorem dX5_holdingNone_6 : decode cX5_holdingNone 6 = .ok (.aload_n 0, 1) := by decide +kernel
theorem dX5_holdingNone_7 : decode cX5_holdingNone 7 = .ok (.iconst 1, 1) := by decide +kernel
theorem dX5_holdingNone_8 : decode cX5_holdingNone 8 = .ok (.iload_n 1, 1) := by decide +kernel
theorem dX5_holdingNone_9 : decode cX5_holdingNone 9 = .ok (.ishl, 1) := by decide +kernel
theorem dX5_holdingNone_10 : decode cX5_holdingNone 10 = .ok (.invokevirtual 72, 3) := by decide +kernel
theorem dX5_holdingNone_13 : decode cX5_holdingNone 13 = .ok (.ireturn, 1) := by decide +kernel
theorem dX5_holding_0 : decode cX5_holding 0 = .ok (.aload_n 0, 1) := by decide +kernel
theorem dX5_holding_1 : decode cX5_holding 1 = .ok (.iload_n 2, 1) := by decide +kernel
theorem dX5_holding_2 : decode cX5_holding 2 = .ok (.invokevirtual 68, 3) := by decide +kernel
theorem dX5_holding_5 : decode cX5_holding 5 = .ok (.iconst 0, 1) := by decide +kernel
theorem dX5_holding_6 : decode cX5_holding 6 = .ok (.istore_n 3, 1) := by decide +kernel
theorem dX5_holding_7 : decode cX5_holding 7 = .ok (.iconst 0, 1) := by decide +kernel
theorem dX5_holding_8 : decode cX5_holding 8 = .ok (.istore 4, 2) := by decide +kernel
theorem dX5_holding_10 : decode cX5_holding 10 = .ok (.iload 4, 2) := by decide +kernel
theorem dX5_holding_12 : decode cX5_holding 12 = .ok (.iconst 1, 1) := by decide +kernel
theorem dX5_holding_13 : decode cX5_holding 13 = .ok (.aload_n 0, 1) := by decide +kernel
theorem dX5_holding_14 : decode cX5_holding 14 = .ok (.getfield 15, 3) := by decide +kernel
theorem dX5_holding_17 : decode cX5_holding 17 = .ok (.ishl, 1) := by decide +kernel
theorem dX5_holding_18 : decode cX5_holding 18 = .ok (.if_icmp .ge 40, 3) := by decide +kernel
theorem dX5_holding_21 : decode cX5_holding 21 = .ok (.iload 4, 2) := by decide +kernel
theorem dX5_holding_23 : decode cX5_holding 23 = .ok (.iload_n 1, 1) := by decide +kernel
theorem dX5_holding_24 : decode cX5_holding 24 = .ok (.invokestatic 76, 3) := by decide +kernel
theorem dX5_holding_27 : decode cX5_holding 27 = .ok (.ifCond .eq 25, 3) := by decide +kernel
theorem dX5_holding_30 : decode cX5_holding 30 = .ok (.iload_n 3, 1) := by decide +kernel
theorem dX5_holding_31 : decode cX5_holding 31 = .ok (.aload_n 0, 1) := by decide +kernel
theorem dX5_holding_32 : decode cX5_holding 32 = .ok (.getfield 32, 3) := by decide +kernel
theorem dX5_holding_35 : decode cX5_holding 35 = .ok (.iload_n 2, 1) := by decide +kernel
theorem dX5_holding_36 : decode cX5_holding 36 = .ok (.bipush 8, 2) := by decide +kernel
theorem dX5_holding_38 : decode cX5_holding 38 = .ok (.imul, 1) := by decide +kernel
theorem dX5_holding_39 : decode cX5_holding 39 = .ok (.iload 4, 2) := by decide +kernel
theorem dX5_holding_41 : decode cX5_holding 41 = .ok (.iadd, 1) := by decide +kernel
theorem dX5_holding_42 : decode cX5_holding 42 = .ok (.iaload, 1) := by decide +kernel
theorem dX5_holding_43 : decode cX5_holding 43 = .ok (.aload_n 0, 1) := by decide +kernel
theorem dX5_holding_44 : decode cX5_holding 44 = .ok (.iload 4, 2) := by decide +kernel
theorem dX5_holding_46 : decode cX5_holding 46 = .ok (.invokevirtual 72, 3) := by decide +kernel
theorem dX5_holding_49 : decode cX5_holding 49 = .ok (.imul, 1) := by decide +kernel
theorem dX5_holding_50 : decode cX5_holding 50 = .ok (.iadd, 1) := by decide +kernel
theorem dX5_holding_51 : decode cX5_holding 51 = .ok (.istore_n 3, 1) := by decide +kernel
theorem dX5_holding_52 : decode cX5_holding 52 = .ok (.iinc 4 1, 3) := by decide +kernel
theorem dX5_holding_55 : decode cX5_holding 55 = .ok (.goto (-45), 3) := by decide +kernel
theorem dX5_holding_58 : decode cX5_holding 58 = .ok (.iload_n 3, 1) := by decide +kernel
theorem dX5_holding_59 : decode cX5_holding 59 = .ok (.ireturn, 1) := by decide +kernel
theorem dX5_canHaveHeld_0 : decode cX5_canHaveHeld 0 = .ok (.aload_n 0, 1) := by decide +kernel
theorem dX5_canHaveHeld_1 : decode cX5_canHaveHeld 1 = .ok (.iload_n 2, 1) := by decide +kernel
theorem dX5_canHaveHeld_2 : decode cX5_canHaveHeld 2 = .ok (.invokevirtual 68, 3) := by decide +kernel
theorem dX5_canHaveHeld_5 : decode cX5_canHaveHeld 5 = .ok (.aload_n 0, 1) := by decide +kernel
theorem dX5_canHaveHeld_6 : decode cX5_canHaveHeld 6 = .ok (.getfield 22, 3) := by decide +kernel
theorem dX5_canHaveHeld_9 : decode cX5_canHaveHeld 9 = .ok (.iload_n 2, 1) := by decide +kernel
theorem dX5_canHaveHeld_10 : decode cX5_canHaveHeld 10 = .ok (.iaload, 1) := by decide +kernel
theorem dX5_canHaveHeld_11 : decode cX5_canHaveHeld 11 = .ok (.aload_n 0, 1) := by decide +kernel
theorem dX5_canHaveHeld_12 : decode cX5_canHaveHeld 12 = .ok (.iload_n 1, 1) := by decide +kernel
theorem dX5_canHaveHeld_13 : decode cX5_canHaveHeld 13 = .ok (.iload_n 2, 1) := by decide +kernel
theorem dX5_canHaveHeld_14 : decode cX5_canHaveHeld 14 = .ok (.iload_n 3, 1) := by decide +kernel
theorem dX5_canHaveHeld_15 : decode cX5_canHaveHeld 15 = .ok (.invokevirtual 80, 3) := by decide +kernel
theorem dX5_canHaveHeld_18 : decode cX5_canHaveHeld 18 = .ok (.isub, 1) := by decide +kernel
theorem dX5_canHaveHeld_19 : decode cX5_canHaveHeld 19 = .ok (.istore 4, 2) := by decide +kernel
theorem dX5_canHaveHeld_21 : decode cX5_canHaveHeld 21 = .ok (.iconst 0, 1) := by decide +kernel
theorem dX5_canHaveHeld_22 : decode cX5_canHaveHeld 22 = .ok (.istore 5, 2) := by decide +kernel
theorem dX5_canHaveHeld_24 : decode cX5_canHaveHeld 24 = .ok (.iload 5, 2) := by decide +kernel
theorem dX5_canHaveHeld_26 : decode cX5_canHaveHeld 26 = .ok (.iconst 1, 1) := by decide +kernel
theorem dX5_canHaveHeld_27 : decode cX5_canHaveHeld 27 = .ok (.aload_n 0, 1) := by decide +kernel
theorem dX5_canHaveHeld_28 : decode cX5_canHaveHeld 28 = .ok (.getfield 15, 3) := by decide +kernel
theorem dX5_canHaveHeld_31 : decode cX5_canHaveHeld 31 = .ok (.ishl, 1) := by decide +kernel
theorem dX5_canHaveHeld_32 : decode cX5_canHaveHeld 32 = .ok (.if_icmp .ge 45, 3) := by decide +kernel
theorem dX5_canHaveHeld_35 : decode cX5_canHaveHeld 35 = .ok (.iload 5, 2) := by decide +kernel
theorem dX5_canHaveHeld_37 : decode cX5_canHaveHeld 37 = .ok (.iload_n 1, 1) := by decide +kernel
theorem dX5_canHaveHeld_38 : decode cX5_canHaveHeld 38 = .ok (.invokestatic 76, 3) := by decide +kernel
theorem dX5_canHaveHeld_41 : decode cX5_canHaveHeld 41 = .ok (.ifCond .eq 30, 3) := by decide +kernel
theorem dX5_canHaveHeld_44 : decode cX5_canHaveHeld 44 = .ok (.aload_n 0, 1) := by decide +kernel
theorem dX5_canHaveHeld_45 : decode cX5_canHaveHeld 45 = .ok (.iload 5, 2) := by decide +kernel
theorem dX5_canHaveHeld_47 : decode cX5_canHaveHeld 47 = .ok (.invokevirtual 72, 3) := by decide +kernel
theorem dX5_canHaveHeld_50 : decode cX5_canHaveHeld 50 = .ok (.ifCond .le 21, 3) := by decide +kernel
theorem dX5_canHaveHeld_53 : decode cX5_canHaveHeld 53 = .ok (.aload_n 0, 1) := by decide +kernel
theorem dX5_canHaveHeld_54 : decode cX5_canHaveHeld 54 = .ok (.iload_n 2, 1) := by decide +kernel
theorem dX5_canHaveHeld_55 : decode cX5_canHaveHeld 55 = .ok (.iload 5, 2) := by decide +kernel
theorem dX5_canHaveHeld_57 : decode cX5_canHaveHeld 57 = .ok (.iconst 1, 1) := by decide +kernel
theorem dX5_canHaveHeld_58 : decode cX5_canHaveHeld 58 = .ok (.iload_n 1, 1) := by decide +kernel
theorem dX5_canHaveHeld_59 : decode cX5_canHaveHeld 59 = .ok (.ishl, 1) := by decide +kernel
theorem dX5_canHaveHeld_60 : decode cX5_canHaveHeld 60 = .ok (.ixor, 1) := by decide +kernel
theorem dX5_canHaveHeld_61 : decode cX5_canHaveHeld 61 = .ok (.iload 4, 2) := by decide +kernel
theorem dX5_canHaveHeld_63 : decode cX5_canHaveHeld 63 = .ok (.invokevirtual 65, 3) := by decide +kernel
theorem dX5_canHaveHeld_66 : decode cX5_canHaveHeld 66 = .ok (.ifCond .le 5, 3) := by decide +kernel
theorem dX5_canHaveHeld_69 : decode cX5_canHaveHeld 69 = .ok (.iconst 1, 1) := by decide +kernel
theorem dX5_canHaveHeld_70 : decode cX5_canHaveHeld 70 = .ok (.ireturn, 1) := by decide +kernel
theorem dX5_canHaveHeld_71 : decode cX5_canHaveHeld 71 = .ok (.iinc 5 1, 3) := by decide +kernel
theorem dX5_canHaveHeld_74 : decode cX5_canHaveHeld 74 = .ok (.goto (-50), 3) := by decide +kernel
theorem dX5_canHaveHeld_77 : decode cX5_canHaveHeld 77 = .ok (.iconst 0, 1) := by decide +kernel
theorem dX5_canHaveHeld_78 : decode cX5_canHaveHeld 78 = .ok (.ireturn, 1) := by decide +kernel
theorem dX5_leftAtWorst_0 : decode cX5_leftAtWorst 0 = .ok (.aload_n 0, 1) := by decide +kernel
theorem dX5_leftAtWorst_1 : decode cX5_leftAtWorst 1 = .ok (.iload_n 1, 1) := by decide +kernel
theorem dX5_leftAtWorst_2 : decode cX5_leftAtWorst 2 = .ok (.invokevirtual 68, 3) := by decide +kernel
theorem dX5_leftAtWorst_5 : decode cX5_leftAtWorst 5 = .ok (.aload_n 0, 1) := by decide +kernel
theorem dX5_leftAtWorst_6 : decode cX5_leftAtWorst 6 = .ok (.getfield 38, 3) := by decide +kernel
theorem dX5_leftAtWorst_9 : decode cX5_leftAtWorst 9 = .ok (.iconst 0, 1) := by decide +kernel
theorem dX5_leftAtWorst_10 : decode cX5_leftAtWorst 10 = .ok (.invokestatic 83, 3) := by decide +kernel
theorem dX5_leftAtWorst_13 : decode cX5_leftAtWorst 13 = .ok (.iconst 0, 1) := by decide +kernel
theorem dX5_leftAtWorst_14 : decode cX5_leftAtWorst 14 = .ok (.istore_n 2, 1) := by decide +kernel
theorem dX5_leftAtWorst_15 : decode cX5_leftAtWorst 15 = .ok (.iload_n 2, 1) := by decide +kernel
theorem dX5_leftAtWorst_16 : decode cX5_leftAtWorst 16 = .ok (.iconst 1, 1) := by decide +kernel
theorem dX5_leftAtWorst_17 : decode cX5_leftAtWorst 17 = .ok (.aload_n 0, 1) := by decide +kernel
theorem dX5_leftAtWorst_18 : decode cX5_leftAtWorst 18 = .ok (.getfield 15, 3) := by decide +kernel
theorem dX5_leftAtWorst_21 : decode cX5_leftAtWorst 21 = .ok (.ishl, 1) := by decide +kernel
theorem dX5_leftAtWorst_22 : decode cX5_leftAtWorst 22 = .ok (.if_icmp .ge 22, 3) := by decide +kernel
theorem dX5_leftAtWorst_25 : decode cX5_leftAtWorst 25 = .ok (.aload_n 0, 1) := by decide +kernel
theorem dX5_leftAtWorst_26 : decode cX5_leftAtWorst 26 = .ok (.iload_n 1, 1) := by decide +kernel
theorem dX5_leftAtWorst_27 : decode cX5_leftAtWorst 27 = .ok (.iload_n 2, 1) := by decide +kernel
theorem dX5_leftAtWorst_28 : decode cX5_leftAtWorst 28 = .ok (.aload_n 0, 1) := by decide +kernel
theorem dX5_leftAtWorst_29 : decode cX5_leftAtWorst 29 = .ok (.iload_n 2, 1) := by decide +kernel
theorem dX5_leftAtWorst_30 : decode cX5_leftAtWorst 30 = .ok (.invokevirtual 72, 3) := by decide +kernel
theorem dX5_leftAtWorst_33 : decode cX5_leftAtWorst 33 = .ok (.iconst 0, 1) := by decide +kernel
theorem dX5_leftAtWorst_34 : decode cX5_leftAtWorst 34 = .ok (.iconst 0, 1) := by decide +kernel
theorem dX5_leftAtWorst_35 : decode cX5_leftAtWorst 35 = .ok (.invokestatic 89, 3) := by decide +kernel
theorem dX5_leftAtWorst_38 : decode cX5_leftAtWorst 38 = .ok (.iinc 2 1, 3) := by decide +kernel
theorem dX5_leftAtWorst_41 : decode cX5_leftAtWorst 41 = .ok (.goto (-26), 3) := by decide +kernel
theorem dX5_leftAtWorst_44 : decode cX5_leftAtWorst 44 = .ok (.iconst 0, 1) := by decide +kernel
theorem dX5_leftAtWorst_45 : decode cX5_leftAtWorst 45 = .ok (.istore_n 2, 1) := by decide +kernel
theorem dX5_leftAtWorst_46 : decode cX5_leftAtWorst 46 = .ok (.iconst 0, 1) := by decide +kernel
theorem dX5_leftAtWorst_47 : decode cX5_leftAtWorst 47 = .ok (.istore_n 3, 1) := by decide +kernel
theorem dX5_leftAtWorst_48 : decode cX5_leftAtWorst 48 = .ok (.iload_n 3, 1) := by decide +kernel
theorem dX5_leftAtWorst_49 : decode cX5_leftAtWorst 49 = .ok (.sipush 270, 3) := by decide +kernel
theorem dX5_leftAtWorst_52 : decode cX5_leftAtWorst 52 = .ok (.if_icmp .gt 20, 3) := by decide +kernel
theorem dX5_leftAtWorst_55 : decode cX5_leftAtWorst 55 = .ok (.iload_n 2, 1) := by decide +kernel
theorem dX5_leftAtWorst_56 : decode cX5_leftAtWorst 56 = .ok (.aload_n 0, 1) := by decide +kernel
theorem dX5_leftAtWorst_57 : decode cX5_leftAtWorst 57 = .ok (.getfield 38, 3) := by decide +kernel
theorem dX5_leftAtWorst_60 : decode cX5_leftAtWorst 60 = .ok (.iload_n 3, 1) := by decide +kernel
theorem dX5_leftAtWorst_61 : decode cX5_leftAtWorst 61 = .ok (.iaload, 1) := by decide +kernel
theorem dX5_leftAtWorst_62 : decode cX5_leftAtWorst 62 = .ok (.invokestatic 93, 3) := by decide +kernel
theorem dX5_leftAtWorst_65 : decode cX5_leftAtWorst 65 = .ok (.istore_n 2, 1) := by decide +kernel
theorem dX5_leftAtWorst_66 : decode cX5_leftAtWorst 66 = .ok (.iinc 3 1, 3) := by decide +kernel
theorem dX5_leftAtWorst_69 : decode cX5_leftAtWorst 69 = .ok (.goto (-21), 3) := by decide +kernel
theorem dX5_leftAtWorst_72 : decode cX5_leftAtWorst 72 = .ok (.iload_n 2, 1) := by decide +kernel
theorem dX5_leftAtWorst_73 : decode cX5_leftAtWorst 73 = .ok (.ireturn, 1) := by decide +kernel
theorem dX5_gather_0 : decode cX5_gather 0 = .ok (.aload_n 0, 1) := by decide +kernel
theorem dX5_gather_1 : decode cX5_gather 1 = .ok (.getfield 35, 3) := by decide +kernel
theorem dX5_gather_4 : decode cX5_gather 4 = .ok (.iconst 0, 1) := by decide +kernel
theorem dX5_gather_5 : decode cX5_gather 5 = .ok (.invokestatic 83, 3) := by decide +kernel
theorem dX5_gather_8 : decode cX5_gather 8 = .ok (.aload_n 0, 1) := by decide +kernel
theorem dX5_gather_9 : decode cX5_gather 9 = .ok (.getfield 35, 3) := by decide +kernel
theorem dX5_gather_12 : decode cX5_gather 12 = .ok (.iconst 0, 1) := by decide +kernel
theorem dX5_gather_13 : decode cX5_gather 13 = .ok (.iconst 1, 1) := by decide +kernel
theorem dX5_gather_14 : decode cX5_gather 14 = .ok (.iastore, 1) := by decide +kernel
theorem dX5_gather_15 : decode cX5_gather 15 = .ok (.iconst 0, 1) := by decide +kernel
theorem dX5_gather_16 : decode cX5_gather 16 = .ok (.istore_n 2, 1) := by decide +kernel
theorem dX5_gather_17 : decode cX5_gather 17 = .ok (.iload_n 2, 1) := by decide +kernel
theorem dX5_gather_18 : decode cX5_gather 18 = .ok (.aload_n 0, 1) := by decide +kernel
theorem dX5_gather_19 : decode cX5_gather 19 = .ok (.getfield 9, 3) := by decide +kernel
theorem dX5_gather_22 : decode cX5_gather 22 = .ok (.if_icmp .ge 19, 3) := by decide +kernel
theorem dX5_gather_25 : decode cX5_gather 25 = .ok (.iload_n 2, 1) := by decide +kernel
theorem dX5_gather_26 : decode cX5_gather 26 = .ok (.iload_n 1, 1) := by decide +kernel
theorem dX5_gather_27 : decode cX5_gather 27 = .ok (.if_icmp .eq 8, 3) := by decide +kernel
theorem dX5_gather_30 : decode cX5_gather 30 = .ok (.aload_n 0, 1) := by decide +kernel
theorem dX5_gather_31 : decode cX5_gather 31 = .ok (.iload_n 2, 1) := by decide +kernel
theorem dX5_gather_32 : decode cX5_gather 32 = .ok (.invokevirtual 98, 3) := by decide +kernel
theorem dX5_gather_35 : decode cX5_gather 35 = .ok (.iinc 2 1, 3) := by decide +kernel
theorem dX5_gather_38 : decode cX5_gather 38 = .ok (.goto (-21), 3) := by decide +kernel
theorem dX5_gather_41 : decode cX5_gather 41 = .ok (.return_, 1) := by decide +kernel
theorem dX5_gatherBar_0 : decode cX5_gatherBar 0 = .ok (.iconst 1, 1) := by decide +kernel
theorem dX5_gatherBar_1 : decode cX5_gatherBar 1 = .ok (.aload_n 0, 1) := by decide +kernel
theorem dX5_gatherBar_2 : decode cX5_gatherBar 2 = .ok (.getfield 15, 3) := by decide +kernel
theorem dX5_gatherBar_5 : decode cX5_gatherBar 5 = .ok (.ishl, 1) := by decide +kernel
theorem dX5_gatherBar_6 : decode cX5_gatherBar 6 = .ok (.iconst 1, 1) := by decide +kernel
theorem dX5_gatherBar_7 : decode cX5_gatherBar 7 = .ok (.isub, 1) := by decide +kernel
theorem dX5_gatherBar_8 : decode cX5_gatherBar 8 = .ok (.istore_n 2, 1) := by decide +kernel
theorem dX5_gatherBar_9 : decode cX5_gatherBar 9 = .ok (.iload_n 2, 1) := by decide +kernel
theorem dX5_gatherBar_10 : decode cX5_gatherBar 10 = .ok (.ifCond .lt 67, 3) := by decide +kernel
theorem dX5_gatherBar_13 : decode cX5_gatherBar 13 = .ok (.iconst 0, 1) := by decide +kernel
theorem dX5_gatherBar_14 : decode cX5_gatherBar 14 = .ok (.istore_n 3, 1) := by decide +kernel
theorem dX5_gatherBar_15 : decode cX5_gatherBar 15 = .ok (.iconst 0, 1) := by decide +kernel
theorem dX5_gatherBar_16 : decode cX5_gatherBar 16 = .ok (.istore 4, 2) := by decide +kernel
theorem dX5_gatherBar_18 : decode cX5_gatherBar 18 = .ok (.iload 4, 2) := by decide +kernel
theorem dX5_gatherBar_20 : decode cX5_gatherBar 20 = .ok (.iload_n 2, 1) := by decide +kernel
theorem dX5_gatherBar_21 : decode cX5_gatherBar 21 = .ok (.if_icmp .gt 43, 3) := by decide +kernel
theorem dX5_gatherBar_24 : decode cX5_gatherBar 24 = .ok (.iload 4, 2) := by decide +kernel
theorem dX5_gatherBar_26 : decode cX5_gatherBar 26 = .ok (.iload_n 2, 1) := by decide +kernel
theorem dX5_gatherBar_27 : decode cX5_gatherBar 27 = .ok (.iconst (-1), 1) := by decide +kernel
theorem dX5_gatherBar_28 : decode cX5_gatherBar 28 = .ok (.ixor, 1) := by decide +kernel
theorem dX5_gatherBar_29 : decode cX5_gatherBar 29 = .ok (.iand, 1) := by decide +kernel
theorem dX5_gatherBar_30 : decode cX5_gatherBar 30 = .ok (.ifCond .ne 28, 3) := by decide +kernel
theorem dX5_gatherBar_33 : decode cX5_gatherBar 33 = .ok (.iload_n 3, 1) := by decide +kernel
theorem dX5_gatherBar_34 : decode cX5_gatherBar 34 = .ok (.aload_n 0, 1) := by decide +kernel
theorem dX5_gatherBar_35 : decode cX5_gatherBar 35 = .ok (.getfield 32, 3) := by decide +kernel
theorem dX5_gatherBar_38 : decode cX5_gatherBar 38 = .ok (.iload_n 1, 1) := by decide +kernel
theorem dX5_gatherBar_39 : decode cX5_gatherBar 39 = .ok (.bipush 8, 2) := by decide +kernel
theorem dX5_gatherBar_41 : decode cX5_gatherBar 41 = .ok (.imul, 1) := by decide +kernel
theorem dX5_gatherBar_42 : decode cX5_gatherBar 42 = .ok (.iload 4, 2) := by decide +kernel
theorem dX5_gatherBar_44 : decode cX5_gatherBar 44 = .ok (.iadd, 1) := by decide +kernel
theorem dX5_gatherBar_45 : decode cX5_gatherBar 45 = .ok (.iaload, 1) := by decide +kernel
theorem dX5_gatherBar_46 : decode cX5_gatherBar 46 = .ok (.aload_n 0, 1) := by decide +kernel
theorem dX5_gatherBar_47 : decode cX5_gatherBar 47 = .ok (.getfield 35, 3) := by decide +kernel
theorem dX5_gatherBar_50 : decode cX5_gatherBar 50 = .ok (.iload_n 2, 1) := by decide +kernel
theorem dX5_gatherBar_51 : decode cX5_gatherBar 51 = .ok (.iload 4, 2) := by decide +kernel
theorem dX5_gatherBar_53 : decode cX5_gatherBar 53 = .ok (.ixor, 1) := by decide +kernel
theorem dX5_gatherBar_54 : decode cX5_gatherBar 54 = .ok (.iaload, 1) := by decide +kernel
theorem dX5_gatherBar_55 : decode cX5_gatherBar 55 = .ok (.imul, 1) := by decide +kernel
theorem dX5_gatherBar_56 : decode cX5_gatherBar 56 = .ok (.iadd, 1) := by decide +kernel
theorem dX5_gatherBar_57 : decode cX5_gatherBar 57 = .ok (.istore_n 3, 1) := by decide +kernel
theorem dX5_gatherBar_58 : decode cX5_gatherBar 58 = .ok (.iinc 4 1, 3) := by decide +kernel
theorem dX5_gatherBar_61 : decode cX5_gatherBar 61 = .ok (.goto (-43), 3) := by decide +kernel
theorem dX5_gatherBar_64 : decode cX5_gatherBar 64 = .ok (.aload_n 0, 1) := by decide +kernel
theorem dX5_gatherBar_65 : decode cX5_gatherBar 65 = .ok (.getfield 35, 3) := by decide +kernel
theorem dX5_gatherBar_68 : decode cX5_gatherBar 68 = .ok (.iload_n 2, 1) := by decide +kernel
theorem dX5_gatherBar_69 : decode cX5_gatherBar 69 = .ok (.iload_n 3, 1) := by decide +kernel
theorem dX5_gatherBar_70 : decode cX5_gatherBar 70 = .ok (.iastore, 1) := by decide +kernel
theorem dX5_gatherBar_71 : decode cX5_gatherBar 71 = .ok (.iinc 2 (-1), 3) := by decide +kernel
theorem dX5_gatherBar_74 : decode cX5_gatherBar 74 = .ok (.goto (-65), 3) := by decide +kernel
theorem dX5_gatherBar_77 : decode cX5_gatherBar 77 = .ok (.return_, 1) := by decide +kernel
theorem dX5_waysBeside_0 : decode cX5_waysBeside 0 = .ok (.iconst 0, 1) := by decide +kernel
theorem dX5_waysBeside_1 : decode cX5_waysBeside 1 = .ok (.istore_n 2, 1) := by decide +kernel
theorem dX5_waysBeside_2 : decode cX5_waysBeside 2 = .ok (.iconst 0, 1) := by decide +kernel
theorem dX5_waysBeside_3 : decode cX5_waysBeside 3 = .ok (.istore_n 3, 1) := by decide +kernel
theorem dX5_waysBeside_4 : decode cX5_waysBeside 4 = .ok (.iload_n 3, 1) := by decide +kernel
theorem dX5_waysBeside_5 : decode cX5_waysBeside 5 = .ok (.iconst 1, 1) := by decide +kernel
theorem dX5_waysBeside_6 : decode cX5_waysBeside 6 = .ok (.aload_n 0, 1) := by decide +kernel
theorem dX5_waysBeside_7 : decode cX5_waysBeside 7 = .ok (.getfield 15, 3) := by decide +kernel
theorem dX5_waysBeside_10 : decode cX5_waysBeside 10 = .ok (.ishl, 1) := by decide +kernel
theorem dX5_waysBeside_11 : decode cX5_waysBeside 11 = .ok (.if_icmp .ge 24, 3) := by decide +kernel
theorem dX5_waysBeside_14 : decode cX5_waysBeside 14 = .ok (.iload_n 3, 1) := by decide +kernel
theorem dX5_waysBeside_15 : decode cX5_waysBeside 15 = .ok (.iload_n 1, 1) := by decide +kernel
theorem dX5_waysBeside_16 : decode cX5_waysBeside 16 = .ok (.iand, 1) := by decide +kernel
theorem dX5_waysBeside_17 : decode cX5_waysBeside 17 = .ok (.ifCond .ne 12, 3) := by decide +kernel
theorem dX5_waysBeside_20 : decode cX5_waysBeside 20 = .ok (.iload_n 2, 1) := by decide +kernel
theorem dX5_waysBeside_21 : decode cX5_waysBeside 21 = .ok (.aload_n 0, 1) := by decide +kernel
theorem dX5_waysBeside_22 : decode cX5_waysBeside 22 = .ok (.getfield 35, 3) := by decide +kernel
theorem dX5_waysBeside_25 : decode cX5_waysBeside 25 = .ok (.iload_n 3, 1) := by decide +kernel
theorem dX5_waysBeside_26 : decode cX5_waysBeside 26 = .ok (.iaload, 1) := by decide +kernel
theorem dX5_waysBeside_27 : decode cX5_waysBeside 27 = .ok (.iadd, 1) := by decide +kernel
theorem dX5_waysBeside_28 : decode cX5_waysBeside 28 = .ok (.istore_n 2, 1) := by decide +kernel
theorem dX5_waysBeside_29 : decode cX5_waysBeside 29 = .ok (.iinc 3 1, 3) := by decide +kernel
theorem dX5_waysBeside_32 : decode cX5_waysBeside 32 = .ok (.goto (-28), 3) := by decide +kernel
theorem dX5_waysBeside_35 : decode cX5_waysBeside 35 = .ok (.iload_n 2, 1) := by decide +kernel
theorem dX5_waysBeside_36 : decode cX5_waysBeside 36 = .ok (.ireturn, 1) := by decide +kernel
theorem dX5_winters_0 : decode cX5_winters 0 = .ok (.aload_n 0, 1) := by decide +kernel
theorem dX5_winters_1 : decode cX5_winters 1 = .ok (.getfield 18, 3) := by decide +kernel
theorem dX5_winters_4 : decode cX5_winters 4 = .ok (.iload_n 1, 1) := by decide +kernel
theorem dX5_winters_5 : decode cX5_winters 5 = .ok (.baload, 1) := by decide +kernel
theorem dX5_winters_6 : decode cX5_winters 6 = .ok (.ifCond .eq 12, 3) := by decide +kernel
theorem dX5_winters_9 : decode cX5_winters 9 = .ok (.aload_n 0, 1) := by decide +kernel
theorem dX5_winters_10 : decode cX5_winters 10 = .ok (.iload_n 1, 1) := by decide +kernel
theorem dX5_winters_11 : decode cX5_winters 11 = .ok (.iload_n 2, 1) := by decide +kernel
theorem dX5_winters_12 : decode cX5_winters 12 = .ok (.iconst 0, 1) := by decide +kernel
theorem dX5_winters_13 : decode cX5_winters 13 = .ok (.iload_n 3, 1) := by decide +kernel
theorem dX5_winters_14 : decode cX5_winters 14 = .ok (.invokestatic 101, 3) := by decide +kernel
theorem dX5_winters_17 : decode cX5_winters 17 = .ok (.ireturn, 1) := by decide +kernel
theorem dX5_winters_18 : decode cX5_winters 18 = .ok (.iconst 1, 1) := by decide +kernel
theorem dX5_winters_19 : decode cX5_winters 19 = .ok (.istore 4, 2) := by decide +kernel
theorem dX5_winters_21 : decode cX5_winters 21 = .ok (.iconst 0, 1) := by decide +kernel
theorem dX5_winters_22 : decode cX5_winters 22 = .ok (.istore 5, 2) := by decide +kernel
theorem dX5_winters_24 : decode cX5_winters 24 = .ok (.iload 5, 2) := by decide +kernel
theorem dX5_winters_26 : decode cX5_winters 26 = .ok (.aload_n 0, 1) := by decide +kernel
theorem dX5_winters_27 : decode cX5_winters 27 = .ok (.getfield 15, 3) := by decide +kernel
theorem dX5_winters_30 : decode cX5_winters 30 = .ok (.if_icmp .ge 29, 3) := by decide +kernel
theorem dX5_winters_33 : decode cX5_winters 33 = .ok (.iload 4, 2) := by decide +kernel
theorem dX5_winters_35 : decode cX5_winters 35 = .ok (.iload_n 2, 1) := by decide +kernel
theorem dX5_winters_36 : decode cX5_winters 36 = .ok (.iload 5, 2) := by decide +kernel
theorem dX5_winters_38 : decode cX5_winters 38 = .ok (.invokestatic 76, 3) := by decide +kernel
theorem dX5_winters_41 : decode cX5_winters 41 = .ok (.ifCond .eq 8, 3) := by decide +kernel
theorem dX5_winters_44 : decode cX5_winters 44 = .ok (.bipush 10, 2) := by decide +kernel
theorem dX5_winters_46 : decode cX5_winters 46 = .ok (.goto 4, 3) := by decide +kernel
theorem dX5_winters_49 : decode cX5_winters 49 = .ok (.iconst 1, 1) := by decide +kernel
theorem dX5_winters_50 : decode cX5_winters 50 = .ok (.imul, 1) := by decide +kernel
theorem dX5_winters_51 : decode cX5_winters 51 = .ok (.istore 4, 2) := by decide +kernel
theorem dX5_winters_53 : decode cX5_winters 53 = .ok (.iinc 5 1, 3) := by decide +kernel
theorem dX5_winters_56 : decode cX5_winters 56 = .ok (.goto (-32), 3) := by decide +kernel
theorem dX5_winters_59 : decode cX5_winters 59 = .ok (.iload 4, 2) := by decide +kernel
theorem dX5_winters_61 : decode cX5_winters 61 = .ok (.ireturn, 1) := by decide +kernel
theorem dX5_wintersFrom_0 : decode cX5_wintersFrom 0 = .ok (.iload 4, 2) := by decide +kernel
theorem dX5_wintersFrom_2 : decode cX5_wintersFrom 2 = .ok (.ifCond .ge 5, 3) := by decide +kernel
theorem dX5_wintersFrom_5 : decode cX5_wintersFrom 5 = .ok (.iconst 0, 1) := by decide +kernel
theorem dX5_wintersFrom_6 : decode cX5_wintersFrom 6 = .ok (.ireturn, 1) := by decide +kernel
theorem dX5_wintersFrom_7 : decode cX5_wintersFrom 7 = .ok (.iload_n 3, 1) := by decide +kernel
theorem dX5_wintersFrom_8 : decode cX5_wintersFrom 8 = .ok (.aload_n 0, 1) := by decide +kernel
theorem dX5_wintersFrom_9 : decode cX5_wintersFrom 9 = .ok (.getfield 15, 3) := by decide +kernel
theorem dX5_wintersFrom_12 : decode cX5_wintersFrom 12 = .ok (.if_icmp .lt 14, 3) := by decide +kernel
theorem dX5_wintersFrom_15 : decode cX5_wintersFrom 15 = .ok (.iload 4, 2) := by decide +kernel
theorem dX5_wintersFrom_17 : decode cX5_wintersFrom 17 = .ok (.ifCond .ne 7, 3) := by decide +kernel
theorem dX5_wintersFrom_20 : decode cX5_wintersFrom 20 = .ok (.iconst 1, 1) := by decide +kernel
theorem dX5_wintersFrom_21 : decode cX5_wintersFrom 21 = .ok (.goto 4, 3) := by decide +kernel
theorem dX5_wintersFrom_24 : decode cX5_wintersFrom 24 = .ok (.iconst 0, 1) := by decide +kernel
theorem dX5_wintersFrom_25 : decode cX5_wintersFrom 25 = .ok (.ireturn, 1) := by decide +kernel
theorem dX5_wintersFrom_26 : decode cX5_wintersFrom 26 = .ok (.iload_n 2, 1) := by decide +kernel
theorem dX5_wintersFrom_27 : decode cX5_wintersFrom 27 = .ok (.iload_n 3, 1) := by decide +kernel
theorem dX5_wintersFrom_28 : decode cX5_wintersFrom 28 = .ok (.invokestatic 76, 3) := by decide +kernel
theorem dX5_wintersFrom_31 : decode cX5_wintersFrom 31 = .ok (.ifCond .ne 15, 3) := by decide +kernel
theorem dX5_wintersFrom_34 : decode cX5_wintersFrom 34 = .ok (.aload_n 0, 1) := by decide +kernel
theorem dX5_wintersFrom_35 : decode cX5_wintersFrom 35 = .ok (.iload_n 1, 1) := by decide +kernel
theorem dX5_wintersFrom_36 : decode cX5_wintersFrom 36 = .ok (.iload_n 2, 1) := by decide +kernel
theorem dX5_wintersFrom_37 : decode cX5_wintersFrom 37 = .ok (.iload_n 3, 1) := by decide +kernel
theorem dX5_wintersFrom_38 : decode cX5_wintersFrom 38 = .ok (.iconst 1, 1) := by decide +kernel
theorem dX5_wintersFrom_39 : decode cX5_wintersFrom 39 = .ok (.iadd, 1) := by decide +kernel
theorem dX5_wintersFrom_40 : decode cX5_wintersFrom 40 = .ok (.iload 4, 2) := by decide +kernel
theorem dX5_wintersFrom_42 : decode cX5_wintersFrom 42 = .ok (.invokestatic 101, 3) := by decide +kernel
theorem dX5_wintersFrom_45 : decode cX5_wintersFrom 45 = .ok (.ireturn, 1) := by decide +kernel
theorem dX5_wintersFrom_46 : decode cX5_wintersFrom 46 = .ok (.iconst 0, 1) := by decide +kernel
theorem dX5_wintersFrom_47 : decode cX5_wintersFrom 47 = .ok (.istore 5, 2) := by decide +kernel
theorem dX5_wintersFrom_49 : decode cX5_wintersFrom 49 = .ok (.iconst 1, 1) := by decide +kernel
theorem dX5_wintersFrom_50 : decode cX5_wintersFrom 50 = .ok (.istore 6, 2) := by decide +kernel
theorem dX5_wintersFrom_52 : decode cX5_wintersFrom 52 = .ok (.iload 6, 2) := by decide +kernel
theorem dX5_wintersFrom_54 : decode cX5_wintersFrom 54 = .ok (.bipush 10, 2) := by decide +kernel
theorem dX5_wintersFrom_56 : decode cX5_wintersFrom 56 = .ok (.if_icmp .gt 34, 3) := by decide +kernel
theorem dX5_wintersFrom_59 : decode cX5_wintersFrom 59 = .ok (.iload 5, 2) := by decide +kernel
theorem dX5_wintersFrom_61 : decode cX5_wintersFrom 61 = .ok (.aload_n 0, 1) := by decide +kernel
theorem dX5_wintersFrom_62 : decode cX5_wintersFrom 62 = .ok (.iload_n 1, 1) := by decide +kernel
theorem dX5_wintersFrom_63 : decode cX5_wintersFrom 63 = .ok (.iload_n 2, 1) := by decide +kernel
theorem dX5_wintersFrom_64 : decode cX5_wintersFrom 64 = .ok (.iload_n 3, 1) := by decide +kernel
theorem dX5_wintersFrom_65 : decode cX5_wintersFrom 65 = .ok (.iconst 1, 1) := by decide +kernel
theorem dX5_wintersFrom_66 : decode cX5_wintersFrom 66 = .ok (.iadd, 1) := by decide +kernel
theorem dX5_wintersFrom_67 : decode cX5_wintersFrom 67 = .ok (.iload 4, 2) := by decide +kernel
theorem dX5_wintersFrom_69 : decode cX5_wintersFrom 69 = .ok (.aload_n 0, 1) := by decide +kernel
theorem dX5_wintersFrom_70 : decode cX5_wintersFrom 70 = .ok (.iload_n 3, 1) := by decide +kernel
theorem dX5_wintersFrom_71 : decode cX5_wintersFrom 71 = .ok (.iload_n 1, 1) := by decide +kernel
theorem dX5_wintersFrom_72 : decode cX5_wintersFrom 72 = .ok (.iload 6, 2) := by decide +kernel
theorem dX5_wintersFrom_74 : decode cX5_wintersFrom 74 = .ok (.invokevirtual 80, 3) := by decide +kernel
theorem dX5_wintersFrom_77 : decode cX5_wintersFrom 77 = .ok (.isub, 1) := by decide +kernel
theorem dX5_wintersFrom_78 : decode cX5_wintersFrom 78 = .ok (.invokestatic 101, 3) := by decide +kernel
theorem dX5_wintersFrom_81 : decode cX5_wintersFrom 81 = .ok (.iadd, 1) := by decide +kernel
theorem dX5_wintersFrom_82 : decode cX5_wintersFrom 82 = .ok (.istore 5, 2) := by decide +kernel
theorem dX5_wintersFrom_84 : decode cX5_wintersFrom 84 = .ok (.iinc 6 1, 3) := by decide +kernel
theorem dX5_wintersFrom_87 : decode cX5_wintersFrom 87 = .ok (.goto (-35), 3) := by decide +kernel
theorem dX5_wintersFrom_90 : decode cX5_wintersFrom 90 = .ok (.iload 5, 2) := by decide +kernel
theorem dX5_wintersFrom_92 : decode cX5_wintersFrom 92 = .ok (.ireturn, 1) := by decide +kernel
theorem dX5_spread_0 : decode cX5_spread 0 = .ok (.iload 4, 2) := by decide +kernel
theorem dX5_spread_2 : decode cX5_spread 2 = .ok (.aload_n 0, 1) := by decide +kernel
theorem dX5_spread_3 : decode cX5_spread 3 = .ok (.getfield 15, 3) := by decide +kernel
theorem dX5_spread_6 : decode cX5_spread 6 = .ok (.if_icmp .lt 27, 3) := by decide +kernel
theorem dX5_spread_9 : decode cX5_spread 9 = .ok (.iload 5, 2) := by decide +kernel
theorem dX5_spread_11 : decode cX5_spread 11 = .ok (.iconst 0, 1) := by decide +kernel
theorem dX5_spread_12 : decode cX5_spread 12 = .ok (.sipush 270, 3) := by decide +kernel
theorem dX5_spread_15 : decode cX5_spread 15 = .ok (.invokestatic 105, 3) := by decide +kernel
theorem dX5_spread_18 : decode cX5_spread 18 = .ok (.ifCond .eq 14, 3) := by decide +kernel
theorem dX5_spread_21 : decode cX5_spread 21 = .ok (.aload_n 0, 1) := by decide +kernel
theorem dX5_spread_22 : decode cX5_spread 22 = .ok (.getfield 38, 3) := by decide +kernel
theorem dX5_spread_25 : decode cX5_spread 25 = .ok (.iload 5, 2) := by decide +kernel
theorem dX5_spread_27 : decode cX5_spread 27 = .ok (.dup2, 1) := by decide +kernel
theorem dX5_spread_28 : decode cX5_spread 28 = .ok (.iaload, 1) := by decide +kernel
theorem dX5_spread_29 : decode cX5_spread 29 = .ok (.iload_n 3, 1) := by decide +kernel
theorem dX5_spread_30 : decode cX5_spread 30 = .ok (.iadd, 1) := by decide +kernel
theorem dX5_spread_31 : decode cX5_spread 31 = .ok (.iastore, 1) := by decide +kernel
theorem dX5_spread_32 : decode cX5_spread 32 = .ok (.return_, 1) := by decide +kernel
theorem dX5_spread_33 : decode cX5_spread 33 = .ok (.iload_n 2, 1) := by decide +kernel
theorem dX5_spread_34 : decode cX5_spread 34 = .ok (.iload 4, 2) := by decide +kernel
theorem dX5_spread_36 : decode cX5_spread 36 = .ok (.invokestatic 76, 3) := by decide +kernel
theorem dX5_spread_39 : decode cX5_spread 39 = .ok (.ifCond .ne 17, 3) := by decide +kernel
theorem dX5_spread_42 : decode cX5_spread 42 = .ok (.aload_n 0, 1) := by decide +kernel
theorem dX5_spread_43 : decode cX5_spread 43 = .ok (.iload_n 1, 1) := by decide +kernel
theorem dX5_spread_44 : decode cX5_spread 44 = .ok (.iload_n 2, 1) := by decide +kernel
theorem dX5_spread_45 : decode cX5_spread 45 = .ok (.iload_n 3, 1) := by decide +kernel
theorem dX5_spread_46 : decode cX5_spread 46 = .ok (.iload 4, 2) := by decide +kernel
theorem dX5_spread_48 : decode cX5_spread 48 = .ok (.iconst 1, 1) := by decide +kernel
theorem dX5_spread_49 : decode cX5_spread 49 = .ok (.iadd, 1) := by decide +kernel
theorem dX5_spread_50 : decode cX5_spread 50 = .ok (.iload 5, 2) := by decide +kernel
theorem dX5_spread_52 : decode cX5_spread 52 = .ok (.invokestatic 89, 3) := by decide +kernel
theorem dX5_spread_55 : decode cX5_spread 55 = .ok (.return_, 1) := by decide +kernel
theorem dX5_spread_56 : decode cX5_spread 56 = .ok (.iconst 1, 1) := by decide +kernel
theorem dX5_spread_57 : decode cX5_spread 57 = .ok (.istore 6, 2) := by decide +kernel
theorem dX5_spread_59 : decode cX5_spread 59 = .ok (.iload 6, 2) := by decide +kernel
theorem dX5_spread_61 : decode cX5_spread 61 = .ok (.bipush 10, 2) := by decide +kernel
theorem dX5_spread_63 : decode cX5_spread 63 = .ok (.if_icmp .gt 32, 3) := by decide +kernel
theorem dX5_spread_66 : decode cX5_spread 66 = .ok (.aload_n 0, 1) := by decide +kernel
theorem dX5_spread_67 : decode cX5_spread 67 = .ok (.iload_n 1, 1) := by decide +kernel
theorem dX5_spread_68 : decode cX5_spread 68 = .ok (.iload_n 2, 1) := by decide +kernel
theorem dX5_spread_69 : decode cX5_spread 69 = .ok (.iload_n 3, 1) := by decide +kernel
theorem dX5_spread_70 : decode cX5_spread 70 = .ok (.iload 4, 2) := by decide +kernel
theorem dX5_spread_72 : decode cX5_spread 72 = .ok (.iconst 1, 1) := by decide +kernel
theorem dX5_spread_73 : decode cX5_spread 73 = .ok (.iadd, 1) := by decide +kernel
theorem dX5_spread_74 : decode cX5_spread 74 = .ok (.iload 5, 2) := by decide +kernel
theorem dX5_spread_76 : decode cX5_spread 76 = .ok (.aload_n 0, 1) := by decide +kernel
theorem dX5_spread_77 : decode cX5_spread 77 = .ok (.iload 4, 2) := by decide +kernel
theorem dX5_spread_79 : decode cX5_spread 79 = .ok (.iload_n 1, 1) := by decide +kernel
theorem dX5_spread_80 : decode cX5_spread 80 = .ok (.iload 6, 2) := by decide +kernel
theorem dX5_spread_82 : decode cX5_spread 82 = .ok (.invokevirtual 80, 3) := by decide +kernel
theorem dX5_spread_85 : decode cX5_spread 85 = .ok (.iadd, 1) := by decide +kernel
theorem dX5_spread_86 : decode cX5_spread 86 = .ok (.invokestatic 89, 3) := by decide +kernel
theorem dX5_spread_89 : decode cX5_spread 89 = .ok (.iinc 6 1, 3) := by decide +kernel
theorem dX5_spread_92 : decode cX5_spread 92 = .ok (.goto (-33), 3) := by decide +kernel
theorem dX5_spread_95 : decode cX5_spread 95 = .ok (.return_, 1) := by decide +kernel
theorem dX5_leaves_0 : decode cX5_leaves 0 = .ok (.aload_n 0, 1) := by decide +kernel
theorem dX5_leaves_1 : decode cX5_leaves 1 = .ok (.getfield 26, 3) := by decide +kernel
theorem dX5_leaves_4 : decode cX5_leaves 4 = .ok (.iload_n 1, 1) := by decide +kernel
theorem dX5_leaves_5 : decode cX5_leaves 5 = .ok (.iaload, 1) := by decide +kernel
theorem dX5_leaves_6 : decode cX5_leaves 6 = .ok (.aload_n 0, 1) := by decide +kernel
theorem dX5_leaves_7 : decode cX5_leaves 7 = .ok (.getfield 29, 3) := by decide +kernel
theorem dX5_leaves_10 : decode cX5_leaves 10 = .ok (.iload_n 2, 1) := by decide +kernel
theorem dX5_leaves_11 : decode cX5_leaves 11 = .ok (.bipush 11, 2) := by decide +kernel
theorem dX5_leaves_13 : decode cX5_leaves 13 = .ok (.imul, 1) := by decide +kernel
theorem dX5_leaves_14 : decode cX5_leaves 14 = .ok (.iload_n 3, 1) := by decide +kernel
theorem dX5_leaves_15 : decode cX5_leaves 15 = .ok (.iadd, 1) := by decide +kernel
theorem dX5_leaves_16 : decode cX5_leaves 16 = .ok (.iaload, 1) := by decide +kernel
theorem dX5_leaves_17 : decode cX5_leaves 17 = .ok (.imul, 1) := by decide +kernel
theorem dX5_leaves_18 : decode cX5_leaves 18 = .ok (.ireturn, 1) := by decide +kernel
theorem dX5_isIn_0 : decode cX5_isIn 0 = .ok (.iload_n 0, 1) := by decide +kernel
theorem dX5_isIn_1 : decode cX5_isIn 1 = .ok (.iload_n 1, 1) := by decide +kernel
theorem dX5_isIn_2 : decode cX5_isIn 2 = .ok (.ishr, 1) := by decide +kernel
theorem dX5_isIn_3 : decode cX5_isIn 3 = .ok (.iconst 1, 1) := by decide +kernel
theorem dX5_isIn_4 : decode cX5_isIn 4 = .ok (.iand, 1) := by decide +kernel
theorem dX5_isIn_5 : decode cX5_isIn 5 = .ok (.iconst 1, 1) := by decide +kernel
theorem dX5_isIn_6 : decode cX5_isIn 6 = .ok (.if_icmp .ne 7, 3) := by decide +kernel
theorem dX5_isIn_9 : decode cX5_isIn 9 = .ok (.iconst 1, 1) := by decide +kernel
theorem dX5_isIn_10 : decode cX5_isIn 10 = .ok (.goto 4, 3) := by decide +kernel
theorem dX5_isIn_13 : decode cX5_isIn 13 = .ok (.iconst 0, 1) := by decide +kernel
theorem dX5_isIn_14 : decode cX5_isIn 14 = .ok (.ireturn, 1) := by decide +kernel
theorem dX6_init_0 : decode cX6_init 0 = .ok (.aload_n 0, 1) := by decide +kernel
theorem dX6_init_1 : decode cX6_init 1 = .ok (.invokespecial 3, 3) := by decide +kernel
theorem dX6_init_4 : decode cX6_init 4 = .ok (.aload_n 0, 1) := by decide +kernel
theorem dX6_init_5 : decode cX6_init 5 = .ok (.new 9, 3) := by decide +kernel
theorem dX6_init_8 : decode cX6_init 8 = .ok (.dup, 1) := by decide +kernel
theorem dX6_init_9 : decode cX6_init 9 = .ok (.invokespecial 11, 3) := by decide +kernel
theorem dX6_init_12 : decode cX6_init 12 = .ok (.putfield 12, 3) := by decide +kernel
theorem dX6_init_15 : decode cX6_init 15 = .ok (.aload_n 0, 1) := by decide +kernel
theorem dX6_init_16 : decode cX6_init 16 = .ok (.aload_n 0, 1) := by decide +kernel
theorem dX6_init_17 : decode cX6_init 17 = .ok (.getfield 12, 3) := by decide +kernel
theorem dX6_init_20 : decode cX6_init 20 = .ok (.getfield 16, 3) := by decide +kernel
theorem dX6_init_23 : decode cX6_init 23 = .ok (.putfield 20, 3) := by decide +kernel
theorem dX6_init_26 : decode cX6_init 26 = .ok (.aload_n 0, 1) := by decide +kernel
theorem dX6_init_27 : decode cX6_init 27 = .ok (.new 21, 3) := by decide +kernel
theorem dX6_init_30 : decode cX6_init 30 = .ok (.dup, 1) := by decide +kernel
theorem dX6_init_31 : decode cX6_init 31 = .ok (.invokespecial 23, 3) := by decide +kernel
theorem dX6_init_34 : decode cX6_init 34 = .ok (.putfield 24, 3) := by decide +kernel
theorem dX6_init_37 : decode cX6_init 37 = .ok (.aload_n 0, 1) := by decide +kernel
theorem dX6_init_38 : decode cX6_init 38 = .ok (.new 28, 3) := by decide +kernel
theorem dX6_init_41 : decode cX6_init 41 = .ok (.dup, 1) := by decide +kernel
theorem dX6_init_42 : decode cX6_init 42 = .ok (.invokespecial 30, 3) := by decide +kernel
theorem dX6_init_45 : decode cX6_init 45 = .ok (.putfield 31, 3) := by decide +kernel
theorem dX6_init_48 : decode cX6_init 48 = .ok (.aload_n 0, 1) := by decide +kernel
theorem dX6_init_49 : decode cX6_init 49 = .ok (.iconst 2, 1) := by decide +kernel
theorem dX6_init_50 : decode cX6_init 50 = .ok (.anewarray 28, 3) := by decide +kernel
theorem dX6_init_53 : decode cX6_init 53 = .ok (.putfield 35, 3) := by decide +kernel
theorem dX6_init_56 : decode cX6_init 56 = .ok (.iconst 0, 1) := by decide +kernel
theorem dX6_init_57 : decode cX6_init 57 = .ok (.istore_n 1, 1) := by decide +kernel
theorem dX6_init_58 : decode cX6_init 58 = .ok (.iload_n 1, 1) := by decide +kernel
theorem dX6_init_59 : decode cX6_init 59 = .ok (.iconst 2, 1) := by decide +kernel
theorem dX6_init_60 : decode cX6_init 60 = .ok (.if_icmp .ge 22, 3) := by decide +kernel
theorem dX6_init_63 : decode cX6_init 63 = .ok (.aload_n 0, 1) := by decide +kernel
theorem dX6_init_64 : decode cX6_init 64 = .ok (.getfield 35, 3) := by decide +kernel
theorem dX6_init_67 : decode cX6_init 67 = .ok (.iload_n 1, 1) := by decide +kernel
theorem dX6_init_68 : decode cX6_init 68 = .ok (.new 28, 3) := by decide +kernel
theorem dX6_init_71 : decode cX6_init 71 = .ok (.dup, 1) := by decide +kernel
theorem dX6_init_72 : decode cX6_init 72 = .ok (.invokespecial 30, 3) := by decide +kernel
theorem dX6_init_75 : decode cX6_init 75 = .ok (.aastore, 1) := by decide +kernel
theorem dX6_init_76 : decode cX6_init 76 = .ok (.iinc 1 1, 3) := by decide +kernel
theorem dX6_init_79 : decode cX6_init 79 = .ok (.goto (-21), 3) := by decide +kernel
theorem dX6_init_82 : decode cX6_init 82 = .ok (.aload_n 0, 1) := by decide +kernel
theorem dX6_init_83 : decode cX6_init 83 = .ok (.iconst 2, 1) := by decide +kernel
theorem dX6_init_84 : decode cX6_init 84 = .ok (.newarray .boolean, 2) := by decide +kernel
theorem dX6_init_86 : decode cX6_init 86 = .ok (.putfield 39, 3) := by decide +kernel
theorem dX6_init_89 : decode cX6_init 89 = .ok (.aload_n 0, 1) := by decide +kernel
theorem dX6_init_90 : decode cX6_init 90 = .ok (.new 43, 3) := by decide +kernel
theorem dX6_init_93 : decode cX6_init 93 = .ok (.dup, 1) := by decide +kernel
theorem dX6_init_94 : decode cX6_init 94 = .ok (.invokespecial 45, 3) := by decide +kernel
theorem dX6_init_97 : decode cX6_init 97 = .ok (.putfield 46, 3) := by decide +kernel
theorem dX6_init_100 : decode cX6_init 100 = .ok (.aload_n 0, 1) := by decide +kernel
theorem dX6_init_101 : decode cX6_init 101 = .ok (.new 50, 3) := by decide +kernel
theorem dX6_init_104 : decode cX6_init 104 = .ok (.dup, 1) := by decide +kernel
theorem dX6_init_105 : decode cX6_init 105 = .ok (.invokespecial 52, 3) := by decide +kernel
theorem dX6_init_108 : decode cX6_init 108 = .ok (.putfield 53, 3) := by decide +kernel
theorem dX6_init_111 : decode cX6_init 111 = .ok (.aload_n 0, 1) := by decide +kernel
theorem dX6_init_112 : decode cX6_init 112 = .ok (.lconst 0, 1) := by decide +kernel
theorem dX6_init_113 : decode cX6_init 113 = .ok (.putfield 57, 3) := by decide +kernel
theorem dX6_init_116 : decode cX6_init 116 = .ok (.return_, 1) := by decide +kernel
theorem dX6_type_0 : decode cX6_type 0 = .ok (.iload_n 3, 1) := by decide +kernel
theorem dX6_type_1 : decode cX6_type 1 = .ok (.iconst 1, 1) := by decide +kernel
theorem dX6_type_2 : decode cX6_type 2 = .ok (.bipush 8, 2) := by decide +kernel
theorem dX6_type_4 : decode cX6_type 4 = .ok (.invokestatic 61, 3) := by decide +kernel
theorem dX6_type_7 : decode cX6_type 7 = .ok (.ifCond .ne 5, 3) := by decide +kernel
theorem dX6_type_10 : decode cX6_type 10 = .ok (.iconst (-1), 1) := by decide +kernel
theorem dX6_type_11 : decode cX6_type 11 = .ok (.ireturn, 1) := by decide +kernel
theorem dX6_type_12 : decode cX6_type 12 = .ok (.aload_n 0, 1) := by decide +kernel
theorem dX6_type_13 : decode cX6_type 13 = .ok (.getfield 20, 3) := by decide +kernel
theorem dX6_type_16 : decode cX6_type 16 = .ok (.getfield 65, 3) := by decide +kernel
theorem dX6_type_19 : decode cX6_type 19 = .ok (.iload_n 3, 1) := by decide +kernel
theorem dX6_type_20 : decode cX6_type 20 = .ok (.iadd, 1) := by decide +kernel
theorem dX6_type_21 : decode cX6_type 21 = .ok (.sipush 300, 3) := by decide +kernel
theorem dX6_type_24 : decode cX6_type 24 = .ok (.if_icmp .le 6, 3) := by decide +kernel
theorem dX6_type_27 : decode cX6_type 27 = .ok (.bipush (-3), 2) := by decide +kernel
theorem dX6_type_29 : decode cX6_type 29 = .ok (.ireturn, 1) := by decide +kernel
theorem dX6_type_30 : decode cX6_type 30 = .ok (.aload_n 0, 1) := by decide +kernel
theorem dX6_type_31 : decode cX6_type 31 = .ok (.getfield 20, 3) := by decide +kernel
theorem dX6_type_34 : decode cX6_type 34 = .ok (.lload_n 1, 1) := by decide +kernel
theorem dX6_type_35 : decode cX6_type 35 = .ok (.iload_n 3, 1) := by decide +kernel
theorem dX6_type_36 : decode cX6_type 36 = .ok (.invokevirtual 71, 3) := by decide +kernel
theorem dX6_type_39 : decode cX6_type 39 = .ok (.aload_n 0, 1) := by decide +kernel
theorem dX6_type_40 : decode cX6_type 40 = .ok (.getfield 20, 3) := by decide +kernel
theorem dX6_type_43 : decode cX6_type 43 = .ok (.getfield 65, 3) := by decide +kernel
theorem dX6_type_46 : decode cX6_type 46 = .ok (.ireturn, 1) := by decide +kernel
theorem dX6_clear_0 : decode cX6_clear 0 = .ok (.aload_n 0, 1) := by decide +kernel
theorem dX6_clear_1 : decode cX6_clear 1 = .ok (.getfield 20, 3) := by decide +kernel
theorem dX6_clear_4 : decode cX6_clear 4 = .ok (.getfield 65, 3) := by decide +kernel
theorem dX6_clear_7 : decode cX6_clear 7 = .ok (.istore_n 1, 1) := by decide +kernel
theorem dX6_clear_8 : decode cX6_clear 8 = .ok (.aload_n 0, 1) := by decide +kernel
theorem dX6_clear_9 : decode cX6_clear 9 = .ok (.getfield 20, 3) := by decide +kernel
theorem dX6_clear_12 : decode cX6_clear 12 = .ok (.iconst 0, 1) := by decide +kernel
theorem dX6_clear_13 : decode cX6_clear 13 = .ok (.putfield 65, 3) := by decide +kernel
theorem dX6_clear_16 : decode cX6_clear 16 = .ok (.iload_n 1, 1) := by decide +kernel
theorem dX6_clear_17 : decode cX6_clear 17 = .ok (.ireturn, 1) := by decide +kernel
theorem dX6_square_0 : decode cX6_square 0 = .ok (.aload_n 0, 1) := by decide +kernel
theorem dX6_square_1 : decode cX6_square 1 = .ok (.getfield 12, 3) := by decide +kernel
theorem dX6_square_4 : decode cX6_square 4 = .ok (.invokevirtual 75, 3) := by decide +kernel
theorem dX6_square_7 : decode cX6_square 7 = .ok (.istore_n 1, 1) := by decide +kernel
theorem dX6_square_8 : decode cX6_square 8 = .ok (.iload_n 1, 1) := by decide +kernel
theorem dX6_square_9 : decode cX6_square 9 = .ok (.ifCond .ge 5, 3) := by decide +kernel
theorem dX6_square_12 : decode cX6_square 12 = .ok (.iload_n 1, 1) := by decide +kernel
theorem dX6_square_13 : decode cX6_square 13 = .ok (.ireturn, 1) := by decide +kernel
theorem dX6_square_14 : decode cX6_square 14 = .ok (.aload_n 0, 1) := by decide +kernel
theorem dX6_square_15 : decode cX6_square 15 = .ok (.getfield 24, 3) := by decide +kernel
theorem dX6_square_18 : decode cX6_square 18 = .ok (.aload_n 0, 1) := by decide +kernel
theorem dX6_square_19 : decode cX6_square 19 = .ok (.getfield 12, 3) := by decide +kernel
theorem dX6_square_22 : decode cX6_square 22 = .ok (.getfield 79, 3) := by decide +kernel
theorem dX6_square_25 : decode cX6_square 25 = .ok (.invokevirtual 82, 3) := by decide +kernel
theorem dX6_square_28 : decode cX6_square 28 = .ok (.aload_n 0, 1) := by decide +kernel
theorem dX6_square_29 : decode cX6_square 29 = .ok (.getfield 20, 3) := by decide +kernel
theorem dX6_square_32 : decode cX6_square 32 = .ok (.iconst 0, 1) := by decide +kernel
theorem dX6_square_33 : decode cX6_square 33 = .ok (.putfield 65, 3) := by decide +kernel
theorem dX6_square_36 : decode cX6_square 36 = .ok (.aload_n 0, 1) := by decide +kernel
theorem dX6_square_37 : decode cX6_square 37 = .ok (.getfield 31, 3) := by decide +kernel
theorem dX6_square_40 : decode cX6_square 40 = .ok (.invokevirtual 86, 3) := by decide +kernel
theorem dX6_square_43 : decode cX6_square 43 = .ok (.iconst 0, 1) := by decide +kernel
theorem dX6_square_44 : decode cX6_square 44 = .ok (.istore_n 2, 1) := by decide +kernel
theorem dX6_square_45 : decode cX6_square 45 = .ok (.iload_n 2, 1) := by decide +kernel
theorem dX6_square_46 : decode cX6_square 46 = .ok (.iconst 2, 1) := by decide +kernel
theorem dX6_square_47 : decode cX6_square 47 = .ok (.if_icmp .ge 16, 3) := by decide +kernel
theorem dX6_square_50 : decode cX6_square 50 = .ok (.aload_n 0, 1) := by decide +kernel
theorem dX6_square_51 : decode cX6_square 51 = .ok (.getfield 39, 3) := by decide +kernel
theorem dX6_square_54 : decode cX6_square 54 = .ok (.iload_n 2, 1) := by decide +kernel
theorem dX6_square_55 : decode cX6_square 55 = .ok (.iconst 0, 1) := by decide +kernel
theorem dX6_square_56 : decode cX6_square 56 = .ok (.bastore, 1) := by decide +kernel
theorem dX6_square_57 : decode cX6_square 57 = .ok (.iinc 2 1, 3) := by decide +kernel
theorem dX6_square_60 : decode cX6_square 60 = .ok (.goto (-15), 3) := by decide +kernel
theorem dX6_square_63 : decode cX6_square 63 = .ok (.iload_n 1, 1) := by decide +kernel
theorem dX6_square_64 : decode cX6_square 64 = .ok (.ireturn, 1) := by decide +kernel
theorem dX6_bar_0 : decode cX6_bar 0 = .ok (.aload_n 0, 1) := by decide +kernel
theorem dX6_bar_1 : decode cX6_bar 1 = .ok (.getfield 24, 3) := by decide +kernel
theorem dX6_bar_4 : decode cX6_bar 4 = .ok (.iload_n 1, 1) := by decide +kernel
theorem dX6_bar_5 : decode cX6_bar 5 = .ok (.invokevirtual 89, 3) := by decide +kernel
theorem dX6_bar_8 : decode cX6_bar 8 = .ok (.ifCond .eq 15, 3) := by decide +kernel
theorem dX6_bar_11 : decode cX6_bar 11 = .ok (.aload_n 0, 1) := by decide +kernel
theorem dX6_bar_12 : decode cX6_bar 12 = .ok (.getfield 24, 3) := by decide +kernel
theorem dX6_bar_15 : decode cX6_bar 15 = .ok (.getfield 93, 3) := by decide +kernel
theorem dX6_bar_18 : decode cX6_bar 18 = .ok (.iload_n 1, 1) := by decide +kernel
theorem dX6_bar_19 : decode cX6_bar 19 = .ok (.iaload, 1) := by decide +kernel
theorem dX6_bar_20 : decode cX6_bar 20 = .ok (.goto 4, 3) := by decide +kernel
theorem dX6_bar_23 : decode cX6_bar 23 = .ok (.iconst (-1), 1) := by decide +kernel
theorem dX6_bar_24 : decode cX6_bar 24 = .ok (.ireturn, 1) := by decide +kernel
theorem dX6_person_0 : decode cX6_person 0 = .ok (.aload_n 0, 1) := by decide +kernel
theorem dX6_person_1 : decode cX6_person 1 = .ok (.getfield 24, 3) := by decide +kernel
theorem dX6_person_4 : decode cX6_person 4 = .ok (.iload_n 1, 1) := by decide +kernel
theorem dX6_person_5 : decode cX6_person 5 = .ok (.invokevirtual 97, 3) := by decide +kernel
theorem dX6_person_8 : decode cX6_person 8 = .ok (.ifCond .eq 15, 3) := by decide +kernel
theorem dX6_person_11 : decode cX6_person 11 = .ok (.aload_n 0, 1) := by decide +kernel
theorem dX6_person_12 : decode cX6_person 12 = .ok (.getfield 24, 3) := by decide +kernel
theorem dX6_person_15 : decode cX6_person 15 = .ok (.getfield 100, 3) := by decide +kernel
theorem dX6_person_18 : decode cX6_person 18 = .ok (.iload_n 1, 1) := by decide +kernel
theorem dX6_person_19 : decode cX6_person 19 = .ok (.iaload, 1) := by decide +kernel
theorem dX6_person_20 : decode cX6_person 20 = .ok (.goto 4, 3) := by decide +kernel
theorem dX6_person_23 : decode cX6_person 23 = .ok (.iconst (-1), 1) := by decide +kernel
theorem dX6_person_24 : decode cX6_person 24 = .ok (.ireturn, 1) := by decide +kernel
theorem dX6_rain_0 : decode cX6_rain 0 = .ok (.iload_n 1, 1) := by decide +kernel
theorem dX6_rain_1 : decode cX6_rain 1 = .ok (.invokestatic 103, 3) := by decide +kernel
theorem dX6_rain_4 : decode cX6_rain 4 = .ok (.ifCond .eq 15, 3) := by decide +kernel
theorem dX6_rain_7 : decode cX6_rain 7 = .ok (.aload_n 0, 1) := by decide +kernel
theorem dX6_rain_8 : decode cX6_rain 8 = .ok (.getfield 24, 3) := by decide +kernel
theorem dX6_rain_11 : decode cX6_rain 11 = .ok (.getfield 106, 3) := by decide +kernel
theorem dX6_rain_14 : decode cX6_rain 14 = .ok (.iload_n 1, 1) := by decide +kernel
theorem dX6_rain_15 : decode cX6_rain 15 = .ok (.iaload, 1) := by decide +kernel
theorem dX6_rain_16 : decode cX6_rain 16 = .ok (.goto 4, 3) := by decide +kernel
theorem dX6_rain_19 : decode cX6_rain 19 = .ok (.iconst (-1), 1) := by decide +kernel
theorem dX6_rain_20 : decode cX6_rain 20 = .ok (.ireturn, 1) := by decide +kernel
theorem dX6_paint_0 : decode cX6_paint 0 = .ok (.aload_n 0, 1) := by decide +kernel
theorem dX6_paint_1 : decode cX6_paint 1 = .ok (.getfield 24, 3) := by decide +kernel
theorem dX6_paint_4 : decode cX6_paint 4 = .ok (.iload_n 1, 1) := by decide +kernel
theorem dX6_paint_5 : decode cX6_paint 5 = .ok (.invokevirtual 89, 3) := by decide +kernel
theorem dX6_paint_8 : decode cX6_paint 8 = .ok (.ifCond .eq 10, 3) := by decide +kernel
theorem dX6_paint_11 : decode cX6_paint 11 = .ok (.iload_n 2, 1) := by decide +kernel
theorem dX6_paint_12 : decode cX6_paint 12 = .ok (.invokestatic 103, 3) := by decide +kernel
theorem dX6_paint_15 : decode cX6_paint 15 = .ok (.ifCond .ne 5, 3) := by decide +kernel
theorem dX6_paint_18 : decode cX6_paint 18 = .ok (.iconst (-1), 1) := by decide +kernel
theorem dX6_paint_19 : decode cX6_paint 19 = .ok (.ireturn, 1) := by decide +kernel
theorem dX6_paint_20 : decode cX6_paint 20 = .ok (.aload_n 0, 1) := by decide +kernel
theorem dX6_paint_21 : decode cX6_paint 21 = .ok (.getfield 24, 3) := by decide +kernel
theorem dX6_paint_24 : decode cX6_paint 24 = .ok (.iload_n 1, 1) := by decide +kernel
theorem dX6_paint_25 : decode cX6_paint 25 = .ok (.iload_n 2, 1) := by decide +kernel
theorem dX6_paint_26 : decode cX6_paint 26 = .ok (.invokevirtual 109, 3) := by decide +kernel
theorem dX6_paint_29 : decode cX6_paint 29 = .ok (.ifCond .eq 5, 3) := by decide +kernel
theorem dX6_paint_32 : decode cX6_paint 32 = .ok (.iconst 2, 1) := by decide +kernel
theorem dX6_paint_33 : decode cX6_paint 33 = .ok (.ireturn, 1) := by decide +kernel
theorem dX6_paint_34 : decode cX6_paint 34 = .ok (.aload_n 0, 1) := by decide +kernel
theorem dX6_paint_35 : decode cX6_paint 35 = .ok (.getfield 24, 3) := by decide +kernel
theorem dX6_paint_38 : decode cX6_paint 38 = .ok (.iload_n 1, 1) := by decide +kernel
theorem dX6_paint_39 : decode cX6_paint 39 = .ok (.iload_n 2, 1) := by decide +kernel
theorem dX6_paint_40 : decode cX6_paint 40 = .ok (.invokevirtual 113, 3) := by decide +kernel
theorem dX6_paint_43 : decode cX6_paint 43 = .ok (.ifCond .eq 7, 3) := by decide +kernel
theorem dX6_paint_46 : decode cX6_paint 46 = .ok (.iconst 1, 1) := by decide +kernel
theorem dX6_paint_47 : decode cX6_paint 47 = .ok (.goto 4, 3) := by decide +kernel
theorem dX6_paint_50 : decode cX6_paint 50 = .ok (.iconst 0, 1) := by decide +kernel
theorem dX6_paint_51 : decode cX6_paint 51 = .ok (.ireturn, 1) := by decide +kernel
theorem dX6_holds_0 : decode cX6_holds 0 = .ok (.aload_n 0, 1) := by decide +kernel
theorem dX6_holds_1 : decode cX6_holds 1 = .ok (.getfield 24, 3) := by decide +kernel
theorem dX6_holds_4 : decode cX6_holds 4 = .ok (.iload_n 1, 1) := by decide +kernel
theorem dX6_holds_5 : decode cX6_holds 5 = .ok (.invokevirtual 97, 3) := by decide +kernel
theorem dX6_holds_8 : decode cX6_holds 8 = .ok (.ifCond .eq 14, 3) := by decide +kernel
theorem dX6_holds_11 : decode cX6_holds 11 = .ok (.aload_n 0, 1) := by decide +kernel
theorem dX6_holds_12 : decode cX6_holds 12 = .ok (.getfield 24, 3) := by decide +kernel
theorem dX6_holds_15 : decode cX6_holds 15 = .ok (.iload_n 2, 1) := by decide +kernel
theorem dX6_holds_16 : decode cX6_holds 16 = .ok (.invokevirtual 89, 3) := by decide +kernel
theorem dX6_holds_19 : decode cX6_holds 19 = .ok (.ifCond .ne 5, 3) := by decide +kernel
theorem dX6_holds_22 : decode cX6_holds 22 = .ok (.iconst (-1), 1) := by decide +kernel
theorem dX6_holds_23 : decode cX6_holds 23 = .ok (.ireturn, 1) := by decide +kernel
theorem dX6_holds_24 : decode cX6_holds 24 = .ok (.iload_n 3, 1) := by decide +kernel
theorem dX6_holds_25 : decode cX6_holds 25 = .ok (.invokestatic 103, 3) := by decide +kernel
theorem dX6_holds_28 : decode cX6_holds 28 = .ok (.ifCond .eq 16, 3) := by decide +kernel
theorem dX6_holds_31 : decode cX6_holds 31 = .ok (.iload 4, 2) := by decide +kernel
theorem dX6_holds_33 : decode cX6_holds 33 = .ok (.iconst 1, 1) := by decide +kernel
theorem dX6_holds_34 : decode cX6_holds 34 = .ok (.bipush 10, 2) := by decide +kernel
theorem dX6_holds_36 : decode cX6_holds 36 = .ok (.iload_n 3, 1) := by decide +kernel
theorem dX6_holds_37 : decode cX6_holds 37 = .ok (.isub, 1) := by decide +kernel
theorem dX6_holds_38 : decode cX6_holds 38 = .ok (.invokestatic 61, 3) := by decide +kernel
theorem dX6_holds_41 : decode cX6_holds 41 = .ok (.ifCond .ne 5, 3) := by decide +kernel
theorem dX6_holds_44 : decode cX6_holds 44 = .ok (.iconst (-1), 1) := by decide +kernel
theorem dX6_holds_45 : decode cX6_holds 45 = .ok (.ireturn, 1) := by decide +kernel
theorem dX6_holds_46 : decode cX6_holds 46 = .ok (.aload_n 0, 1) := by decide +kernel
theorem dX6_holds_47 : decode cX6_holds 47 = .ok (.getfield 31, 3) := by decide +kernel
theorem dX6_holds_50 : decode cX6_holds 50 = .ok (.getfield 116, 3) := by decide +kernel
theorem dX6_holds_53 : decode cX6_holds 53 = .ok (.bipush 12, 2) := by decide +kernel
theorem dX6_holds_55 : decode cX6_holds 55 = .ok (.if_icmp .lt 6, 3) := by decide +kernel
theorem dX6_holds_58 : decode cX6_holds 58 = .ok (.bipush (-3), 2) := by decide +kernel
theorem dX6_holds_60 : decode cX6_holds 60 = .ok (.ireturn, 1) := by decide +kernel
theorem dX6_holds_61 : decode cX6_holds 61 = .ok (.aload_n 0, 1) := by decide +kernel
theorem dX6_holds_62 : decode cX6_holds 62 = .ok (.getfield 31, 3) := by decide +kernel
theorem dX6_holds_65 : decode cX6_holds 65 = .ok (.iload_n 1, 1) := by decide +kernel
theorem dX6_holds_66 : decode cX6_holds 66 = .ok (.iload_n 2, 1) := by decide +kernel
theorem dX6_holds_67 : decode cX6_holds 67 = .ok (.iload_n 3, 1) := by decide +kernel
theorem dX6_holds_68 : decode cX6_holds 68 = .ok (.iload 4, 2) := by decide +kernel
theorem dX6_holds_70 : decode cX6_holds 70 = .ok (.invokevirtual 119, 3) := by decide +kernel
theorem dX6_holds_73 : decode cX6_holds 73 = .ok (.aload_n 0, 1) := by decide +kernel
theorem dX6_holds_74 : decode cX6_holds 74 = .ok (.getfield 31, 3) := by decide +kernel
theorem dX6_holds_77 : decode cX6_holds 77 = .ok (.getfield 116, 3) := by decide +kernel
theorem dX6_holds_80 : decode cX6_holds 80 = .ok (.ireturn, 1) := by decide +kernel
theorem dX6_undo_0 : decode cX6_undo 0 = .ok (.aload_n 0, 1) := by decide +kernel
theorem dX6_undo_1 : decode cX6_undo 1 = .ok (.getfield 31, 3) := by decide +kernel
theorem dX6_undo_4 : decode cX6_undo 4 = .ok (.getfield 116, 3) := by decide +kernel
theorem dX6_undo_7 : decode cX6_undo 7 = .ok (.ifCond .gt 6, 3) := by decide +kernel
theorem dX6_undo_10 : decode cX6_undo 10 = .ok (.bipush (-2), 2) := by decide +kernel
theorem dX6_undo_12 : decode cX6_undo 12 = .ok (.ireturn, 1) := by decide +kernel
theorem dX6_undo_13 : decode cX6_undo 13 = .ok (.aload_n 0, 1) := by decide +kernel
theorem dX6_undo_14 : decode cX6_undo 14 = .ok (.getfield 31, 3) := by decide +kernel
theorem dX6_undo_17 : decode cX6_undo 17 = .ok (.dup, 1) := by decide +kernel
theorem dX6_undo_18 : decode cX6_undo 18 = .ok (.getfield 116, 3) := by decide +kernel
theorem dX6_undo_21 : decode cX6_undo 21 = .ok (.iconst 1, 1) := by decide +kernel
theorem dX6_undo_22 : decode cX6_undo 22 = .ok (.isub, 1) := by decide +kernel
theorem dX6_undo_23 : decode cX6_undo 23 = .ok (.putfield 116, 3) := by decide +kernel
theorem dX6_undo_26 : decode cX6_undo 26 = .ok (.aload_n 0, 1) := by decide +kernel
theorem dX6_undo_27 : decode cX6_undo 27 = .ok (.getfield 31, 3) := by decide +kernel
theorem dX6_undo_30 : decode cX6_undo 30 = .ok (.getfield 116, 3) := by decide +kernel
theorem dX6_undo_33 : decode cX6_undo 33 = .ok (.ireturn, 1) := by decide +kernel
theorem dX6_held_0 : decode cX6_held 0 = .ok (.iload_n 1, 1) := by decide +kernel
theorem dX6_held_1 : decode cX6_held 1 = .ok (.iconst 0, 1) := by decide +kernel
theorem dX6_held_2 : decode cX6_held 2 = .ok (.aload_n 0, 1) := by decide +kernel
theorem dX6_held_3 : decode cX6_held 3 = .ok (.getfield 31, 3) := by decide +kernel
theorem dX6_held_6 : decode cX6_held 6 = .ok (.getfield 116, 3) := by decide +kernel
theorem dX6_held_9 : decode cX6_held 9 = .ok (.iconst 1, 1) := by decide +kernel
theorem dX6_held_10 : decode cX6_held 10 = .ok (.isub, 1) := by decide +kernel
theorem dX6_held_11 : decode cX6_held 11 = .ok (.invokestatic 61, 3) := by decide +kernel
theorem dX6_held_14 : decode cX6_held 14 = .ok (.ifCond .ne 5, 3) := by decide +kernel
theorem dX6_held_17 : decode cX6_held 17 = .ok (.iconst (-1), 1) := by decide +kernel
theorem dX6_held_18 : decode cX6_held 18 = .ok (.ireturn, 1) := by decide +kernel
theorem dX6_held_19 : decode cX6_held 19 = .ok (.iload_n 2, 1) := by decide +kernel
theorem dX6_held_20 : decode cX6_held 20 = .ok (.tableswitch 72 0 3 #[32, 42, 52, 62], 32) := by decide +kernel
theorem dX6_held_52 : decode cX6_held 52 = .ok (.aload_n 0, 1) := by decide +kernel
theorem dX6_held_53 : decode cX6_held 53 = .ok (.getfield 31, 3) := by decide +kernel
theorem dX6_held_56 : decode cX6_held 56 = .ok (.getfield 123, 3) := by decide +kernel
theorem dX6_held_59 : decode cX6_held 59 = .ok (.iload_n 1, 1) := by decide +kernel
theorem dX6_held_60 : decode cX6_held 60 = .ok (.iaload, 1) := by decide +kernel
theorem dX6_held_61 : decode cX6_held 61 = .ok (.ireturn, 1) := by decide +kernel
theorem dX6_held_62 : decode cX6_held 62 = .ok (.aload_n 0, 1) := by decide +kernel
theorem dX6_held_63 : decode cX6_held 63 = .ok (.getfield 31, 3) := by decide +kernel
theorem dX6_held_66 : decode cX6_held 66 = .ok (.getfield 126, 3) := by decide +kernel
theorem dX6_held_69 : decode cX6_held 69 = .ok (.iload_n 1, 1) := by decide +kernel
theorem dX6_held_70 : decode cX6_held 70 = .ok (.iaload, 1) := by decide +kernel
theorem dX6_held_71 : decode cX6_held 71 = .ok (.ireturn, 1) := by decide +kernel
theorem dX6_held_72 : decode cX6_held 72 = .ok (.aload_n 0, 1) := by decide +kernel
theorem dX6_held_73 : decode cX6_held 73 = .ok (.getfield 31, 3) := by decide +kernel
theorem dX6_held_76 : decode cX6_held 76 = .ok (.getfield 129, 3) := by decide +kernel
theorem dX6_held_79 : decode cX6_held 79 = .ok (.iload_n 1, 1) := by decide +kernel
theorem dX6_held_80 : decode cX6_held 80 = .ok (.iaload, 1) := by decide +kernel
theorem dX6_held_81 : decode cX6_held 81 = .ok (.ireturn, 1) := by decide +kernel
theorem dX6_held_82 : decode cX6_held 82 = .ok (.aload_n 0, 1) := by decide +kernel
theorem dX6_held_83 : decode cX6_held 83 = .ok (.getfield 31, 3) := by decide +kernel
theorem dX6_held_86 : decode cX6_held 86 = .ok (.getfield 132, 3) := by decide +kernel
theorem dX6_held_89 : decode cX6_held 89 = .ok (.iload_n 1, 1) := by decide +kernel
theorem dX6_held_90 : decode cX6_held 90 = .ok (.iaload, 1) := by decide +kernel
theorem dX6_held_91 : decode cX6_held 91 = .ok (.ireturn, 1) := by decide +kernel
theorem dX6_held_92 : decode cX6_held 92 = .ok (.iconst (-1), 1) := by decide +kernel
theorem dX6_held_93 : decode cX6_held 93 = .ok (.ireturn, 1) := by decide +kernel
theorem dX6_rust_0 : decode cX6_rust 0 = .ok (.aload_n 0, 1) := by decide +kernel
theorem dX6_rust_1 : decode cX6_rust 1 = .ok (.getfield 24, 3) := by decide +kernel
theorem dX6_rust_4 : decode cX6_rust 4 = .ok (.iload_n 1, 1) := by decide +kernel
theorem dX6_rust_5 : decode cX6_rust 5 = .ok (.invokevirtual 89, 3) := by decide +kernel
theorem dX6_rust_8 : decode cX6_rust 8 = .ok (.ifCond .eq 10, 3) := by decide +kernel
theorem dX6_rust_11 : decode cX6_rust 11 = .ok (.iload_n 2, 1) := by decide +kernel
theorem dX6_rust_12 : decode cX6_rust 12 = .ok (.invokestatic 103, 3) := by decide +kernel
theorem dX6_rust_15 : decode cX6_rust 15 = .ok (.ifCond .ne 5, 3) := by decide +kernel
theorem dX6_rust_18 : decode cX6_rust 18 = .ok (.iconst (-1), 1) := by decide +kernel
theorem dX6_rust_19 : decode cX6_rust 19 = .ok (.ireturn, 1) := by decide +kernel
theorem dX6_rust_20 : decode cX6_rust 20 = .ok (.aload_n 0, 1) := by decide +kernel
theorem dX6_rust_21 : decode cX6_rust 21 = .ok (.iload_n 1, 1) := by decide +kernel
theorem dX6_rust_22 : decode cX6_rust 22 = .ok (.iload_n 2, 1) := by decide +kernel
theorem dX6_rust_23 : decode cX6_rust 23 = .ok (.invokevirtual 135, 3) := by decide +kernel
theorem dX6_rust_26 : decode cX6_rust 26 = .ok (.ireturn, 1) := by decide +kernel
theorem dX6_saw_0 : decode cX6_saw 0 = .ok (.aload_n 0, 1) := by decide +kernel
theorem dX6_saw_1 : decode cX6_saw 1 = .ok (.getfield 24, 3) := by decide +kernel
theorem dX6_saw_4 : decode cX6_saw 4 = .ok (.iload_n 1, 1) := by decide +kernel
theorem dX6_saw_5 : decode cX6_saw 5 = .ok (.invokevirtual 89, 3) := by decide +kernel
theorem dX6_saw_8 : decode cX6_saw 8 = .ok (.ifCond .eq 14, 3) := by decide +kernel
theorem dX6_saw_11 : decode cX6_saw 11 = .ok (.iload_n 2, 1) := by decide +kernel
theorem dX6_saw_12 : decode cX6_saw 12 = .ok (.iconst 0, 1) := by decide +kernel
theorem dX6_saw_13 : decode cX6_saw 13 = .ok (.sipush 999, 3) := by decide +kernel
theorem dX6_saw_16 : decode cX6_saw 16 = .ok (.invokestatic 61, 3) := by decide +kernel
theorem dX6_saw_19 : decode cX6_saw 19 = .ok (.ifCond .ne 5, 3) := by decide +kernel
theorem dX6_saw_22 : decode cX6_saw 22 = .ok (.iconst (-1), 1) := by decide +kernel
theorem dX6_saw_23 : decode cX6_saw 23 = .ok (.ireturn, 1) := by decide +kernel
theorem dX6_saw_24 : decode cX6_saw 24 = .ok (.aload_n 0, 1) := by decide +kernel
theorem dX6_saw_25 : decode cX6_saw 25 = .ok (.getfield 31, 3) := by decide +kernel
theorem dX6_saw_28 : decode cX6_saw 28 = .ok (.getfield 139, 3) := by decide +kernel
theorem dX6_saw_31 : decode cX6_saw 31 = .ok (.iload_n 1, 1) := by decide +kernel
theorem dX6_saw_32 : decode cX6_saw 32 = .ok (.iaload, 1) := by decide +kernel
theorem dX6_saw_33 : decode cX6_saw 33 = .ok (.istore_n 3, 1) := by decide +kernel
theorem dX6_saw_34 : decode cX6_saw 34 = .ok (.aload_n 0, 1) := by decide +kernel
theorem dX6_saw_35 : decode cX6_saw 35 = .ok (.getfield 31, 3) := by decide +kernel
theorem dX6_saw_38 : decode cX6_saw 38 = .ok (.getfield 139, 3) := by decide +kernel
theorem dX6_saw_41 : decode cX6_saw 41 = .ok (.iload_n 1, 1) := by decide +kernel
theorem dX6_saw_42 : decode cX6_saw 42 = .ok (.iload_n 2, 1) := by decide +kernel
theorem dX6_saw_43 : decode cX6_saw 43 = .ok (.iastore, 1) := by decide +kernel
theorem dX6_saw_44 : decode cX6_saw 44 = .ok (.iload_n 3, 1) := by decide +kernel
theorem dX6_saw_45 : decode cX6_saw 45 = .ok (.ireturn, 1) := by decide +kernel
theorem dX6_hide_0 : decode cX6_hide 0 = .ok (.aload_n 0, 1) := by decide +kernel
theorem dX6_hide_1 : decode cX6_hide 1 = .ok (.getfield 24, 3) := by decide +kernel
theorem dX6_hide_4 : decode cX6_hide 4 = .ok (.iload_n 1, 1) := by decide +kernel
theorem dX6_hide_5 : decode cX6_hide 5 = .ok (.invokevirtual 89, 3) := by decide +kernel
theorem dX6_hide_8 : decode cX6_hide 8 = .ok (.ifCond .ne 5, 3) := by decide +kernel
theorem dX6_hide_11 : decode cX6_hide 11 = .ok (.iconst (-1), 1) := by decide +kernel
