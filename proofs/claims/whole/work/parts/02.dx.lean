theorem dX0_init_0 : decode cX0_init 0 = .ok (.aload_n 0, 1) := by decide +kernel
theorem dX0_init_1 : decode cX0_init 1 = .ok (.invokespecial 3, 3) := by decide +kernel
theorem dX0_init_4 : decode cX0_init 4 = .ok (.aload_n 0, 1) := by decide +kernel
theorem dX0_init_5 : decode cX0_init 5 = .ok (.bipush 20, 2) := by decide +kernel
theorem dX0_init_7 : decode cX0_init 7 = .ok (.anewarray 9, 3) := by decide +kernel
theorem dX0_init_10 : decode cX0_init 10 = .ok (.putfield 11, 3) := by decide +kernel
theorem dX0_init_13 : decode cX0_init 13 = .ok (.iconst 0, 1) := by decide +kernel
theorem dX0_init_14 : decode cX0_init 14 = .ok (.istore_n 1, 1) := by decide +kernel
theorem dX0_init_15 : decode cX0_init 15 = .ok (.iload_n 1, 1) := by decide +kernel
theorem dX0_init_16 : decode cX0_init 16 = .ok (.bipush 20, 2) := by decide +kernel
theorem dX0_init_18 : decode cX0_init 18 = .ok (.if_icmp .ge 22, 3) := by decide +kernel
theorem dX0_init_21 : decode cX0_init 21 = .ok (.aload_n 0, 1) := by decide +kernel
theorem dX0_init_22 : decode cX0_init 22 = .ok (.getfield 11, 3) := by decide +kernel
theorem dX0_init_25 : decode cX0_init 25 = .ok (.iload_n 1, 1) := by decide +kernel
theorem dX0_init_26 : decode cX0_init 26 = .ok (.new 9, 3) := by decide +kernel
theorem dX0_init_29 : decode cX0_init 29 = .ok (.dup, 1) := by decide +kernel
theorem dX0_init_30 : decode cX0_init 30 = .ok (.invokespecial 17, 3) := by decide +kernel
theorem dX0_init_33 : decode cX0_init 33 = .ok (.aastore, 1) := by decide +kernel
theorem dX0_init_34 : decode cX0_init 34 = .ok (.iinc 1 1, 3) := by decide +kernel
theorem dX0_init_37 : decode cX0_init 37 = .ok (.goto (-22), 3) := by decide +kernel
theorem dX0_init_40 : decode cX0_init 40 = .ok (.return_, 1) := by decide +kernel
theorem dX0_forget_0 : decode cX0_forget 0 = .ok (.aload_n 0, 1) := by decide +kernel
theorem dX0_forget_1 : decode cX0_forget 1 = .ok (.iconst 0, 1) := by decide +kernel
theorem dX0_forget_2 : decode cX0_forget 2 = .ok (.putfield 18, 3) := by decide +kernel
theorem dX0_forget_5 : decode cX0_forget 5 = .ok (.aload_n 0, 1) := by decide +kernel
theorem dX0_forget_6 : decode cX0_forget 6 = .ok (.iconst 0, 1) := by decide +kernel
theorem dX0_forget_7 : decode cX0_forget 7 = .ok (.putfield 22, 3) := by decide +kernel
theorem dX0_forget_10 : decode cX0_forget 10 = .ok (.return_, 1) := by decide +kernel
theorem dX0_keep_0 : decode cX0_keep 0 = .ok (.aload_n 0, 1) := by decide +kernel
theorem dX0_keep_1 : decode cX0_keep 1 = .ok (.getfield 11, 3) := by decide +kernel
theorem dX0_keep_4 : decode cX0_keep 4 = .ok (.aload_n 0, 1) := by decide +kernel
theorem dX0_keep_5 : decode cX0_keep 5 = .ok (.getfield 18, 3) := by decide +kernel
theorem dX0_keep_8 : decode cX0_keep 8 = .ok (.aload_n 0, 1) := by decide +kernel
theorem dX0_keep_9 : decode cX0_keep 9 = .ok (.getfield 22, 3) := by decide +kernel
theorem dX0_keep_12 : decode cX0_keep 12 = .ok (.iadd, 1) := by decide +kernel
theorem dX0_keep_13 : decode cX0_keep 13 = .ok (.bipush 20, 2) := by decide +kernel
theorem dX0_keep_15 : decode cX0_keep 15 = .ok (.irem, 1) := by decide +kernel
theorem dX0_keep_16 : decode cX0_keep 16 = .ok (.aaload, 1) := by decide +kernel
theorem dX0_keep_17 : decode cX0_keep 17 = .ok (.aload_n 1, 1) := by decide +kernel
theorem dX0_keep_18 : decode cX0_keep 18 = .ok (.invokevirtual 25, 3) := by decide +kernel
theorem dX0_keep_21 : decode cX0_keep 21 = .ok (.aload_n 0, 1) := by decide +kernel
theorem dX0_keep_22 : decode cX0_keep 22 = .ok (.getfield 22, 3) := by decide +kernel
theorem dX0_keep_25 : decode cX0_keep 25 = .ok (.bipush 20, 2) := by decide +kernel
theorem dX0_keep_27 : decode cX0_keep 27 = .ok (.if_icmp .ge 16, 3) := by decide +kernel
theorem dX0_keep_30 : decode cX0_keep 30 = .ok (.aload_n 0, 1) := by decide +kernel
theorem dX0_keep_31 : decode cX0_keep 31 = .ok (.dup, 1) := by decide +kernel
theorem dX0_keep_32 : decode cX0_keep 32 = .ok (.getfield 22, 3) := by decide +kernel
theorem dX0_keep_35 : decode cX0_keep 35 = .ok (.iconst 1, 1) := by decide +kernel
theorem dX0_keep_36 : decode cX0_keep 36 = .ok (.iadd, 1) := by decide +kernel
theorem dX0_keep_37 : decode cX0_keep 37 = .ok (.putfield 22, 3) := by decide +kernel
theorem dX0_keep_40 : decode cX0_keep 40 = .ok (.goto 16, 3) := by decide +kernel
theorem dX0_keep_43 : decode cX0_keep 43 = .ok (.aload_n 0, 1) := by decide +kernel
theorem dX0_keep_44 : decode cX0_keep 44 = .ok (.aload_n 0, 1) := by decide +kernel
theorem dX0_keep_45 : decode cX0_keep 45 = .ok (.getfield 18, 3) := by decide +kernel
theorem dX0_keep_48 : decode cX0_keep 48 = .ok (.iconst 1, 1) := by decide +kernel
theorem dX0_keep_49 : decode cX0_keep 49 = .ok (.iadd, 1) := by decide +kernel
theorem dX0_keep_50 : decode cX0_keep 50 = .ok (.bipush 20, 2) := by decide +kernel
theorem dX0_keep_52 : decode cX0_keep 52 = .ok (.irem, 1) := by decide +kernel
theorem dX0_keep_53 : decode cX0_keep 53 = .ok (.putfield 18, 3) := by decide +kernel
theorem dX0_keep_56 : decode cX0_keep 56 = .ok (.return_, 1) := by decide +kernel
theorem dX0_takeBack_0 : decode cX0_takeBack 0 = .ok (.aload_n 0, 1) := by decide +kernel
theorem dX0_takeBack_1 : decode cX0_takeBack 1 = .ok (.getfield 22, 3) := by decide +kernel
theorem dX0_takeBack_4 : decode cX0_takeBack 4 = .ok (.ifCond .le 34, 3) := by decide +kernel
theorem dX0_takeBack_7 : decode cX0_takeBack 7 = .ok (.aload_n 0, 1) := by decide +kernel
theorem dX0_takeBack_8 : decode cX0_takeBack 8 = .ok (.dup, 1) := by decide +kernel
theorem dX0_takeBack_9 : decode cX0_takeBack 9 = .ok (.getfield 22, 3) := by decide +kernel
theorem dX0_takeBack_12 : decode cX0_takeBack 12 = .ok (.iconst 1, 1) := by decide +kernel
theorem dX0_takeBack_13 : decode cX0_takeBack 13 = .ok (.isub, 1) := by decide +kernel
theorem dX0_takeBack_14 : decode cX0_takeBack 14 = .ok (.putfield 22, 3) := by decide +kernel
theorem dX0_takeBack_17 : decode cX0_takeBack 17 = .ok (.aload_n 1, 1) := by decide +kernel
theorem dX0_takeBack_18 : decode cX0_takeBack 18 = .ok (.aload_n 0, 1) := by decide +kernel
theorem dX0_takeBack_19 : decode cX0_takeBack 19 = .ok (.getfield 11, 3) := by decide +kernel
theorem dX0_takeBack_22 : decode cX0_takeBack 22 = .ok (.aload_n 0, 1) := by decide +kernel
theorem dX0_takeBack_23 : decode cX0_takeBack 23 = .ok (.getfield 18, 3) := by decide +kernel
theorem dX0_takeBack_26 : decode cX0_takeBack 26 = .ok (.aload_n 0, 1) := by decide +kernel
theorem dX0_takeBack_27 : decode cX0_takeBack 27 = .ok (.getfield 22, 3) := by decide +kernel
theorem dX0_takeBack_30 : decode cX0_takeBack 30 = .ok (.iadd, 1) := by decide +kernel
theorem dX0_takeBack_31 : decode cX0_takeBack 31 = .ok (.bipush 20, 2) := by decide +kernel
theorem dX0_takeBack_33 : decode cX0_takeBack 33 = .ok (.irem, 1) := by decide +kernel
theorem dX0_takeBack_34 : decode cX0_takeBack 34 = .ok (.aaload, 1) := by decide +kernel
theorem dX0_takeBack_35 : decode cX0_takeBack 35 = .ok (.invokevirtual 25, 3) := by decide +kernel
theorem dX0_takeBack_38 : decode cX0_takeBack 38 = .ok (.return_, 1) := by decide +kernel
theorem dX1_init_0 : decode cX1_init 0 = .ok (.aload_n 0, 1) := by decide +kernel
theorem dX1_init_1 : decode cX1_init 1 = .ok (.invokespecial 3, 3) := by decide +kernel
theorem dX1_init_4 : decode cX1_init 4 = .ok (.aload_n 0, 1) := by decide +kernel
theorem dX1_init_5 : decode cX1_init 5 = .ok (.aload_n 1, 1) := by decide +kernel
theorem dX1_init_6 : decode cX1_init 6 = .ok (.putfield 9, 3) := by decide +kernel
theorem dX1_init_9 : decode cX1_init 9 = .ok (.return_, 1) := by decide +kernel
theorem dX1_readClauses_0 : decode cX1_readClauses 0 = .ok (.aload_n 0, 1) := by decide +kernel
theorem dX1_readClauses_1 : decode cX1_readClauses 1 = .ok (.iconst 0, 1) := by decide +kernel
theorem dX1_readClauses_2 : decode cX1_readClauses 2 = .ok (.invokevirtual 15, 3) := by decide +kernel
theorem dX1_readClauses_5 : decode cX1_readClauses 5 = .ok (.iconst 1, 1) := by decide +kernel
theorem dX1_readClauses_6 : decode cX1_readClauses 6 = .ok (.istore_n 2, 1) := by decide +kernel
theorem dX1_readClauses_7 : decode cX1_readClauses 7 = .ok (.iload_n 2, 1) := by decide +kernel
theorem dX1_readClauses_8 : decode cX1_readClauses 8 = .ok (.iload_n 1, 1) := by decide +kernel
theorem dX1_readClauses_9 : decode cX1_readClauses 9 = .ok (.if_icmp .gt 43, 3) := by decide +kernel
theorem dX1_readClauses_12 : decode cX1_readClauses 12 = .ok (.aload_n 0, 1) := by decide +kernel
theorem dX1_readClauses_13 : decode cX1_readClauses 13 = .ok (.getfield 9, 3) := by decide +kernel
theorem dX1_readClauses_16 : decode cX1_readClauses 16 = .ok (.invokevirtual 19, 3) := by decide +kernel
theorem dX1_readClauses_19 : decode cX1_readClauses 19 = .ok (.ifCond .eq 33, 3) := by decide +kernel
theorem dX1_readClauses_22 : decode cX1_readClauses 22 = .ok (.aload_n 0, 1) := by decide +kernel
theorem dX1_readClauses_23 : decode cX1_readClauses 23 = .ok (.getfield 9, 3) := by decide +kernel
theorem dX1_readClauses_26 : decode cX1_readClauses 26 = .ok (.bipush 59, 2) := by decide +kernel
theorem dX1_readClauses_28 : decode cX1_readClauses 28 = .ok (.invokevirtual 25, 3) := by decide +kernel
theorem dX1_readClauses_31 : decode cX1_readClauses 31 = .ok (.ifCond .eq 21, 3) := by decide +kernel
theorem dX1_readClauses_34 : decode cX1_readClauses 34 = .ok (.aload_n 0, 1) := by decide +kernel
theorem dX1_readClauses_35 : decode cX1_readClauses 35 = .ok (.getfield 9, 3) := by decide +kernel
theorem dX1_readClauses_38 : decode cX1_readClauses 38 = .ok (.invokevirtual 29, 3) := by decide +kernel
theorem dX1_readClauses_41 : decode cX1_readClauses 41 = .ok (.aload_n 0, 1) := by decide +kernel
theorem dX1_readClauses_42 : decode cX1_readClauses 42 = .ok (.iload_n 2, 1) := by decide +kernel
theorem dX1_readClauses_43 : decode cX1_readClauses 43 = .ok (.invokevirtual 15, 3) := by decide +kernel
theorem dX1_readClauses_46 : decode cX1_readClauses 46 = .ok (.iinc 2 1, 3) := by decide +kernel
theorem dX1_readClauses_49 : decode cX1_readClauses 49 = .ok (.goto (-42), 3) := by decide +kernel
theorem dX1_readClauses_52 : decode cX1_readClauses 52 = .ok (.aload_n 0, 1) := by decide +kernel
theorem dX1_readClauses_53 : decode cX1_readClauses 53 = .ok (.getfield 9, 3) := by decide +kernel
theorem dX1_readClauses_56 : decode cX1_readClauses 56 = .ok (.invokevirtual 32, 3) := by decide +kernel
theorem dX1_readClauses_59 : decode cX1_readClauses 59 = .ok (.ifCond .eq 11, 3) := by decide +kernel
theorem dX1_readClauses_62 : decode cX1_readClauses 62 = .ok (.aload_n 0, 1) := by decide +kernel
theorem dX1_readClauses_63 : decode cX1_readClauses 63 = .ok (.getfield 9, 3) := by decide +kernel
theorem dX1_readClauses_66 : decode cX1_readClauses 66 = .ok (.iconst 0, 1) := by decide +kernel
theorem dX1_readClauses_67 : decode cX1_readClauses 67 = .ok (.invokevirtual 36, 3) := by decide +kernel
theorem dX1_readClauses_70 : decode cX1_readClauses 70 = .ok (.aload_n 0, 1) := by decide +kernel
theorem dX1_readClauses_71 : decode cX1_readClauses 71 = .ok (.getfield 9, 3) := by decide +kernel
theorem dX1_readClauses_74 : decode cX1_readClauses 74 = .ok (.getfield 39, 3) := by decide +kernel
theorem dX1_readClauses_77 : decode cX1_readClauses 77 = .ok (.ireturn, 1) := by decide +kernel
theorem dX2_init_0 : decode cX2_init 0 = .ok (.aload_n 0, 1) := by decide +kernel
theorem dX2_init_1 : decode cX2_init 1 = .ok (.invokespecial 3, 3) := by decide +kernel
theorem dX2_init_4 : decode cX2_init 4 = .ok (.aload_n 0, 1) := by decide +kernel
theorem dX2_init_5 : decode cX2_init 5 = .ok (.bipush 56, 2) := by decide +kernel
theorem dX2_init_7 : decode cX2_init 7 = .ok (.newarray .int, 2) := by decide +kernel
theorem dX2_init_9 : decode cX2_init 9 = .ok (.putfield 9, 3) := by decide +kernel
theorem dX2_init_12 : decode cX2_init 12 = .ok (.aload_n 0, 1) := by decide +kernel
theorem dX2_init_13 : decode cX2_init 13 = .ok (.bipush 56, 2) := by decide +kernel
theorem dX2_init_15 : decode cX2_init 15 = .ok (.newarray .int, 2) := by decide +kernel
theorem dX2_init_17 : decode cX2_init 17 = .ok (.putfield 15, 3) := by decide +kernel
theorem dX2_init_20 : decode cX2_init 20 = .ok (.aload_n 0, 1) := by decide +kernel
theorem dX2_init_21 : decode cX2_init 21 = .ok (.bipush 56, 2) := by decide +kernel
theorem dX2_init_23 : decode cX2_init 23 = .ok (.newarray .int, 2) := by decide +kernel
theorem dX2_init_25 : decode cX2_init 25 = .ok (.putfield 18, 3) := by decide +kernel
theorem dX2_init_28 : decode cX2_init 28 = .ok (.aload_n 0, 1) := by decide +kernel
theorem dX2_init_29 : decode cX2_init 29 = .ok (.bipush 7, 2) := by decide +kernel
theorem dX2_init_31 : decode cX2_init 31 = .ok (.newarray .int, 2) := by decide +kernel
theorem dX2_init_33 : decode cX2_init 33 = .ok (.putfield 21, 3) := by decide +kernel
theorem dX2_init_36 : decode cX2_init 36 = .ok (.aload_n 0, 1) := by decide +kernel
theorem dX2_init_37 : decode cX2_init 37 = .ok (.iconst (-1), 1) := by decide +kernel
theorem dX2_init_38 : decode cX2_init 38 = .ok (.putfield 24, 3) := by decide +kernel
theorem dX2_init_41 : decode cX2_init 41 = .ok (.return_, 1) := by decide +kernel
theorem dX2_begin_0 : decode cX2_begin 0 = .ok (.aload_n 0, 1) := by decide +kernel
theorem dX2_begin_1 : decode cX2_begin 1 = .ok (.getfield 9, 3) := by decide +kernel
theorem dX2_begin_4 : decode cX2_begin 4 = .ok (.iconst 2, 1) := by decide +kernel
theorem dX2_begin_5 : decode cX2_begin 5 = .ok (.invokestatic 28, 3) := by decide +kernel
theorem dX2_begin_8 : decode cX2_begin 8 = .ok (.aload_n 0, 1) := by decide +kernel
theorem dX2_begin_9 : decode cX2_begin 9 = .ok (.getfield 15, 3) := by decide +kernel
theorem dX2_begin_12 : decode cX2_begin 12 = .ok (.iconst 0, 1) := by decide +kernel
theorem dX2_begin_13 : decode cX2_begin 13 = .ok (.invokestatic 28, 3) := by decide +kernel
theorem dX2_begin_16 : decode cX2_begin 16 = .ok (.iconst 0, 1) := by decide +kernel
theorem dX2_begin_17 : decode cX2_begin 17 = .ok (.istore_n 2, 1) := by decide +kernel
theorem dX2_begin_18 : decode cX2_begin 18 = .ok (.iload_n 2, 1) := by decide +kernel
theorem dX2_begin_19 : decode cX2_begin 19 = .ok (.aload_n 1, 1) := by decide +kernel
theorem dX2_begin_20 : decode cX2_begin 20 = .ok (.getfield 34, 3) := by decide +kernel
theorem dX2_begin_23 : decode cX2_begin 23 = .ok (.if_icmp .ge 77, 3) := by decide +kernel
theorem dX2_begin_26 : decode cX2_begin 26 = .ok (.iconst 0, 1) := by decide +kernel
theorem dX2_begin_27 : decode cX2_begin 27 = .ok (.istore_n 3, 1) := by decide +kernel
theorem dX2_begin_28 : decode cX2_begin 28 = .ok (.iload_n 3, 1) := by decide +kernel
theorem dX2_begin_29 : decode cX2_begin 29 = .ok (.aload_n 1, 1) := by decide +kernel
theorem dX2_begin_30 : decode cX2_begin 30 = .ok (.getfield 39, 3) := by decide +kernel
theorem dX2_begin_33 : decode cX2_begin 33 = .ok (.if_icmp .ge 55, 3) := by decide +kernel
theorem dX2_begin_36 : decode cX2_begin 36 = .ok (.aload_n 1, 1) := by decide +kernel
theorem dX2_begin_37 : decode cX2_begin 37 = .ok (.getfield 42, 3) := by decide +kernel
theorem dX2_begin_40 : decode cX2_begin 40 = .ok (.iload_n 2, 1) := by decide +kernel
theorem dX2_begin_41 : decode cX2_begin 41 = .ok (.iaload, 1) := by decide +kernel
theorem dX2_begin_42 : decode cX2_begin 42 = .ok (.iload_n 3, 1) := by decide +kernel
theorem dX2_begin_43 : decode cX2_begin 43 = .ok (.invokestatic 45, 3) := by decide +kernel
theorem dX2_begin_46 : decode cX2_begin 46 = .ok (.iconst 1, 1) := by decide +kernel
theorem dX2_begin_47 : decode cX2_begin 47 = .ok (.if_icmp .ne 35, 3) := by decide +kernel
theorem dX2_begin_50 : decode cX2_begin 50 = .ok (.aload_n 0, 1) := by decide +kernel
theorem dX2_begin_51 : decode cX2_begin 51 = .ok (.getfield 9, 3) := by decide +kernel
theorem dX2_begin_54 : decode cX2_begin 54 = .ok (.iload_n 2, 1) := by decide +kernel
theorem dX2_begin_55 : decode cX2_begin 55 = .ok (.bipush 8, 2) := by decide +kernel
theorem dX2_begin_57 : decode cX2_begin 57 = .ok (.imul, 1) := by decide +kernel
theorem dX2_begin_58 : decode cX2_begin 58 = .ok (.iload_n 3, 1) := by decide +kernel
theorem dX2_begin_59 : decode cX2_begin 59 = .ok (.iadd, 1) := by decide +kernel
theorem dX2_begin_60 : decode cX2_begin 60 = .ok (.aload_n 1, 1) := by decide +kernel
theorem dX2_begin_61 : decode cX2_begin 61 = .ok (.getfield 49, 3) := by decide +kernel
theorem dX2_begin_64 : decode cX2_begin 64 = .ok (.iload_n 3, 1) := by decide +kernel
theorem dX2_begin_65 : decode cX2_begin 65 = .ok (.invokestatic 45, 3) := by decide +kernel
theorem dX2_begin_68 : decode cX2_begin 68 = .ok (.iastore, 1) := by decide +kernel
theorem dX2_begin_69 : decode cX2_begin 69 = .ok (.aload_n 0, 1) := by decide +kernel
theorem dX2_begin_70 : decode cX2_begin 70 = .ok (.getfield 15, 3) := by decide +kernel
theorem dX2_begin_73 : decode cX2_begin 73 = .ok (.iload_n 2, 1) := by decide +kernel
theorem dX2_begin_74 : decode cX2_begin 74 = .ok (.bipush 8, 2) := by decide +kernel
theorem dX2_begin_76 : decode cX2_begin 76 = .ok (.imul, 1) := by decide +kernel
theorem dX2_begin_77 : decode cX2_begin 77 = .ok (.iload_n 3, 1) := by decide +kernel
theorem dX2_begin_78 : decode cX2_begin 78 = .ok (.iadd, 1) := by decide +kernel
theorem dX2_begin_79 : decode cX2_begin 79 = .ok (.bipush 10, 2) := by decide +kernel
theorem dX2_begin_81 : decode cX2_begin 81 = .ok (.iastore, 1) := by decide +kernel
theorem dX2_begin_82 : decode cX2_begin 82 = .ok (.iinc 3 1, 3) := by decide +kernel
theorem dX2_begin_85 : decode cX2_begin 85 = .ok (.goto (-57), 3) := by decide +kernel
theorem dX2_begin_88 : decode cX2_begin 88 = .ok (.aload_n 0, 1) := by decide +kernel
theorem dX2_begin_89 : decode cX2_begin 89 = .ok (.aload_n 1, 1) := by decide +kernel
theorem dX2_begin_90 : decode cX2_begin 90 = .ok (.iload_n 2, 1) := by decide +kernel
theorem dX2_begin_91 : decode cX2_begin 91 = .ok (.invokevirtual 52, 3) := by decide +kernel
theorem dX2_begin_94 : decode cX2_begin 94 = .ok (.iinc 2 1, 3) := by decide +kernel
theorem dX2_begin_97 : decode cX2_begin 97 = .ok (.goto (-79), 3) := by decide +kernel
theorem dX2_begin_100 : decode cX2_begin 100 = .ok (.aload_n 0, 1) := by decide +kernel
theorem dX2_begin_101 : decode cX2_begin 101 = .ok (.iconst 0, 1) := by decide +kernel
theorem dX2_begin_102 : decode cX2_begin 102 = .ok (.putfield 56, 3) := by decide +kernel
theorem dX2_begin_105 : decode cX2_begin 105 = .ok (.aload_n 0, 1) := by decide +kernel
theorem dX2_begin_106 : decode cX2_begin 106 = .ok (.iconst 0, 1) := by decide +kernel
theorem dX2_begin_107 : decode cX2_begin 107 = .ok (.putfield 59, 3) := by decide +kernel
theorem dX2_begin_110 : decode cX2_begin 110 = .ok (.aload_n 0, 1) := by decide +kernel
theorem dX2_begin_111 : decode cX2_begin 111 = .ok (.invokevirtual 62, 3) := by decide +kernel
theorem dX2_begin_114 : decode cX2_begin 114 = .ok (.return_, 1) := by decide +kernel
theorem dX2_copyFrom_0 : decode cX2_copyFrom 0 = .ok (.aload_n 1, 1) := by decide +kernel
theorem dX2_copyFrom_1 : decode cX2_copyFrom 1 = .ok (.getfield 9, 3) := by decide +kernel
theorem dX2_copyFrom_4 : decode cX2_copyFrom 4 = .ok (.iconst 0, 1) := by decide +kernel
theorem dX2_copyFrom_5 : decode cX2_copyFrom 5 = .ok (.aload_n 0, 1) := by decide +kernel
theorem dX2_copyFrom_6 : decode cX2_copyFrom 6 = .ok (.getfield 9, 3) := by decide +kernel
theorem dX2_copyFrom_9 : decode cX2_copyFrom 9 = .ok (.iconst 0, 1) := by decide +kernel
theorem dX2_copyFrom_10 : decode cX2_copyFrom 10 = .ok (.bipush 56, 2) := by decide +kernel
theorem dX2_copyFrom_12 : decode cX2_copyFrom 12 = .ok (.invokestatic 65, 3) := by decide +kernel
theorem dX2_copyFrom_15 : decode cX2_copyFrom 15 = .ok (.aload_n 1, 1) := by decide +kernel
theorem dX2_copyFrom_16 : decode cX2_copyFrom 16 = .ok (.getfield 15, 3) := by decide +kernel
theorem dX2_copyFrom_19 : decode cX2_copyFrom 19 = .ok (.iconst 0, 1) := by decide +kernel
theorem dX2_copyFrom_20 : decode cX2_copyFrom 20 = .ok (.aload_n 0, 1) := by decide +kernel
theorem dX2_copyFrom_21 : decode cX2_copyFrom 21 = .ok (.getfield 15, 3) := by decide +kernel
theorem dX2_copyFrom_24 : decode cX2_copyFrom 24 = .ok (.iconst 0, 1) := by decide +kernel
theorem dX2_copyFrom_25 : decode cX2_copyFrom 25 = .ok (.bipush 56, 2) := by decide +kernel
theorem dX2_copyFrom_27 : decode cX2_copyFrom 27 = .ok (.invokestatic 65, 3) := by decide +kernel
theorem dX2_copyFrom_30 : decode cX2_copyFrom 30 = .ok (.aload_n 1, 1) := by decide +kernel
theorem dX2_copyFrom_31 : decode cX2_copyFrom 31 = .ok (.getfield 18, 3) := by decide +kernel
theorem dX2_copyFrom_34 : decode cX2_copyFrom 34 = .ok (.iconst 0, 1) := by decide +kernel
theorem dX2_copyFrom_35 : decode cX2_copyFrom 35 = .ok (.aload_n 0, 1) := by decide +kernel
theorem dX2_copyFrom_36 : decode cX2_copyFrom 36 = .ok (.getfield 18, 3) := by decide +kernel
theorem dX2_copyFrom_39 : decode cX2_copyFrom 39 = .ok (.iconst 0, 1) := by decide +kernel
theorem dX2_copyFrom_40 : decode cX2_copyFrom 40 = .ok (.bipush 56, 2) := by decide +kernel
theorem dX2_copyFrom_42 : decode cX2_copyFrom 42 = .ok (.invokestatic 65, 3) := by decide +kernel
theorem dX2_copyFrom_45 : decode cX2_copyFrom 45 = .ok (.aload_n 1, 1) := by decide +kernel
theorem dX2_copyFrom_46 : decode cX2_copyFrom 46 = .ok (.getfield 21, 3) := by decide +kernel
theorem dX2_copyFrom_49 : decode cX2_copyFrom 49 = .ok (.iconst 0, 1) := by decide +kernel
theorem dX2_copyFrom_50 : decode cX2_copyFrom 50 = .ok (.aload_n 0, 1) := by decide +kernel
theorem dX2_copyFrom_51 : decode cX2_copyFrom 51 = .ok (.getfield 21, 3) := by decide +kernel
theorem dX2_copyFrom_54 : decode cX2_copyFrom 54 = .ok (.iconst 0, 1) := by decide +kernel
theorem dX2_copyFrom_55 : decode cX2_copyFrom 55 = .ok (.bipush 7, 2) := by decide +kernel
theorem dX2_copyFrom_57 : decode cX2_copyFrom 57 = .ok (.invokestatic 65, 3) := by decide +kernel
theorem dX2_copyFrom_60 : decode cX2_copyFrom 60 = .ok (.aload_n 0, 1) := by decide +kernel
theorem dX2_copyFrom_61 : decode cX2_copyFrom 61 = .ok (.aload_n 1, 1) := by decide +kernel
theorem dX2_copyFrom_62 : decode cX2_copyFrom 62 = .ok (.getfield 56, 3) := by decide +kernel
theorem dX2_copyFrom_65 : decode cX2_copyFrom 65 = .ok (.putfield 56, 3) := by decide +kernel
theorem dX2_copyFrom_68 : decode cX2_copyFrom 68 = .ok (.aload_n 0, 1) := by decide +kernel
theorem dX2_copyFrom_69 : decode cX2_copyFrom 69 = .ok (.aload_n 1, 1) := by decide +kernel
theorem dX2_copyFrom_70 : decode cX2_copyFrom 70 = .ok (.getfield 59, 3) := by decide +kernel
theorem dX2_copyFrom_73 : decode cX2_copyFrom 73 = .ok (.putfield 59, 3) := by decide +kernel
theorem dX2_copyFrom_76 : decode cX2_copyFrom 76 = .ok (.aload_n 0, 1) := by decide +kernel
theorem dX2_copyFrom_77 : decode cX2_copyFrom 77 = .ok (.aload_n 1, 1) := by decide +kernel
theorem dX2_copyFrom_78 : decode cX2_copyFrom 78 = .ok (.getfield 71, 3) := by decide +kernel
theorem dX2_copyFrom_81 : decode cX2_copyFrom 81 = .ok (.putfield 71, 3) := by decide +kernel
theorem dX2_copyFrom_84 : decode cX2_copyFrom 84 = .ok (.aload_n 0, 1) := by decide +kernel
theorem dX2_copyFrom_85 : decode cX2_copyFrom 85 = .ok (.aload_n 1, 1) := by decide +kernel
theorem dX2_copyFrom_86 : decode cX2_copyFrom 86 = .ok (.getfield 24, 3) := by decide +kernel
theorem dX2_copyFrom_89 : decode cX2_copyFrom 89 = .ok (.putfield 24, 3) := by decide +kernel
theorem dX2_copyFrom_92 : decode cX2_copyFrom 92 = .ok (.return_, 1) := by decide +kernel
theorem dX2_conclude_0 : decode cX2_conclude 0 = .ok (.aload_n 0, 1) := by decide +kernel
theorem dX2_conclude_1 : decode cX2_conclude 1 = .ok (.getfield 9, 3) := by decide +kernel
theorem dX2_conclude_4 : decode cX2_conclude 4 = .ok (.iload_n 2, 1) := by decide +kernel
theorem dX2_conclude_5 : decode cX2_conclude 5 = .ok (.bipush 8, 2) := by decide +kernel
theorem dX2_conclude_7 : decode cX2_conclude 7 = .ok (.imul, 1) := by decide +kernel
theorem dX2_conclude_8 : decode cX2_conclude 8 = .ok (.aload_n 0, 1) := by decide +kernel
theorem dX2_conclude_9 : decode cX2_conclude 9 = .ok (.getfield 18, 3) := by decide +kernel
theorem dX2_conclude_12 : decode cX2_conclude 12 = .ok (.iload_n 2, 1) := by decide +kernel
theorem dX2_conclude_13 : decode cX2_conclude 13 = .ok (.bipush 8, 2) := by decide +kernel
theorem dX2_conclude_15 : decode cX2_conclude 15 = .ok (.imul, 1) := by decide +kernel
theorem dX2_conclude_16 : decode cX2_conclude 16 = .ok (.bipush 8, 2) := by decide +kernel
theorem dX2_conclude_18 : decode cX2_conclude 18 = .ok (.invokestatic 65, 3) := by decide +kernel
theorem dX2_conclude_21 : decode cX2_conclude 21 = .ok (.aload_n 1, 1) := by decide +kernel
theorem dX2_conclude_22 : decode cX2_conclude 22 = .ok (.aload_n 0, 1) := by decide +kernel
theorem dX2_conclude_23 : decode cX2_conclude 23 = .ok (.getfield 18, 3) := by decide +kernel
theorem dX2_conclude_26 : decode cX2_conclude 26 = .ok (.iload_n 2, 1) := by decide +kernel
theorem dX2_conclude_27 : decode cX2_conclude 27 = .ok (.bipush 8, 2) := by decide +kernel
theorem dX2_conclude_29 : decode cX2_conclude 29 = .ok (.imul, 1) := by decide +kernel
theorem dX2_conclude_30 : decode cX2_conclude 30 = .ok (.invokevirtual 74, 3) := by decide +kernel
theorem dX2_conclude_33 : decode cX2_conclude 33 = .ok (.return_, 1) := by decide +kernel
theorem dX2_forgetLies_0 : decode cX2_forgetLies 0 = .ok (.aload_n 0, 1) := by decide +kernel
theorem dX2_forgetLies_1 : decode cX2_forgetLies 1 = .ok (.getfield 21, 3) := by decide +kernel
theorem dX2_forgetLies_4 : decode cX2_forgetLies 4 = .ok (.iconst 0, 1) := by decide +kernel
theorem dX2_forgetLies_5 : decode cX2_forgetLies 5 = .ok (.invokestatic 28, 3) := by decide +kernel
theorem dX2_forgetLies_8 : decode cX2_forgetLies 8 = .ok (.aload_n 0, 1) := by decide +kernel
theorem dX2_forgetLies_9 : decode cX2_forgetLies 9 = .ok (.iconst 0, 1) := by decide +kernel
theorem dX2_forgetLies_10 : decode cX2_forgetLies 10 = .ok (.putfield 71, 3) := by decide +kernel
theorem dX2_forgetLies_13 : decode cX2_forgetLies 13 = .ok (.aload_n 0, 1) := by decide +kernel
theorem dX2_forgetLies_14 : decode cX2_forgetLies 14 = .ok (.iconst (-1), 1) := by decide +kernel
theorem dX2_forgetLies_15 : decode cX2_forgetLies 15 = .ok (.putfield 24, 3) := by decide +kernel
theorem dX2_forgetLies_18 : decode cX2_forgetLies 18 = .ok (.return_, 1) := by decide +kernel
theorem dX2_beginDay_0 : decode cX2_beginDay 0 = .ok (.aload_n 0, 1) := by decide +kernel
theorem dX2_beginDay_1 : decode cX2_beginDay 1 = .ok (.aload_n 0, 1) := by decide +kernel
theorem dX2_beginDay_2 : decode cX2_beginDay 2 = .ok (.getfield 56, 3) := by decide +kernel
theorem dX2_beginDay_5 : decode cX2_beginDay 5 = .ok (.iconst 1, 1) := by decide +kernel
theorem dX2_beginDay_6 : decode cX2_beginDay 6 = .ok (.iadd, 1) := by decide +kernel
theorem dX2_beginDay_7 : decode cX2_beginDay 7 = .ok (.sipush 9999, 3) := by decide +kernel
theorem dX2_beginDay_10 : decode cX2_beginDay 10 = .ok (.invokestatic 77, 3) := by decide +kernel
theorem dX2_beginDay_13 : decode cX2_beginDay 13 = .ok (.putfield 56, 3) := by decide +kernel
theorem dX2_beginDay_16 : decode cX2_beginDay 16 = .ok (.aload_n 0, 1) := by decide +kernel
theorem dX2_beginDay_17 : decode cX2_beginDay 17 = .ok (.iconst 0, 1) := by decide +kernel
theorem dX2_beginDay_18 : decode cX2_beginDay 18 = .ok (.putfield 59, 3) := by decide +kernel
theorem dX2_beginDay_21 : decode cX2_beginDay 21 = .ok (.aload_n 0, 1) := by decide +kernel
theorem dX2_beginDay_22 : decode cX2_beginDay 22 = .ok (.invokevirtual 62, 3) := by decide +kernel
theorem dX2_beginDay_25 : decode cX2_beginDay 25 = .ok (.aload_n 1, 1) := by decide +kernel
theorem dX2_beginDay_26 : decode cX2_beginDay 26 = .ok (.getfield 82, 3) := by decide +kernel
theorem dX2_beginDay_29 : decode cX2_beginDay 29 = .ok (.ifCond .eq 8, 3) := by decide +kernel
theorem dX2_beginDay_32 : decode cX2_beginDay 32 = .ok (.aload_n 0, 1) := by decide +kernel
theorem dX2_beginDay_33 : decode cX2_beginDay 33 = .ok (.aload_n 1, 1) := by decide +kernel
theorem dX2_beginDay_34 : decode cX2_beginDay 34 = .ok (.invokevirtual 86, 3) := by decide +kernel
theorem dX2_beginDay_37 : decode cX2_beginDay 37 = .ok (.return_, 1) := by decide +kernel
theorem dX2_correctAll_0 : decode cX2_correctAll 0 = .ok (.iconst 0, 1) := by decide +kernel
theorem dX2_correctAll_1 : decode cX2_correctAll 1 = .ok (.istore_n 2, 1) := by decide +kernel
theorem dX2_correctAll_2 : decode cX2_correctAll 2 = .ok (.iload_n 2, 1) := by decide +kernel
theorem dX2_correctAll_3 : decode cX2_correctAll 3 = .ok (.aload_n 1, 1) := by decide +kernel
theorem dX2_correctAll_4 : decode cX2_correctAll 4 = .ok (.getfield 34, 3) := by decide +kernel
theorem dX2_correctAll_7 : decode cX2_correctAll 7 = .ok (.if_icmp .ge 73, 3) := by decide +kernel
theorem dX2_correctAll_10 : decode cX2_correctAll 10 = .ok (.iconst 0, 1) := by decide +kernel
theorem dX2_correctAll_11 : decode cX2_correctAll 11 = .ok (.istore_n 3, 1) := by decide +kernel
theorem dX2_correctAll_12 : decode cX2_correctAll 12 = .ok (.iload_n 3, 1) := by decide +kernel
theorem dX2_correctAll_13 : decode cX2_correctAll 13 = .ok (.aload_n 1, 1) := by decide +kernel
theorem dX2_correctAll_14 : decode cX2_correctAll 14 = .ok (.getfield 39, 3) := by decide +kernel
theorem dX2_correctAll_17 : decode cX2_correctAll 17 = .ok (.if_icmp .ge 51, 3) := by decide +kernel
theorem dX2_correctAll_20 : decode cX2_correctAll 20 = .ok (.iload_n 2, 1) := by decide +kernel
theorem dX2_correctAll_21 : decode cX2_correctAll 21 = .ok (.bipush 8, 2) := by decide +kernel
theorem dX2_correctAll_23 : decode cX2_correctAll 23 = .ok (.imul, 1) := by decide +kernel
theorem dX2_correctAll_24 : decode cX2_correctAll 24 = .ok (.iload_n 3, 1) := by decide +kernel
theorem dX2_correctAll_25 : decode cX2_correctAll 25 = .ok (.iadd, 1) := by decide +kernel
theorem dX2_correctAll_26 : decode cX2_correctAll 26 = .ok (.istore 4, 2) := by decide +kernel
theorem dX2_correctAll_28 : decode cX2_correctAll 28 = .ok (.aload_n 0, 1) := by decide +kernel
theorem dX2_correctAll_29 : decode cX2_correctAll 29 = .ok (.getfield 9, 3) := by decide +kernel
theorem dX2_correctAll_32 : decode cX2_correctAll 32 = .ok (.iload 4, 2) := by decide +kernel
theorem dX2_correctAll_34 : decode cX2_correctAll 34 = .ok (.iaload, 1) := by decide +kernel
theorem dX2_correctAll_35 : decode cX2_correctAll 35 = .ok (.aload_n 1, 1) := by decide +kernel
theorem dX2_correctAll_36 : decode cX2_correctAll 36 = .ok (.getfield 49, 3) := by decide +kernel
theorem dX2_correctAll_39 : decode cX2_correctAll 39 = .ok (.iload_n 3, 1) := by decide +kernel
theorem dX2_correctAll_40 : decode cX2_correctAll 40 = .ok (.invokestatic 45, 3) := by decide +kernel
theorem dX2_correctAll_43 : decode cX2_correctAll 43 = .ok (.if_icmp .eq 19, 3) := by decide +kernel
theorem dX2_correctAll_46 : decode cX2_correctAll 46 = .ok (.aload_n 0, 1) := by decide +kernel
theorem dX2_correctAll_47 : decode cX2_correctAll 47 = .ok (.getfield 9, 3) := by decide +kernel
theorem dX2_correctAll_50 : decode cX2_correctAll 50 = .ok (.iload 4, 2) := by decide +kernel
theorem dX2_correctAll_52 : decode cX2_correctAll 52 = .ok (.iconst 2, 1) := by decide +kernel
theorem dX2_correctAll_53 : decode cX2_correctAll 53 = .ok (.iastore, 1) := by decide +kernel
theorem dX2_correctAll_54 : decode cX2_correctAll 54 = .ok (.aload_n 0, 1) := by decide +kernel
theorem dX2_correctAll_55 : decode cX2_correctAll 55 = .ok (.getfield 15, 3) := by decide +kernel
theorem dX2_correctAll_58 : decode cX2_correctAll 58 = .ok (.iload 4, 2) := by decide +kernel
theorem dX2_correctAll_60 : decode cX2_correctAll 60 = .ok (.iconst 0, 1) := by decide +kernel
theorem dX2_correctAll_61 : decode cX2_correctAll 61 = .ok (.iastore, 1) := by decide +kernel
theorem dX2_correctAll_62 : decode cX2_correctAll 62 = .ok (.iinc 3 1, 3) := by decide +kernel
theorem dX2_correctAll_65 : decode cX2_correctAll 65 = .ok (.goto (-53), 3) := by decide +kernel
theorem dX2_correctAll_68 : decode cX2_correctAll 68 = .ok (.aload_n 0, 1) := by decide +kernel
theorem dX2_correctAll_69 : decode cX2_correctAll 69 = .ok (.aload_n 1, 1) := by decide +kernel
theorem dX2_correctAll_70 : decode cX2_correctAll 70 = .ok (.iload_n 2, 1) := by decide +kernel
theorem dX2_correctAll_71 : decode cX2_correctAll 71 = .ok (.invokevirtual 52, 3) := by decide +kernel
theorem dX2_correctAll_74 : decode cX2_correctAll 74 = .ok (.iinc 2 1, 3) := by decide +kernel
theorem dX2_correctAll_77 : decode cX2_correctAll 77 = .ok (.goto (-75), 3) := by decide +kernel
theorem dX2_correctAll_80 : decode cX2_correctAll 80 = .ok (.return_, 1) := by decide +kernel
theorem dX2_countLie_0 : decode cX2_countLie 0 = .ok (.aload_n 0, 1) := by decide +kernel
theorem dX2_countLie_1 : decode cX2_countLie 1 = .ok (.getfield 21, 3) := by decide +kernel
theorem dX2_countLie_4 : decode cX2_countLie 4 = .ok (.iload_n 1, 1) := by decide +kernel
theorem dX2_countLie_5 : decode cX2_countLie 5 = .ok (.dup2, 1) := by decide +kernel
theorem dX2_countLie_6 : decode cX2_countLie 6 = .ok (.iaload, 1) := by decide +kernel
theorem dX2_countLie_7 : decode cX2_countLie 7 = .ok (.iconst 1, 1) := by decide +kernel
theorem dX2_countLie_8 : decode cX2_countLie 8 = .ok (.iadd, 1) := by decide +kernel
theorem dX2_countLie_9 : decode cX2_countLie 9 = .ok (.iastore, 1) := by decide +kernel
theorem dX2_countLie_10 : decode cX2_countLie 10 = .ok (.aload_n 0, 1) := by decide +kernel
theorem dX2_countLie_11 : decode cX2_countLie 11 = .ok (.getfield 21, 3) := by decide +kernel
theorem dX2_countLie_14 : decode cX2_countLie 14 = .ok (.iload_n 1, 1) := by decide +kernel
theorem dX2_countLie_15 : decode cX2_countLie 15 = .ok (.iaload, 1) := by decide +kernel
theorem dX2_countLie_16 : decode cX2_countLie 16 = .ok (.iconst 2, 1) := by decide +kernel
theorem dX2_countLie_17 : decode cX2_countLie 17 = .ok (.if_icmp .ne 24, 3) := by decide +kernel
theorem dX2_countLie_20 : decode cX2_countLie 20 = .ok (.aload_n 0, 1) := by decide +kernel
theorem dX2_countLie_21 : decode cX2_countLie 21 = .ok (.getfield 24, 3) := by decide +kernel
theorem dX2_countLie_24 : decode cX2_countLie 24 = .ok (.iconst (-1), 1) := by decide +kernel
theorem dX2_countLie_25 : decode cX2_countLie 25 = .ok (.if_icmp .ne 16, 3) := by decide +kernel
theorem dX2_countLie_28 : decode cX2_countLie 28 = .ok (.aload_n 0, 1) := by decide +kernel
theorem dX2_countLie_29 : decode cX2_countLie 29 = .ok (.aload_n 0, 1) := by decide +kernel
theorem dX2_countLie_30 : decode cX2_countLie 30 = .ok (.getfield 59, 3) := by decide +kernel
theorem dX2_countLie_33 : decode cX2_countLie 33 = .ok (.putfield 71, 3) := by decide +kernel
theorem dX2_countLie_36 : decode cX2_countLie 36 = .ok (.aload_n 0, 1) := by decide +kernel
theorem dX2_countLie_37 : decode cX2_countLie 37 = .ok (.iload_n 1, 1) := by decide +kernel
theorem dX2_countLie_38 : decode cX2_countLie 38 = .ok (.putfield 24, 3) := by decide +kernel
theorem dX2_countLie_41 : decode cX2_countLie 41 = .ok (.return_, 1) := by decide +kernel
theorem dX2_accepts_0 : decode cX2_accepts 0 = .ok (.iload_n 3, 1) := by decide +kernel
theorem dX2_accepts_1 : decode cX2_accepts 1 = .ok (.bipush 8, 2) := by decide +kernel
theorem dX2_accepts_3 : decode cX2_accepts 3 = .ok (.imul, 1) := by decide +kernel
theorem dX2_accepts_4 : decode cX2_accepts 4 = .ok (.iload 4, 2) := by decide +kernel
theorem dX2_accepts_6 : decode cX2_accepts 6 = .ok (.iadd, 1) := by decide +kernel
theorem dX2_accepts_7 : decode cX2_accepts 7 = .ok (.istore 5, 2) := by decide +kernel
theorem dX2_accepts_9 : decode cX2_accepts 9 = .ok (.aload_n 0, 1) := by decide +kernel
theorem dX2_accepts_10 : decode cX2_accepts 10 = .ok (.getfield 9, 3) := by decide +kernel
theorem dX2_accepts_13 : decode cX2_accepts 13 = .ok (.iload 5, 2) := by decide +kernel
theorem dX2_accepts_15 : decode cX2_accepts 15 = .ok (.iaload, 1) := by decide +kernel
theorem dX2_accepts_16 : decode cX2_accepts 16 = .ok (.iconst 2, 1) := by decide +kernel
theorem dX2_accepts_17 : decode cX2_accepts 17 = .ok (.if_icmp .eq 24, 3) := by decide +kernel
theorem dX2_accepts_20 : decode cX2_accepts 20 = .ok (.aload_n 1, 1) := by decide +kernel
theorem dX2_accepts_21 : decode cX2_accepts 21 = .ok (.getfield 90, 3) := by decide +kernel
theorem dX2_accepts_24 : decode cX2_accepts 24 = .ok (.iload_n 3, 1) := by decide +kernel
theorem dX2_accepts_25 : decode cX2_accepts 25 = .ok (.bipush 7, 2) := by decide +kernel
theorem dX2_accepts_27 : decode cX2_accepts 27 = .ok (.imul, 1) := by decide +kernel
theorem dX2_accepts_28 : decode cX2_accepts 28 = .ok (.iload_n 2, 1) := by decide +kernel
theorem dX2_accepts_29 : decode cX2_accepts 29 = .ok (.iadd, 1) := by decide +kernel
theorem dX2_accepts_30 : decode cX2_accepts 30 = .ok (.iaload, 1) := by decide +kernel
theorem dX2_accepts_31 : decode cX2_accepts 31 = .ok (.aload_n 0, 1) := by decide +kernel
theorem dX2_accepts_32 : decode cX2_accepts 32 = .ok (.getfield 15, 3) := by decide +kernel
theorem dX2_accepts_35 : decode cX2_accepts 35 = .ok (.iload 5, 2) := by decide +kernel
theorem dX2_accepts_37 : decode cX2_accepts 37 = .ok (.iaload, 1) := by decide +kernel
theorem dX2_accepts_38 : decode cX2_accepts 38 = .ok (.if_icmp .lt 7, 3) := by decide +kernel
theorem dX2_accepts_41 : decode cX2_accepts 41 = .ok (.iconst 1, 1) := by decide +kernel
theorem dX2_accepts_42 : decode cX2_accepts 42 = .ok (.goto 4, 3) := by decide +kernel
theorem dX2_accepts_45 : decode cX2_accepts 45 = .ok (.iconst 0, 1) := by decide +kernel
theorem dX2_accepts_46 : decode cX2_accepts 46 = .ok (.ireturn, 1) := by decide +kernel
theorem dX2_hear_0 : decode cX2_hear 0 = .ok (.aload_n 0, 1) := by decide +kernel
theorem dX2_hear_1 : decode cX2_hear 1 = .ok (.aload_n 1, 1) := by decide +kernel
theorem dX2_hear_2 : decode cX2_hear 2 = .ok (.getfield 93, 3) := by decide +kernel
theorem dX2_hear_5 : decode cX2_hear 5 = .ok (.aload_n 1, 1) := by decide +kernel
theorem dX2_hear_6 : decode cX2_hear 6 = .ok (.getfield 99, 3) := by decide +kernel
theorem dX2_hear_9 : decode cX2_hear 9 = .ok (.aload_n 1, 1) := by decide +kernel
theorem dX2_hear_10 : decode cX2_hear 10 = .ok (.getfield 102, 3) := by decide +kernel
theorem dX2_hear_13 : decode cX2_hear 13 = .ok (.aload_n 1, 1) := by decide +kernel
theorem dX2_hear_14 : decode cX2_hear 14 = .ok (.getfield 105, 3) := by decide +kernel
theorem dX2_hear_17 : decode cX2_hear 17 = .ok (.invokevirtual 108, 3) := by decide +kernel
theorem dX2_hear_20 : decode cX2_hear 20 = .ok (.ifCond .eq 64, 3) := by decide +kernel
theorem dX2_hear_23 : decode cX2_hear 23 = .ok (.aload_n 1, 1) := by decide +kernel
theorem dX2_hear_24 : decode cX2_hear 24 = .ok (.getfield 102, 3) := by decide +kernel
theorem dX2_hear_27 : decode cX2_hear 27 = .ok (.bipush 8, 2) := by decide +kernel
theorem dX2_hear_29 : decode cX2_hear 29 = .ok (.imul, 1) := by decide +kernel
theorem dX2_hear_30 : decode cX2_hear 30 = .ok (.aload_n 1, 1) := by decide +kernel
theorem dX2_hear_31 : decode cX2_hear 31 = .ok (.getfield 105, 3) := by decide +kernel
theorem dX2_hear_34 : decode cX2_hear 34 = .ok (.iadd, 1) := by decide +kernel
theorem dX2_hear_35 : decode cX2_hear 35 = .ok (.istore_n 2, 1) := by decide +kernel
theorem dX2_hear_36 : decode cX2_hear 36 = .ok (.aload_n 0, 1) := by decide +kernel
theorem dX2_hear_37 : decode cX2_hear 37 = .ok (.getfield 9, 3) := by decide +kernel
theorem dX2_hear_40 : decode cX2_hear 40 = .ok (.iload_n 2, 1) := by decide +kernel
theorem dX2_hear_41 : decode cX2_hear 41 = .ok (.aload_n 1, 1) := by decide +kernel
theorem dX2_hear_42 : decode cX2_hear 42 = .ok (.getfield 112, 3) := by decide +kernel
theorem dX2_hear_45 : decode cX2_hear 45 = .ok (.iastore, 1) := by decide +kernel
theorem dX2_hear_46 : decode cX2_hear 46 = .ok (.aload_n 0, 1) := by decide +kernel
theorem dX2_hear_47 : decode cX2_hear 47 = .ok (.getfield 15, 3) := by decide +kernel
theorem dX2_hear_50 : decode cX2_hear 50 = .ok (.iload_n 2, 1) := by decide +kernel
theorem dX2_hear_51 : decode cX2_hear 51 = .ok (.aload_n 1, 1) := by decide +kernel
theorem dX2_hear_52 : decode cX2_hear 52 = .ok (.getfield 93, 3) := by decide +kernel
theorem dX2_hear_55 : decode cX2_hear 55 = .ok (.getfield 90, 3) := by decide +kernel
theorem dX2_hear_58 : decode cX2_hear 58 = .ok (.aload_n 1, 1) := by decide +kernel
theorem dX2_hear_59 : decode cX2_hear 59 = .ok (.getfield 102, 3) := by decide +kernel
theorem dX2_hear_62 : decode cX2_hear 62 = .ok (.bipush 7, 2) := by decide +kernel
theorem dX2_hear_64 : decode cX2_hear 64 = .ok (.imul, 1) := by decide +kernel
theorem dX2_hear_65 : decode cX2_hear 65 = .ok (.aload_n 1, 1) := by decide +kernel
theorem dX2_hear_66 : decode cX2_hear 66 = .ok (.getfield 99, 3) := by decide +kernel
theorem dX2_hear_69 : decode cX2_hear 69 = .ok (.iadd, 1) := by decide +kernel
theorem dX2_hear_70 : decode cX2_hear 70 = .ok (.iaload, 1) := by decide +kernel
theorem dX2_hear_71 : decode cX2_hear 71 = .ok (.iastore, 1) := by decide +kernel
theorem dX2_hear_72 : decode cX2_hear 72 = .ok (.aload_n 0, 1) := by decide +kernel
theorem dX2_hear_73 : decode cX2_hear 73 = .ok (.aload_n 1, 1) := by decide +kernel
theorem dX2_hear_74 : decode cX2_hear 74 = .ok (.getfield 93, 3) := by decide +kernel
theorem dX2_hear_77 : decode cX2_hear 77 = .ok (.aload_n 1, 1) := by decide +kernel
theorem dX2_hear_78 : decode cX2_hear 78 = .ok (.getfield 102, 3) := by decide +kernel
theorem dX2_hear_81 : decode cX2_hear 81 = .ok (.invokevirtual 52, 3) := by decide +kernel
theorem dX2_hear_84 : decode cX2_hear 84 = .ok (.return_, 1) := by decide +kernel
theorem dX2_liesOfDay_0 : decode cX2_liesOfDay 0 = .ok (.iconst 0, 1) := by decide +kernel
theorem dX2_liesOfDay_1 : decode cX2_liesOfDay 1 = .ok (.istore_n 1, 1) := by decide +kernel
theorem dX2_liesOfDay_2 : decode cX2_liesOfDay 2 = .ok (.iconst 0, 1) := by decide +kernel
theorem dX2_liesOfDay_3 : decode cX2_liesOfDay 3 = .ok (.istore_n 2, 1) := by decide +kernel
theorem dX2_liesOfDay_4 : decode cX2_liesOfDay 4 = .ok (.iload_n 2, 1) := by decide +kernel
theorem dX2_liesOfDay_5 : decode cX2_liesOfDay 5 = .ok (.bipush 7, 2) := by decide +kernel
theorem dX2_liesOfDay_7 : decode cX2_liesOfDay 7 = .ok (.if_icmp .ge 18, 3) := by decide +kernel
theorem dX2_liesOfDay_10 : decode cX2_liesOfDay 10 = .ok (.iload_n 1, 1) := by decide +kernel
theorem dX2_liesOfDay_11 : decode cX2_liesOfDay 11 = .ok (.aload_n 0, 1) := by decide +kernel
theorem dX2_liesOfDay_12 : decode cX2_liesOfDay 12 = .ok (.getfield 21, 3) := by decide +kernel
theorem dX2_liesOfDay_15 : decode cX2_liesOfDay 15 = .ok (.iload_n 2, 1) := by decide +kernel
theorem dX2_liesOfDay_16 : decode cX2_liesOfDay 16 = .ok (.iaload, 1) := by decide +kernel
theorem dX2_liesOfDay_17 : decode cX2_liesOfDay 17 = .ok (.iadd, 1) := by decide +kernel
theorem dX2_liesOfDay_18 : decode cX2_liesOfDay 18 = .ok (.istore_n 1, 1) := by decide +kernel
theorem dX2_liesOfDay_19 : decode cX2_liesOfDay 19 = .ok (.iinc 2 1, 3) := by decide +kernel
theorem dX2_liesOfDay_22 : decode cX2_liesOfDay 22 = .ok (.goto (-18), 3) := by decide +kernel
theorem dX2_liesOfDay_25 : decode cX2_liesOfDay 25 = .ok (.iload_n 1, 1) := by decide +kernel
theorem dX2_liesOfDay_26 : decode cX2_liesOfDay 26 = .ok (.ireturn, 1) := by decide +kernel
theorem dX2_liedToOnce_0 : decode cX2_liedToOnce 0 = .ok (.iconst 0, 1) := by decide +kernel
theorem dX2_liedToOnce_1 : decode cX2_liedToOnce 1 = .ok (.istore_n 1, 1) := by decide +kernel
theorem dX2_liedToOnce_2 : decode cX2_liedToOnce 2 = .ok (.iconst 0, 1) := by decide +kernel
theorem dX2_liedToOnce_3 : decode cX2_liedToOnce 3 = .ok (.istore_n 2, 1) := by decide +kernel
theorem dX2_liedToOnce_4 : decode cX2_liedToOnce 4 = .ok (.iload_n 2, 1) := by decide +kernel
theorem dX2_liedToOnce_5 : decode cX2_liedToOnce 5 = .ok (.bipush 7, 2) := by decide +kernel
theorem dX2_liedToOnce_7 : decode cX2_liedToOnce 7 = .ok (.if_icmp .ge 27, 3) := by decide +kernel
theorem dX2_liedToOnce_10 : decode cX2_liedToOnce 10 = .ok (.iload_n 1, 1) := by decide +kernel
theorem dX2_liedToOnce_11 : decode cX2_liedToOnce 11 = .ok (.aload_n 0, 1) := by decide +kernel
theorem dX2_liedToOnce_12 : decode cX2_liedToOnce 12 = .ok (.getfield 21, 3) := by decide +kernel
theorem dX2_liedToOnce_15 : decode cX2_liedToOnce 15 = .ok (.iload_n 2, 1) := by decide +kernel
theorem dX2_liedToOnce_16 : decode cX2_liedToOnce 16 = .ok (.iaload, 1) := by decide +kernel
theorem dX2_liedToOnce_17 : decode cX2_liedToOnce 17 = .ok (.iconst 1, 1) := by decide +kernel
theorem dX2_liedToOnce_18 : decode cX2_liedToOnce 18 = .ok (.if_icmp .ne 7, 3) := by decide +kernel
theorem dX2_liedToOnce_21 : decode cX2_liedToOnce 21 = .ok (.iconst 1, 1) := by decide +kernel
theorem dX2_liedToOnce_22 : decode cX2_liedToOnce 22 = .ok (.goto 4, 3) := by decide +kernel
theorem dX2_liedToOnce_25 : decode cX2_liedToOnce 25 = .ok (.iconst 0, 1) := by decide +kernel
theorem dX2_liedToOnce_26 : decode cX2_liedToOnce 26 = .ok (.iadd, 1) := by decide +kernel
theorem dX2_liedToOnce_27 : decode cX2_liedToOnce 27 = .ok (.istore_n 1, 1) := by decide +kernel
theorem dX2_liedToOnce_28 : decode cX2_liedToOnce 28 = .ok (.iinc 2 1, 3) := by decide +kernel
theorem dX2_liedToOnce_31 : decode cX2_liedToOnce 31 = .ok (.goto (-27), 3) := by decide +kernel
theorem dX2_liedToOnce_34 : decode cX2_liedToOnce 34 = .ok (.iload_n 1, 1) := by decide +kernel
theorem dX2_liedToOnce_35 : decode cX2_liedToOnce 35 = .ok (.ireturn, 1) := by decide +kernel
theorem dX2_harmOfAll_0 : decode cX2_harmOfAll 0 = .ok (.iconst 0, 1) := by decide +kernel
theorem dX2_harmOfAll_1 : decode cX2_harmOfAll 1 = .ok (.istore_n 2, 1) := by decide +kernel
theorem dX2_harmOfAll_2 : decode cX2_harmOfAll 2 = .ok (.iconst 0, 1) := by decide +kernel
theorem dX2_harmOfAll_3 : decode cX2_harmOfAll 3 = .ok (.istore_n 3, 1) := by decide +kernel
theorem dX2_harmOfAll_4 : decode cX2_harmOfAll 4 = .ok (.iload_n 3, 1) := by decide +kernel
theorem dX2_harmOfAll_5 : decode cX2_harmOfAll 5 = .ok (.aload_n 1, 1) := by decide +kernel
theorem dX2_harmOfAll_6 : decode cX2_harmOfAll 6 = .ok (.getfield 34, 3) := by decide +kernel
theorem dX2_harmOfAll_9 : decode cX2_harmOfAll 9 = .ok (.if_icmp .ge 24, 3) := by decide +kernel
theorem dX2_harmOfAll_12 : decode cX2_harmOfAll 12 = .ok (.iload_n 2, 1) := by decide +kernel
theorem dX2_harmOfAll_13 : decode cX2_harmOfAll 13 = .ok (.aload_n 1, 1) := by decide +kernel
theorem dX2_harmOfAll_14 : decode cX2_harmOfAll 14 = .ok (.aload_n 0, 1) := by decide +kernel
theorem dX2_harmOfAll_15 : decode cX2_harmOfAll 15 = .ok (.getfield 18, 3) := by decide +kernel
theorem dX2_harmOfAll_18 : decode cX2_harmOfAll 18 = .ok (.iload_n 3, 1) := by decide +kernel
theorem dX2_harmOfAll_19 : decode cX2_harmOfAll 19 = .ok (.bipush 8, 2) := by decide +kernel
theorem dX2_harmOfAll_21 : decode cX2_harmOfAll 21 = .ok (.imul, 1) := by decide +kernel
theorem dX2_harmOfAll_22 : decode cX2_harmOfAll 22 = .ok (.invokevirtual 115, 3) := by decide +kernel
theorem dX2_harmOfAll_25 : decode cX2_harmOfAll 25 = .ok (.iadd, 1) := by decide +kernel
theorem dX2_harmOfAll_26 : decode cX2_harmOfAll 26 = .ok (.istore_n 2, 1) := by decide +kernel
theorem dX2_harmOfAll_27 : decode cX2_harmOfAll 27 = .ok (.iinc 3 1, 3) := by decide +kernel
theorem dX2_harmOfAll_30 : decode cX2_harmOfAll 30 = .ok (.goto (-26), 3) := by decide +kernel
theorem dX2_harmOfAll_33 : decode cX2_harmOfAll 33 = .ok (.iload_n 2, 1) := by decide +kernel
theorem dX2_harmOfAll_34 : decode cX2_harmOfAll 34 = .ok (.ireturn, 1) := by decide +kernel
theorem dX3_init_0 : decode cX3_init 0 = .ok (.aload_n 0, 1) := by decide +kernel
theorem dX3_init_1 : decode cX3_init 1 = .ok (.invokespecial 3, 3) := by decide +kernel
theorem dX3_init_4 : decode cX3_init 4 = .ok (.aload_n 0, 1) := by decide +kernel
theorem dX3_init_5 : decode cX3_init 5 = .ok (.sipush 400, 3) := by decide +kernel
theorem dX3_init_8 : decode cX3_init 8 = .ok (.newarray .int, 2) := by decide +kernel
theorem dX3_init_10 : decode cX3_init 10 = .ok (.putfield 9, 3) := by decide +kernel
theorem dX3_init_13 : decode cX3_init 13 = .ok (.aload_n 0, 1) := by decide +kernel
theorem dX3_init_14 : decode cX3_init 14 = .ok (.sipush 400, 3) := by decide +kernel
theorem dX3_init_17 : decode cX3_init 17 = .ok (.newarray .int, 2) := by decide +kernel
theorem dX3_init_19 : decode cX3_init 19 = .ok (.putfield 15, 3) := by decide +kernel
theorem dX3_init_22 : decode cX3_init 22 = .ok (.aload_n 0, 1) := by decide +kernel
theorem dX3_init_23 : decode cX3_init 23 = .ok (.bipush 12, 2) := by decide +kernel
theorem dX3_init_25 : decode cX3_init 25 = .ok (.newarray .boolean, 2) := by decide +kernel
theorem dX3_init_27 : decode cX3_init 27 = .ok (.putfield 18, 3) := by decide +kernel
theorem dX3_init_30 : decode cX3_init 30 = .ok (.aload_n 0, 1) := by decide +kernel
theorem dX3_init_31 : decode cX3_init 31 = .ok (.bipush 12, 2) := by decide +kernel
theorem dX3_init_33 : decode cX3_init 33 = .ok (.newarray .int, 2) := by decide +kernel
theorem dX3_init_35 : decode cX3_init 35 = .ok (.putfield 22, 3) := by decide +kernel
theorem dX3_init_38 : decode cX3_init 38 = .ok (.aload_n 0, 1) := by decide +kernel
theorem dX3_init_39 : decode cX3_init 39 = .ok (.bipush 12, 2) := by decide +kernel
theorem dX3_init_41 : decode cX3_init 41 = .ok (.newarray .int, 2) := by decide +kernel
theorem dX3_init_43 : decode cX3_init 43 = .ok (.putfield 25, 3) := by decide +kernel
theorem dX3_init_46 : decode cX3_init 46 = .ok (.aload_n 0, 1) := by decide +kernel
theorem dX3_init_47 : decode cX3_init 47 = .ok (.bipush 12, 2) := by decide +kernel
theorem dX3_init_49 : decode cX3_init 49 = .ok (.newarray .int, 2) := by decide +kernel
theorem dX3_init_51 : decode cX3_init 51 = .ok (.putfield 28, 3) := by decide +kernel
theorem dX3_init_54 : decode cX3_init 54 = .ok (.aload_n 0, 1) := by decide +kernel
theorem dX3_init_55 : decode cX3_init 55 = .ok (.aload_n 1, 1) := by decide +kernel
theorem dX3_init_56 : decode cX3_init 56 = .ok (.putfield 31, 3) := by decide +kernel
theorem dX3_init_59 : decode cX3_init 59 = .ok (.return_, 1) := by decide +kernel
theorem dX3_clear_0 : decode cX3_clear 0 = .ok (.aload_n 0, 1) := by decide +kernel
theorem dX3_clear_1 : decode cX3_clear 1 = .ok (.iconst 0, 1) := by decide +kernel
theorem dX3_clear_2 : decode cX3_clear 2 = .ok (.putfield 35, 3) := by decide +kernel
theorem dX3_clear_5 : decode cX3_clear 5 = .ok (.aload_n 0, 1) := by decide +kernel
theorem dX3_clear_6 : decode cX3_clear 6 = .ok (.iconst 0, 1) := by decide +kernel
theorem dX3_clear_7 : decode cX3_clear 7 = .ok (.putfield 39, 3) := by decide +kernel
theorem dX3_clear_10 : decode cX3_clear 10 = .ok (.aload_n 0, 1) := by decide +kernel
theorem dX3_clear_11 : decode cX3_clear 11 = .ok (.iconst 0, 1) := by decide +kernel
theorem dX3_clear_12 : decode cX3_clear 12 = .ok (.putfield 42, 3) := by decide +kernel
theorem dX3_clear_15 : decode cX3_clear 15 = .ok (.return_, 1) := by decide +kernel
theorem dX3_addStep_0 : decode cX3_addStep 0 = .ok (.aload_n 0, 1) := by decide +kernel
theorem dX3_addStep_1 : decode cX3_addStep 1 = .ok (.getfield 35, 3) := by decide +kernel
theorem dX3_addStep_4 : decode cX3_addStep 4 = .ok (.sipush 400, 3) := by decide +kernel
theorem dX3_addStep_7 : decode cX3_addStep 7 = .ok (.if_icmp .ge 33, 3) := by decide +kernel
theorem dX3_addStep_10 : decode cX3_addStep 10 = .ok (.aload_n 0, 1) := by decide +kernel
theorem dX3_addStep_11 : decode cX3_addStep 11 = .ok (.getfield 9, 3) := by decide +kernel
theorem dX3_addStep_14 : decode cX3_addStep 14 = .ok (.aload_n 0, 1) := by decide +kernel
theorem dX3_addStep_15 : decode cX3_addStep 15 = .ok (.getfield 35, 3) := by decide +kernel
theorem dX3_addStep_18 : decode cX3_addStep 18 = .ok (.iload_n 1, 1) := by decide +kernel
theorem dX3_addStep_19 : decode cX3_addStep 19 = .ok (.iastore, 1) := by decide +kernel
theorem dX3_addStep_20 : decode cX3_addStep 20 = .ok (.aload_n 0, 1) := by decide +kernel
theorem dX3_addStep_21 : decode cX3_addStep 21 = .ok (.getfield 15, 3) := by decide +kernel
theorem dX3_addStep_24 : decode cX3_addStep 24 = .ok (.aload_n 0, 1) := by decide +kernel
theorem dX3_addStep_25 : decode cX3_addStep 25 = .ok (.getfield 35, 3) := by decide +kernel
theorem dX3_addStep_28 : decode cX3_addStep 28 = .ok (.iload_n 2, 1) := by decide +kernel
theorem dX3_addStep_29 : decode cX3_addStep 29 = .ok (.iastore, 1) := by decide +kernel
theorem dX3_addStep_30 : decode cX3_addStep 30 = .ok (.aload_n 0, 1) := by decide +kernel
theorem dX3_addStep_31 : decode cX3_addStep 31 = .ok (.dup, 1) := by decide +kernel
theorem dX3_addStep_32 : decode cX3_addStep 32 = .ok (.getfield 35, 3) := by decide +kernel
theorem dX3_addStep_35 : decode cX3_addStep 35 = .ok (.iconst 1, 1) := by decide +kernel
theorem dX3_addStep_36 : decode cX3_addStep 36 = .ok (.iadd, 1) := by decide +kernel
theorem dX3_addStep_37 : decode cX3_addStep 37 = .ok (.putfield 35, 3) := by decide +kernel
theorem dX3_addStep_40 : decode cX3_addStep 40 = .ok (.return_, 1) := by decide +kernel
theorem dX3_addClause_0 : decode cX3_addClause 0 = .ok (.aload_n 0, 1) := by decide +kernel
theorem dX3_addClause_1 : decode cX3_addClause 1 = .ok (.getfield 39, 3) := by decide +kernel
theorem dX3_addClause_4 : decode cX3_addClause 4 = .ok (.bipush 12, 2) := by decide +kernel
theorem dX3_addClause_6 : decode cX3_addClause 6 = .ok (.if_icmp .ge 76, 3) := by decide +kernel
theorem dX3_addClause_9 : decode cX3_addClause 9 = .ok (.aload_n 0, 1) := by decide +kernel
theorem dX3_addClause_10 : decode cX3_addClause 10 = .ok (.getfield 18, 3) := by decide +kernel
theorem dX3_addClause_13 : decode cX3_addClause 13 = .ok (.aload_n 0, 1) := by decide +kernel
theorem dX3_addClause_14 : decode cX3_addClause 14 = .ok (.getfield 39, 3) := by decide +kernel
theorem dX3_addClause_17 : decode cX3_addClause 17 = .ok (.iload_n 1, 1) := by decide +kernel
theorem dX3_addClause_18 : decode cX3_addClause 18 = .ok (.bastore, 1) := by decide +kernel
theorem dX3_addClause_19 : decode cX3_addClause 19 = .ok (.aload_n 0, 1) := by decide +kernel
theorem dX3_addClause_20 : decode cX3_addClause 20 = .ok (.getfield 22, 3) := by decide +kernel
theorem dX3_addClause_23 : decode cX3_addClause 23 = .ok (.aload_n 0, 1) := by decide +kernel
theorem dX3_addClause_24 : decode cX3_addClause 24 = .ok (.getfield 39, 3) := by decide +kernel
theorem dX3_addClause_27 : decode cX3_addClause 27 = .ok (.iload_n 2, 1) := by decide +kernel
theorem dX3_addClause_28 : decode cX3_addClause 28 = .ok (.iastore, 1) := by decide +kernel
theorem dX3_addClause_29 : decode cX3_addClause 29 = .ok (.aload_n 0, 1) := by decide +kernel
theorem dX3_addClause_30 : decode cX3_addClause 30 = .ok (.getfield 25, 3) := by decide +kernel
theorem dX3_addClause_33 : decode cX3_addClause 33 = .ok (.aload_n 0, 1) := by decide +kernel
theorem dX3_addClause_34 : decode cX3_addClause 34 = .ok (.getfield 39, 3) := by decide +kernel
theorem dX3_addClause_37 : decode cX3_addClause 37 = .ok (.iload_n 3, 1) := by decide +kernel
theorem dX3_addClause_38 : decode cX3_addClause 38 = .ok (.iastore, 1) := by decide +kernel
theorem dX3_addClause_39 : decode cX3_addClause 39 = .ok (.aload_n 0, 1) := by decide +kernel
theorem dX3_addClause_40 : decode cX3_addClause 40 = .ok (.getfield 28, 3) := by decide +kernel
theorem dX3_addClause_43 : decode cX3_addClause 43 = .ok (.aload_n 0, 1) := by decide +kernel
theorem dX3_addClause_44 : decode cX3_addClause 44 = .ok (.getfield 39, 3) := by decide +kernel
theorem dX3_addClause_47 : decode cX3_addClause 47 = .ok (.aload_n 0, 1) := by decide +kernel
theorem dX3_addClause_48 : decode cX3_addClause 48 = .ok (.getfield 35, 3) := by decide +kernel
theorem dX3_addClause_51 : decode cX3_addClause 51 = .ok (.iastore, 1) := by decide +kernel
theorem dX3_addClause_52 : decode cX3_addClause 52 = .ok (.aload_n 0, 1) := by decide +kernel
theorem dX3_addClause_53 : decode cX3_addClause 53 = .ok (.dup, 1) := by decide +kernel
theorem dX3_addClause_54 : decode cX3_addClause 54 = .ok (.getfield 39, 3) := by decide +kernel
theorem dX3_addClause_57 : decode cX3_addClause 57 = .ok (.iconst 1, 1) := by decide +kernel
theorem dX3_addClause_58 : decode cX3_addClause 58 = .ok (.iadd, 1) := by decide +kernel
theorem dX3_addClause_59 : decode cX3_addClause 59 = .ok (.putfield 39, 3) := by decide +kernel
theorem dX3_addClause_62 : decode cX3_addClause 62 = .ok (.aload_n 0, 1) := by decide +kernel
theorem dX3_addClause_63 : decode cX3_addClause 63 = .ok (.aload_n 0, 1) := by decide +kernel
theorem dX3_addClause_64 : decode cX3_addClause 64 = .ok (.getfield 42, 3) := by decide +kernel
theorem dX3_addClause_67 : decode cX3_addClause 67 = .ok (.ifCond .ne 7, 3) := by decide +kernel
theorem dX3_addClause_70 : decode cX3_addClause 70 = .ok (.iload_n 1, 1) := by decide +kernel
theorem dX3_addClause_71 : decode cX3_addClause 71 = .ok (.ifCond .eq 7, 3) := by decide +kernel
theorem dX3_addClause_74 : decode cX3_addClause 74 = .ok (.iconst 1, 1) := by decide +kernel
theorem dX3_addClause_75 : decode cX3_addClause 75 = .ok (.goto 4, 3) := by decide +kernel
theorem dX3_addClause_78 : decode cX3_addClause 78 = .ok (.iconst 0, 1) := by decide +kernel
theorem dX3_addClause_79 : decode cX3_addClause 79 = .ok (.putfield 42, 3) := by decide +kernel
theorem dX3_addClause_82 : decode cX3_addClause 82 = .ok (.return_, 1) := by decide +kernel
theorem dX3_findsLie_0 : decode cX3_findsLie 0 = .ok (.iconst 0, 1) := by decide +kernel
theorem dX3_findsLie_1 : decode cX3_findsLie 1 = .ok (.istore_n 2, 1) := by decide +kernel
theorem dX3_findsLie_2 : decode cX3_findsLie 2 = .ok (.iload_n 2, 1) := by decide +kernel
theorem dX3_findsLie_3 : decode cX3_findsLie 3 = .ok (.aload_n 0, 1) := by decide +kernel
theorem dX3_findsLie_4 : decode cX3_findsLie 4 = .ok (.getfield 39, 3) := by decide +kernel
theorem dX3_findsLie_7 : decode cX3_findsLie 7 = .ok (.if_icmp .ge 42, 3) := by decide +kernel
theorem dX3_findsLie_10 : decode cX3_findsLie 10 = .ok (.aload_n 0, 1) := by decide +kernel
theorem dX3_findsLie_11 : decode cX3_findsLie 11 = .ok (.getfield 18, 3) := by decide +kernel
theorem dX3_findsLie_14 : decode cX3_findsLie 14 = .ok (.iload_n 2, 1) := by decide +kernel
theorem dX3_findsLie_15 : decode cX3_findsLie 15 = .ok (.baload, 1) := by decide +kernel
theorem dX3_findsLie_16 : decode cX3_findsLie 16 = .ok (.ifCond .eq 27, 3) := by decide +kernel
theorem dX3_findsLie_19 : decode cX3_findsLie 19 = .ok (.aload_n 0, 1) := by decide +kernel
theorem dX3_findsLie_20 : decode cX3_findsLie 20 = .ok (.aload_n 0, 1) := by decide +kernel
theorem dX3_findsLie_21 : decode cX3_findsLie 21 = .ok (.getfield 25, 3) := by decide +kernel
theorem dX3_findsLie_24 : decode cX3_findsLie 24 = .ok (.iload_n 2, 1) := by decide +kernel
theorem dX3_findsLie_25 : decode cX3_findsLie 25 = .ok (.iaload, 1) := by decide +kernel
theorem dX3_findsLie_26 : decode cX3_findsLie 26 = .ok (.aload_n 0, 1) := by decide +kernel
theorem dX3_findsLie_27 : decode cX3_findsLie 27 = .ok (.getfield 28, 3) := by decide +kernel
theorem dX3_findsLie_30 : decode cX3_findsLie 30 = .ok (.iload_n 2, 1) := by decide +kernel
theorem dX3_findsLie_31 : decode cX3_findsLie 31 = .ok (.iaload, 1) := by decide +kernel
theorem dX3_findsLie_32 : decode cX3_findsLie 32 = .ok (.aload_n 1, 1) := by decide +kernel
theorem dX3_findsLie_33 : decode cX3_findsLie 33 = .ok (.invokevirtual 46, 3) := by decide +kernel
theorem dX3_findsLie_36 : decode cX3_findsLie 36 = .ok (.lconst 0, 1) := by decide +kernel
theorem dX3_findsLie_37 : decode cX3_findsLie 37 = .ok (.lcmp, 1) := by decide +kernel
theorem dX3_findsLie_38 : decode cX3_findsLie 38 = .ok (.ifCond .eq 5, 3) := by decide +kernel
theorem dX3_findsLie_41 : decode cX3_findsLie 41 = .ok (.iconst 1, 1) := by decide +kernel
theorem dX3_findsLie_42 : decode cX3_findsLie 42 = .ok (.ireturn, 1) := by decide +kernel
theorem dX3_findsLie_43 : decode cX3_findsLie 43 = .ok (.iinc 2 1, 3) := by decide +kernel
theorem dX3_findsLie_46 : decode cX3_findsLie 46 = .ok (.goto (-44), 3) := by decide +kernel
theorem dX3_findsLie_49 : decode cX3_findsLie 49 = .ok (.iconst 0, 1) := by decide +kernel
theorem dX3_findsLie_50 : decode cX3_findsLie 50 = .ok (.ireturn, 1) := by decide +kernel
theorem dX3_scoreOf_0 : decode cX3_scoreOf 0 = .ok (.iconst 0, 1) := by decide +kernel
theorem dX3_scoreOf_1 : decode cX3_scoreOf 1 = .ok (.istore_n 2, 1) := by decide +kernel
theorem dX3_scoreOf_2 : decode cX3_scoreOf 2 = .ok (.iload_n 2, 1) := by decide +kernel
theorem dX3_scoreOf_3 : decode cX3_scoreOf 3 = .ok (.aload_n 0, 1) := by decide +kernel
theorem dX3_scoreOf_4 : decode cX3_scoreOf 4 = .ok (.getfield 39, 3) := by decide +kernel
theorem dX3_scoreOf_7 : decode cX3_scoreOf 7 = .ok (.if_icmp .ge 83, 3) := by decide +kernel
theorem dX3_scoreOf_10 : decode cX3_scoreOf 10 = .ok (.aload_n 0, 1) := by decide +kernel
theorem dX3_scoreOf_11 : decode cX3_scoreOf 11 = .ok (.getfield 25, 3) := by decide +kernel
theorem dX3_scoreOf_14 : decode cX3_scoreOf 14 = .ok (.iload_n 2, 1) := by decide +kernel
theorem dX3_scoreOf_15 : decode cX3_scoreOf 15 = .ok (.iaload, 1) := by decide +kernel
theorem dX3_scoreOf_16 : decode cX3_scoreOf 16 = .ok (.aload_n 0, 1) := by decide +kernel
theorem dX3_scoreOf_17 : decode cX3_scoreOf 17 = .ok (.getfield 28, 3) := by decide +kernel
theorem dX3_scoreOf_20 : decode cX3_scoreOf 20 = .ok (.iload_n 2, 1) := by decide +kernel
theorem dX3_scoreOf_21 : decode cX3_scoreOf 21 = .ok (.iaload, 1) := by decide +kernel
theorem dX3_scoreOf_22 : decode cX3_scoreOf 22 = .ok (.if_icmp .ne 7, 3) := by decide +kernel
theorem dX3_scoreOf_25 : decode cX3_scoreOf 25 = .ok (.iconst 1, 1) := by decide +kernel
theorem dX3_scoreOf_26 : decode cX3_scoreOf 26 = .ok (.goto 4, 3) := by decide +kernel
theorem dX3_scoreOf_29 : decode cX3_scoreOf 29 = .ok (.iconst 0, 1) := by decide +kernel
theorem dX3_scoreOf_30 : decode cX3_scoreOf 30 = .ok (.istore_n 3, 1) := by decide +kernel
theorem dX3_scoreOf_31 : decode cX3_scoreOf 31 = .ok (.aload_n 0, 1) := by decide +kernel
theorem dX3_scoreOf_32 : decode cX3_scoreOf 32 = .ok (.getfield 18, 3) := by decide +kernel
theorem dX3_scoreOf_35 : decode cX3_scoreOf 35 = .ok (.iload_n 2, 1) := by decide +kernel
theorem dX3_scoreOf_36 : decode cX3_scoreOf 36 = .ok (.baload, 1) := by decide +kernel
theorem dX3_scoreOf_37 : decode cX3_scoreOf 37 = .ok (.ifCond .ne 47, 3) := by decide +kernel
theorem dX3_scoreOf_40 : decode cX3_scoreOf 40 = .ok (.iload_n 3, 1) := by decide +kernel
theorem dX3_scoreOf_41 : decode cX3_scoreOf 41 = .ok (.ifCond .ne 25, 3) := by decide +kernel
theorem dX3_scoreOf_44 : decode cX3_scoreOf 44 = .ok (.aload_n 0, 1) := by decide +kernel
theorem dX3_scoreOf_45 : decode cX3_scoreOf 45 = .ok (.aload_n 0, 1) := by decide +kernel
theorem dX3_scoreOf_46 : decode cX3_scoreOf 46 = .ok (.getfield 25, 3) := by decide +kernel
theorem dX3_scoreOf_49 : decode cX3_scoreOf 49 = .ok (.iload_n 2, 1) := by decide +kernel
theorem dX3_scoreOf_50 : decode cX3_scoreOf 50 = .ok (.iaload, 1) := by decide +kernel
theorem dX3_scoreOf_51 : decode cX3_scoreOf 51 = .ok (.aload_n 0, 1) := by decide +kernel
theorem dX3_scoreOf_52 : decode cX3_scoreOf 52 = .ok (.getfield 28, 3) := by decide +kernel
theorem dX3_scoreOf_55 : decode cX3_scoreOf 55 = .ok (.iload_n 2, 1) := by decide +kernel
theorem dX3_scoreOf_56 : decode cX3_scoreOf 56 = .ok (.iaload, 1) := by decide +kernel
theorem dX3_scoreOf_57 : decode cX3_scoreOf 57 = .ok (.aload_n 1, 1) := by decide +kernel
theorem dX3_scoreOf_58 : decode cX3_scoreOf 58 = .ok (.invokevirtual 46, 3) := by decide +kernel
theorem dX3_scoreOf_61 : decode cX3_scoreOf 61 = .ok (.lconst 0, 1) := by decide +kernel
theorem dX3_scoreOf_62 : decode cX3_scoreOf 62 = .ok (.lcmp, 1) := by decide +kernel
theorem dX3_scoreOf_63 : decode cX3_scoreOf 63 = .ok (.ifCond .eq 21, 3) := by decide +kernel
theorem dX3_scoreOf_66 : decode cX3_scoreOf 66 = .ok (.aload_n 0, 1) := by decide +kernel
theorem dX3_scoreOf_67 : decode cX3_scoreOf 67 = .ok (.aload_n 0, 1) := by decide +kernel
theorem dX3_scoreOf_68 : decode cX3_scoreOf 68 = .ok (.getfield 22, 3) := by decide +kernel
theorem dX3_scoreOf_71 : decode cX3_scoreOf 71 = .ok (.iload_n 2, 1) := by decide +kernel
theorem dX3_scoreOf_72 : decode cX3_scoreOf 72 = .ok (.iaload, 1) := by decide +kernel
theorem dX3_scoreOf_73 : decode cX3_scoreOf 73 = .ok (.aload_n 0, 1) := by decide +kernel
theorem dX3_scoreOf_74 : decode cX3_scoreOf 74 = .ok (.getfield 25, 3) := by decide +kernel
theorem dX3_scoreOf_77 : decode cX3_scoreOf 77 = .ok (.iload_n 2, 1) := by decide +kernel
theorem dX3_scoreOf_78 : decode cX3_scoreOf 78 = .ok (.iaload, 1) := by decide +kernel
theorem dX3_scoreOf_79 : decode cX3_scoreOf 79 = .ok (.aload_n 1, 1) := by decide +kernel
theorem dX3_scoreOf_80 : decode cX3_scoreOf 80 = .ok (.invokevirtual 46, 3) := by decide +kernel
theorem dX3_scoreOf_83 : decode cX3_scoreOf 83 = .ok (.lreturn, 1) := by decide +kernel
theorem dX3_scoreOf_84 : decode cX3_scoreOf 84 = .ok (.iinc 2 1, 3) := by decide +kernel
theorem dX3_scoreOf_87 : decode cX3_scoreOf 87 = .ok (.goto (-85), 3) := by decide +kernel
theorem dX3_scoreOf_90 : decode cX3_scoreOf 90 = .ok (.lconst 0, 1) := by decide +kernel
theorem dX3_scoreOf_91 : decode cX3_scoreOf 91 = .ok (.lreturn, 1) := by decide +kernel
theorem dX3_work_0 : decode cX3_work 0 = .ok (.iconst 0, 1) := by decide +kernel
theorem dX3_work_1 : decode cX3_work 1 = .ok (.istore 4, 2) := by decide +kernel
theorem dX3_work_3 : decode cX3_work 3 = .ok (.iload_n 1, 1) := by decide +kernel
theorem dX3_work_4 : decode cX3_work 4 = .ok (.istore 5, 2) := by decide +kernel
theorem dX3_work_6 : decode cX3_work 6 = .ok (.iload 5, 2) := by decide +kernel
theorem dX3_work_8 : decode cX3_work 8 = .ok (.iload_n 2, 1) := by decide +kernel
theorem dX3_work_9 : decode cX3_work 9 = .ok (.if_icmp .ge 153, 3) := by decide +kernel
theorem dX3_work_12 : decode cX3_work 12 = .ok (.aload_n 0, 1) := by decide +kernel
theorem dX3_work_13 : decode cX3_work 13 = .ok (.getfield 9, 3) := by decide +kernel
theorem dX3_work_16 : decode cX3_work 16 = .ok (.iload 5, 2) := by decide +kernel
theorem dX3_work_18 : decode cX3_work 18 = .ok (.iaload, 1) := by decide +kernel
theorem dX3_work_19 : decode cX3_work 19 = .ok (.istore 6, 2) := by decide +kernel
theorem dX3_work_21 : decode cX3_work 21 = .ok (.iload 6, 2) := by decide +kernel
theorem dX3_work_23 : decode cX3_work 23 = .ok (.ifCond .eq 9, 3) := by decide +kernel
theorem dX3_work_26 : decode cX3_work 26 = .ok (.iload 6, 2) := by decide +kernel
theorem dX3_work_28 : decode cX3_work 28 = .ok (.iconst 1, 1) := by decide +kernel
theorem dX3_work_29 : decode cX3_work 29 = .ok (.if_icmp .ne 53, 3) := by decide +kernel
theorem dX3_work_32 : decode cX3_work 32 = .ok (.iload 4, 2) := by decide +kernel
theorem dX3_work_34 : decode cX3_work 34 = .ok (.aload_n 0, 1) := by decide +kernel
theorem dX3_work_35 : decode cX3_work 35 = .ok (.getfield 31, 3) := by decide +kernel
theorem dX3_work_38 : decode cX3_work 38 = .ok (.arraylength, 1) := by decide +kernel
theorem dX3_work_39 : decode cX3_work 39 = .ok (.if_icmp .ge 117, 3) := by decide +kernel
theorem dX3_work_42 : decode cX3_work 42 = .ok (.aload_n 0, 1) := by decide +kernel
theorem dX3_work_43 : decode cX3_work 43 = .ok (.getfield 31, 3) := by decide +kernel
theorem dX3_work_46 : decode cX3_work 46 = .ok (.iload 4, 2) := by decide +kernel
theorem dX3_work_48 : decode cX3_work 48 = .ok (.iload 6, 2) := by decide +kernel
theorem dX3_work_50 : decode cX3_work 50 = .ok (.ifCond .ne 14, 3) := by decide +kernel
theorem dX3_work_53 : decode cX3_work 53 = .ok (.aload_n 0, 1) := by decide +kernel
theorem dX3_work_54 : decode cX3_work 54 = .ok (.getfield 15, 3) := by decide +kernel
theorem dX3_work_57 : decode cX3_work 57 = .ok (.iload 5, 2) := by decide +kernel
theorem dX3_work_59 : decode cX3_work 59 = .ok (.iaload, 1) := by decide +kernel
theorem dX3_work_60 : decode cX3_work 60 = .ok (.i2l, 1) := by decide +kernel
theorem dX3_work_61 : decode cX3_work 61 = .ok (.goto 14, 3) := by decide +kernel
theorem dX3_work_64 : decode cX3_work 64 = .ok (.aload_n 3, 1) := by decide +kernel
theorem dX3_work_65 : decode cX3_work 65 = .ok (.aload_n 0, 1) := by decide +kernel
theorem dX3_work_66 : decode cX3_work 66 = .ok (.getfield 15, 3) := by decide +kernel
theorem dX3_work_69 : decode cX3_work 69 = .ok (.iload 5, 2) := by decide +kernel
theorem dX3_work_71 : decode cX3_work 71 = .ok (.iaload, 1) := by decide +kernel
theorem dX3_work_72 : decode cX3_work 72 = .ok (.invokevirtual 50, 3) := by decide +kernel
theorem dX3_work_75 : decode cX3_work 75 = .ok (.lastore, 1) := by decide +kernel
theorem dX3_work_76 : decode cX3_work 76 = .ok (.iinc 4 1, 3) := by decide +kernel
theorem dX3_work_79 : decode cX3_work 79 = .ok (.goto 77, 3) := by decide +kernel
theorem dX3_work_82 : decode cX3_work 82 = .ok (.iload 6, 2) := by decide +kernel
theorem dX3_work_84 : decode cX3_work 84 = .ok (.iconst 2, 1) := by decide +kernel
theorem dX3_work_85 : decode cX3_work 85 = .ok (.if_icmp .ne 32, 3) := by decide +kernel
theorem dX3_work_88 : decode cX3_work 88 = .ok (.iload 4, 2) := by decide +kernel
theorem dX3_work_90 : decode cX3_work 90 = .ok (.iconst 1, 1) := by decide +kernel
theorem dX3_work_91 : decode cX3_work 91 = .ok (.if_icmp .lt 65, 3) := by decide +kernel
theorem dX3_work_94 : decode cX3_work 94 = .ok (.aload_n 0, 1) := by decide +kernel
theorem dX3_work_95 : decode cX3_work 95 = .ok (.getfield 31, 3) := by decide +kernel
theorem dX3_work_98 : decode cX3_work 98 = .ok (.iload 4, 2) := by decide +kernel
theorem dX3_work_100 : decode cX3_work 100 = .ok (.iconst 1, 1) := by decide +kernel
theorem dX3_work_101 : decode cX3_work 101 = .ok (.isub, 1) := by decide +kernel
theorem dX3_work_102 : decode cX3_work 102 = .ok (.lconst 1, 1) := by decide +kernel
theorem dX3_work_103 : decode cX3_work 103 = .ok (.aload_n 0, 1) := by decide +kernel
theorem dX3_work_104 : decode cX3_work 104 = .ok (.getfield 31, 3) := by decide +kernel
theorem dX3_work_107 : decode cX3_work 107 = .ok (.iload 4, 2) := by decide +kernel
theorem dX3_work_109 : decode cX3_work 109 = .ok (.iconst 1, 1) := by decide +kernel
theorem dX3_work_110 : decode cX3_work 110 = .ok (.isub, 1) := by decide +kernel
theorem dX3_work_111 : decode cX3_work 111 = .ok (.laload, 1) := by decide +kernel
theorem dX3_work_112 : decode cX3_work 112 = .ok (.lsub, 1) := by decide +kernel
theorem dX3_work_113 : decode cX3_work 113 = .ok (.lastore, 1) := by decide +kernel
theorem dX3_work_114 : decode cX3_work 114 = .ok (.goto 42, 3) := by decide +kernel
theorem dX3_work_117 : decode cX3_work 117 = .ok (.iload 4, 2) := by decide +kernel
theorem dX3_work_119 : decode cX3_work 119 = .ok (.iconst 2, 1) := by decide +kernel
theorem dX3_work_120 : decode cX3_work 120 = .ok (.if_icmp .lt 36, 3) := by decide +kernel
theorem dX3_work_123 : decode cX3_work 123 = .ok (.iinc 4 (-1), 3) := by decide +kernel
theorem dX3_work_126 : decode cX3_work 126 = .ok (.aload_n 0, 1) := by decide +kernel
theorem dX3_work_127 : decode cX3_work 127 = .ok (.getfield 31, 3) := by decide +kernel
theorem dX3_work_130 : decode cX3_work 130 = .ok (.iload 4, 2) := by decide +kernel
theorem dX3_work_132 : decode cX3_work 132 = .ok (.iconst 1, 1) := by decide +kernel
theorem dX3_work_133 : decode cX3_work 133 = .ok (.isub, 1) := by decide +kernel
theorem dX3_work_134 : decode cX3_work 134 = .ok (.iload 6, 2) := by decide +kernel
theorem dX3_work_136 : decode cX3_work 136 = .ok (.aload_n 0, 1) := by decide +kernel
theorem dX3_work_137 : decode cX3_work 137 = .ok (.getfield 31, 3) := by decide +kernel
theorem dX3_work_140 : decode cX3_work 140 = .ok (.iload 4, 2) := by decide +kernel
theorem dX3_work_142 : decode cX3_work 142 = .ok (.iconst 1, 1) := by decide +kernel
theorem dX3_work_143 : decode cX3_work 143 = .ok (.isub, 1) := by decide +kernel
theorem dX3_work_144 : decode cX3_work 144 = .ok (.laload, 1) := by decide +kernel
theorem dX3_work_145 : decode cX3_work 145 = .ok (.aload_n 0, 1) := by decide +kernel
theorem dX3_work_146 : decode cX3_work 146 = .ok (.getfield 31, 3) := by decide +kernel
theorem dX3_work_149 : decode cX3_work 149 = .ok (.iload 4, 2) := by decide +kernel
theorem dX3_work_151 : decode cX3_work 151 = .ok (.laload, 1) := by decide +kernel
theorem dX3_work_152 : decode cX3_work 152 = .ok (.invokestatic 56, 3) := by decide +kernel
theorem dX3_work_155 : decode cX3_work 155 = .ok (.lastore, 1) := by decide +kernel
theorem dX3_work_156 : decode cX3_work 156 = .ok (.iinc 5 1, 3) := by decide +kernel
theorem dX3_work_159 : decode cX3_work 159 = .ok (.goto (-153), 3) := by decide +kernel
theorem dX3_work_162 : decode cX3_work 162 = .ok (.iload 4, 2) := by decide +kernel
theorem dX3_work_164 : decode cX3_work 164 = .ok (.ifCond .le 12, 3) := by decide +kernel
theorem dX3_work_167 : decode cX3_work 167 = .ok (.aload_n 0, 1) := by decide +kernel
theorem dX3_work_168 : decode cX3_work 168 = .ok (.getfield 31, 3) := by decide +kernel
theorem dX3_work_171 : decode cX3_work 171 = .ok (.iconst 0, 1) := by decide +kernel
theorem dX3_work_172 : decode cX3_work 172 = .ok (.laload, 1) := by decide +kernel
theorem dX3_work_173 : decode cX3_work 173 = .ok (.goto 4, 3) := by decide +kernel
theorem dX3_work_176 : decode cX3_work 176 = .ok (.lconst 0, 1) := by decide +kernel
theorem dX3_work_177 : decode cX3_work 177 = .ok (.lreturn, 1) := by decide +kernel
theorem dX3_combine_0 : decode cX3_combine 0 = .ok (.iload_n 0, 1) := by decide +kernel
theorem dX3_combine_1 : decode cX3_combine 1 = .ok (.tableswitch 91 3 9 #[43, 47, 51, 55, 59, 63, 77], 43) := by decide +kernel
theorem dX3_combine_44 : decode cX3_combine 44 = .ok (.lload_n 1, 1) := by decide +kernel
theorem dX3_combine_45 : decode cX3_combine 45 = .ok (.lload_n 3, 1) := by decide +kernel
theorem dX3_combine_46 : decode cX3_combine 46 = .ok (.land, 1) := by decide +kernel
theorem dX3_combine_47 : decode cX3_combine 47 = .ok (.lreturn, 1) := by decide +kernel
theorem dX3_combine_48 : decode cX3_combine 48 = .ok (.lload_n 1, 1) := by decide +kernel
theorem dX3_combine_49 : decode cX3_combine 49 = .ok (.lload_n 3, 1) := by decide +kernel
theorem dX3_combine_50 : decode cX3_combine 50 = .ok (.lor, 1) := by decide +kernel
theorem dX3_combine_51 : decode cX3_combine 51 = .ok (.lreturn, 1) := by decide +kernel
theorem dX3_combine_52 : decode cX3_combine 52 = .ok (.lload_n 1, 1) := by decide +kernel
theorem dX3_combine_53 : decode cX3_combine 53 = .ok (.lload_n 3, 1) := by decide +kernel
theorem dX3_combine_54 : decode cX3_combine 54 = .ok (.ladd, 1) := by decide +kernel
theorem dX3_combine_55 : decode cX3_combine 55 = .ok (.lreturn, 1) := by decide +kernel
theorem dX3_combine_56 : decode cX3_combine 56 = .ok (.lload_n 1, 1) := by decide +kernel
theorem dX3_combine_57 : decode cX3_combine 57 = .ok (.lload_n 3, 1) := by decide +kernel
theorem dX3_combine_58 : decode cX3_combine 58 = .ok (.lsub, 1) := by decide +kernel
theorem dX3_combine_59 : decode cX3_combine 59 = .ok (.lreturn, 1) := by decide +kernel
theorem dX3_combine_60 : decode cX3_combine 60 = .ok (.lload_n 1, 1) := by decide +kernel
theorem dX3_combine_61 : decode cX3_combine 61 = .ok (.lload_n 3, 1) := by decide +kernel
theorem dX3_combine_62 : decode cX3_combine 62 = .ok (.lmul, 1) := by decide +kernel
theorem dX3_combine_63 : decode cX3_combine 63 = .ok (.lreturn, 1) := by decide +kernel
theorem dX3_combine_64 : decode cX3_combine 64 = .ok (.lload_n 3, 1) := by decide +kernel
theorem dX3_combine_65 : decode cX3_combine 65 = .ok (.lconst 0, 1) := by decide +kernel
theorem dX3_combine_66 : decode cX3_combine 66 = .ok (.lcmp, 1) := by decide +kernel
theorem dX3_combine_67 : decode cX3_combine 67 = .ok (.ifCond .ne 7, 3) := by decide +kernel
theorem dX3_combine_70 : decode cX3_combine 70 = .ok (.lconst 0, 1) := by decide +kernel
theorem dX3_combine_71 : decode cX3_combine 71 = .ok (.goto 6, 3) := by decide +kernel
theorem dX3_combine_74 : decode cX3_combine 74 = .ok (.lload_n 1, 1) := by decide +kernel
theorem dX3_combine_75 : decode cX3_combine 75 = .ok (.lload_n 3, 1) := by decide +kernel
theorem dX3_combine_76 : decode cX3_combine 76 = .ok (.ldiv, 1) := by decide +kernel
theorem dX3_combine_77 : decode cX3_combine 77 = .ok (.lreturn, 1) := by decide +kernel
theorem dX3_combine_78 : decode cX3_combine 78 = .ok (.lload_n 3, 1) := by decide +kernel
theorem dX3_combine_79 : decode cX3_combine 79 = .ok (.lconst 0, 1) := by decide +kernel
theorem dX3_combine_80 : decode cX3_combine 80 = .ok (.lcmp, 1) := by decide +kernel
theorem dX3_combine_81 : decode cX3_combine 81 = .ok (.ifCond .ne 7, 3) := by decide +kernel
theorem dX3_combine_84 : decode cX3_combine 84 = .ok (.lconst 0, 1) := by decide +kernel
theorem dX3_combine_85 : decode cX3_combine 85 = .ok (.goto 6, 3) := by decide +kernel
theorem dX3_combine_88 : decode cX3_combine 88 = .ok (.lload_n 1, 1) := by decide +kernel
theorem dX3_combine_89 : decode cX3_combine 89 = .ok (.lload_n 3, 1) := by decide +kernel
theorem dX3_combine_90 : decode cX3_combine 90 = .ok (.lrem, 1) := by decide +kernel
theorem dX3_combine_91 : decode cX3_combine 91 = .ok (.lreturn, 1) := by decide +kernel
theorem dX3_combine_92 : decode cX3_combine 92 = .ok (.iload_n 0, 1) := by decide +kernel
theorem dX3_combine_93 : decode cX3_combine 93 = .ok (.lload_n 1, 1) := by decide +kernel
theorem dX3_combine_94 : decode cX3_combine 94 = .ok (.lload_n 3, 1) := by decide +kernel
theorem dX3_combine_95 : decode cX3_combine 95 = .ok (.invokestatic 60, 3) := by decide +kernel
theorem dX3_combine_98 : decode cX3_combine 98 = .ok (.ifCond .eq 7, 3) := by decide +kernel
theorem dX3_combine_101 : decode cX3_combine 101 = .ok (.lconst 1, 1) := by decide +kernel
theorem dX3_combine_102 : decode cX3_combine 102 = .ok (.goto 4, 3) := by decide +kernel
theorem dX3_combine_105 : decode cX3_combine 105 = .ok (.lconst 0, 1) := by decide +kernel
theorem dX3_combine_106 : decode cX3_combine 106 = .ok (.lreturn, 1) := by decide +kernel
theorem dX3_compare_0 : decode cX3_compare 0 = .ok (.iload_n 0, 1) := by decide +kernel
theorem dX3_compare_1 : decode cX3_compare 1 = .ok (.tableswitch 79 10 13 #[31, 43, 55, 67], 31) := by decide +kernel
theorem dX3_compare_32 : decode cX3_compare 32 = .ok (.lload_n 1, 1) := by decide +kernel
theorem dX3_compare_33 : decode cX3_compare 33 = .ok (.lload_n 3, 1) := by decide +kernel
theorem dX3_compare_34 : decode cX3_compare 34 = .ok (.lcmp, 1) := by decide +kernel
theorem dX3_compare_35 : decode cX3_compare 35 = .ok (.ifCond .ge 7, 3) := by decide +kernel
theorem dX3_compare_38 : decode cX3_compare 38 = .ok (.iconst 1, 1) := by decide +kernel
theorem dX3_compare_39 : decode cX3_compare 39 = .ok (.goto 4, 3) := by decide +kernel
theorem dX3_compare_42 : decode cX3_compare 42 = .ok (.iconst 0, 1) := by decide +kernel
theorem dX3_compare_43 : decode cX3_compare 43 = .ok (.ireturn, 1) := by decide +kernel
theorem dX3_compare_44 : decode cX3_compare 44 = .ok (.lload_n 1, 1) := by decide +kernel
theorem dX3_compare_45 : decode cX3_compare 45 = .ok (.lload_n 3, 1) := by decide +kernel
theorem dX3_compare_46 : decode cX3_compare 46 = .ok (.lcmp, 1) := by decide +kernel
theorem dX3_compare_47 : decode cX3_compare 47 = .ok (.ifCond .gt 7, 3) := by decide +kernel
theorem dX3_compare_50 : decode cX3_compare 50 = .ok (.iconst 1, 1) := by decide +kernel
theorem dX3_compare_51 : decode cX3_compare 51 = .ok (.goto 4, 3) := by decide +kernel
theorem dX3_compare_54 : decode cX3_compare 54 = .ok (.iconst 0, 1) := by decide +kernel
theorem dX3_compare_55 : decode cX3_compare 55 = .ok (.ireturn, 1) := by decide +kernel
theorem dX3_compare_56 : decode cX3_compare 56 = .ok (.lload_n 1, 1) := by decide +kernel
theorem dX3_compare_57 : decode cX3_compare 57 = .ok (.lload_n 3, 1) := by decide +kernel
theorem dX3_compare_58 : decode cX3_compare 58 = .ok (.lcmp, 1) := by decide +kernel
theorem dX3_compare_59 : decode cX3_compare 59 = .ok (.ifCond .ne 7, 3) := by decide +kernel
theorem dX3_compare_62 : decode cX3_compare 62 = .ok (.iconst 1, 1) := by decide +kernel
theorem dX3_compare_63 : decode cX3_compare 63 = .ok (.goto 4, 3) := by decide +kernel
theorem dX3_compare_66 : decode cX3_compare 66 = .ok (.iconst 0, 1) := by decide +kernel
theorem dX3_compare_67 : decode cX3_compare 67 = .ok (.ireturn, 1) := by decide +kernel
theorem dX3_compare_68 : decode cX3_compare 68 = .ok (.lload_n 1, 1) := by decide +kernel
theorem dX3_compare_69 : decode cX3_compare 69 = .ok (.lload_n 3, 1) := by decide +kernel
theorem dX3_compare_70 : decode cX3_compare 70 = .ok (.lcmp, 1) := by decide +kernel
theorem dX3_compare_71 : decode cX3_compare 71 = .ok (.ifCond .lt 7, 3) := by decide +kernel
theorem dX3_compare_74 : decode cX3_compare 74 = .ok (.iconst 1, 1) := by decide +kernel
theorem dX3_compare_75 : decode cX3_compare 75 = .ok (.goto 4, 3) := by decide +kernel
theorem dX3_compare_78 : decode cX3_compare 78 = .ok (.iconst 0, 1) := by decide +kernel
theorem dX3_compare_79 : decode cX3_compare 79 = .ok (.ireturn, 1) := by decide +kernel
theorem dX3_compare_80 : decode cX3_compare 80 = .ok (.lload_n 1, 1) := by decide +kernel
theorem dX3_compare_81 : decode cX3_compare 81 = .ok (.lload_n 3, 1) := by decide +kernel
theorem dX3_compare_82 : decode cX3_compare 82 = .ok (.lcmp, 1) := by decide +kernel
theorem dX3_compare_83 : decode cX3_compare 83 = .ok (.ifCond .le 7, 3) := by decide +kernel
theorem dX3_compare_86 : decode cX3_compare 86 = .ok (.iconst 1, 1) := by decide +kernel
theorem dX3_compare_87 : decode cX3_compare 87 = .ok (.goto 4, 3) := by decide +kernel
theorem dX3_compare_90 : decode cX3_compare 90 = .ok (.iconst 0, 1) := by decide +kernel
theorem dX3_compare_91 : decode cX3_compare 91 = .ok (.ireturn, 1) := by decide +kernel
theorem dX4_init_0 : decode cX4_init 0 = .ok (.aload_n 0, 1) := by decide +kernel
theorem dX4_init_1 : decode cX4_init 1 = .ok (.aload_n 1, 1) := by decide +kernel
theorem dX4_init_2 : decode cX4_init 2 = .ok (.invokespecial 3, 3) := by decide +kernel
theorem dX4_init_5 : decode cX4_init 5 = .ok (.aload_n 0, 1) := by decide +kernel
theorem dX4_init_6 : decode cX4_init 6 = .ok (.aload_n 2, 1) := by decide +kernel
theorem dX4_init_7 : decode cX4_init 7 = .ok (.putfield 9, 3) := by decide +kernel
theorem dX4_init_10 : decode cX4_init 10 = .ok (.return_, 1) := by decide +kernel
theorem dX4_begin_0 : decode cX4_begin 0 = .ok (.aload_n 0, 1) := by decide +kernel
theorem dX4_begin_1 : decode cX4_begin 1 = .ok (.aload_n 1, 1) := by decide +kernel
theorem dX4_begin_2 : decode cX4_begin 2 = .ok (.putfield 9, 3) := by decide +kernel
theorem dX4_begin_5 : decode cX4_begin 5 = .ok (.aload_n 0, 1) := by decide +kernel
theorem dX4_begin_6 : decode cX4_begin 6 = .ok (.getfield 9, 3) := by decide +kernel
theorem dX4_begin_9 : decode cX4_begin 9 = .ok (.invokevirtual 15, 3) := by decide +kernel
theorem dX4_begin_12 : decode cX4_begin 12 = .ok (.aload_n 0, 1) := by decide +kernel
theorem dX4_begin_13 : decode cX4_begin 13 = .ok (.iconst 0, 1) := by decide +kernel
theorem dX4_begin_14 : decode cX4_begin 14 = .ok (.putfield 21, 3) := by decide +kernel
theorem dX4_begin_17 : decode cX4_begin 17 = .ok (.return_, 1) := by decide +kernel
theorem dX4_readClause_0 : decode cX4_readClause 0 = .ok (.aload_n 0, 1) := by decide +kernel
theorem dX4_readClause_1 : decode cX4_readClause 1 = .ok (.getfield 25, 3) := by decide +kernel
theorem dX4_readClause_4 : decode cX4_readClause 4 = .ok (.invokevirtual 29, 3) := by decide +kernel
theorem dX4_readClause_7 : decode cX4_readClause 7 = .ok (.istore_n 2, 1) := by decide +kernel
theorem dX4_readClause_8 : decode cX4_readClause 8 = .ok (.iload_n 2, 1) := by decide +kernel
theorem dX4_readClause_9 : decode cX4_readClause 9 = .ok (.bipush 8, 2) := by decide +kernel
theorem dX4_readClause_11 : decode cX4_readClause 11 = .ok (.if_icmp .eq 18, 3) := by decide +kernel
theorem dX4_readClause_14 : decode cX4_readClause 14 = .ok (.iload_n 2, 1) := by decide +kernel
theorem dX4_readClause_15 : decode cX4_readClause 15 = .ok (.bipush 9, 2) := by decide +kernel
theorem dX4_readClause_17 : decode cX4_readClause 17 = .ok (.if_icmp .eq 12, 3) := by decide +kernel
theorem dX4_readClause_20 : decode cX4_readClause 20 = .ok (.aload_n 0, 1) := by decide +kernel
theorem dX4_readClause_21 : decode cX4_readClause 21 = .ok (.getfield 25, 3) := by decide +kernel
theorem dX4_readClause_24 : decode cX4_readClause 24 = .ok (.iconst 0, 1) := by decide +kernel
theorem dX4_readClause_25 : decode cX4_readClause 25 = .ok (.invokevirtual 35, 3) := by decide +kernel
theorem dX4_readClause_28 : decode cX4_readClause 28 = .ok (.return_, 1) := by decide +kernel
theorem dX4_readClause_29 : decode cX4_readClause 29 = .ok (.iload_n 1, 1) := by decide +kernel
theorem dX4_readClause_30 : decode cX4_readClause 30 = .ok (.bipush 12, 2) := by decide +kernel
theorem dX4_readClause_32 : decode cX4_readClause 32 = .ok (.if_icmp .lt 12, 3) := by decide +kernel
theorem dX4_readClause_35 : decode cX4_readClause 35 = .ok (.aload_n 0, 1) := by decide +kernel
theorem dX4_readClause_36 : decode cX4_readClause 36 = .ok (.getfield 25, 3) := by decide +kernel
theorem dX4_readClause_39 : decode cX4_readClause 39 = .ok (.iconst 4, 1) := by decide +kernel
theorem dX4_readClause_40 : decode cX4_readClause 40 = .ok (.invokevirtual 35, 3) := by decide +kernel
theorem dX4_readClause_43 : decode cX4_readClause 43 = .ok (.return_, 1) := by decide +kernel
theorem dX4_readClause_44 : decode cX4_readClause 44 = .ok (.aload_n 0, 1) := by decide +kernel
theorem dX4_readClause_45 : decode cX4_readClause 45 = .ok (.getfield 25, 3) := by decide +kernel
theorem dX4_readClause_48 : decode cX4_readClause 48 = .ok (.invokevirtual 39, 3) := by decide +kernel
theorem dX4_readClause_51 : decode cX4_readClause 51 = .ok (.aload_n 0, 1) := by decide +kernel
theorem dX4_readClause_52 : decode cX4_readClause 52 = .ok (.getfield 9, 3) := by decide +kernel
theorem dX4_readClause_55 : decode cX4_readClause 55 = .ok (.getfield 42, 3) := by decide +kernel
theorem dX4_readClause_58 : decode cX4_readClause 58 = .ok (.istore_n 3, 1) := by decide +kernel
theorem dX4_readClause_59 : decode cX4_readClause 59 = .ok (.iload_n 2, 1) := by decide +kernel
theorem dX4_readClause_60 : decode cX4_readClause 60 = .ok (.bipush 9, 2) := by decide +kernel
theorem dX4_readClause_62 : decode cX4_readClause 62 = .ok (.if_icmp .ne 7, 3) := by decide +kernel
theorem dX4_readClause_65 : decode cX4_readClause 65 = .ok (.aload_n 0, 1) := by decide +kernel
theorem dX4_readClause_66 : decode cX4_readClause 66 = .ok (.invokevirtual 45, 3) := by decide +kernel
theorem dX4_readClause_69 : decode cX4_readClause 69 = .ok (.aload_n 0, 1) := by decide +kernel
theorem dX4_readClause_70 : decode cX4_readClause 70 = .ok (.getfield 9, 3) := by decide +kernel
theorem dX4_readClause_73 : decode cX4_readClause 73 = .ok (.getfield 42, 3) := by decide +kernel
theorem dX4_readClause_76 : decode cX4_readClause 76 = .ok (.istore 4, 2) := by decide +kernel
theorem dX4_readClause_78 : decode cX4_readClause 78 = .ok (.iload_n 2, 1) := by decide +kernel
theorem dX4_readClause_79 : decode cX4_readClause 79 = .ok (.bipush 8, 2) := by decide +kernel
theorem dX4_readClause_81 : decode cX4_readClause 81 = .ok (.if_icmp .ne 11, 3) := by decide +kernel
theorem dX4_readClause_84 : decode cX4_readClause 84 = .ok (.aload_n 0, 1) := by decide +kernel
theorem dX4_readClause_85 : decode cX4_readClause 85 = .ok (.iconst 0, 1) := by decide +kernel
theorem dX4_readClause_86 : decode cX4_readClause 86 = .ok (.invokevirtual 48, 3) := by decide +kernel
theorem dX4_readClause_89 : decode cX4_readClause 89 = .ok (.goto 36, 3) := by decide +kernel
theorem dX4_readClause_92 : decode cX4_readClause 92 = .ok (.aload_n 0, 1) := by decide +kernel
theorem dX4_readClause_93 : decode cX4_readClause 93 = .ok (.getfield 25, 3) := by decide +kernel
theorem dX4_readClause_96 : decode cX4_readClause 96 = .ok (.invokevirtual 51, 3) := by decide +kernel
theorem dX4_readClause_99 : decode cX4_readClause 99 = .ok (.ifCond .eq 26, 3) := by decide +kernel
theorem dX4_readClause_102 : decode cX4_readClause 102 = .ok (.aload_n 0, 1) := by decide +kernel
theorem dX4_readClause_103 : decode cX4_readClause 103 = .ok (.getfield 25, 3) := by decide +kernel
theorem dX4_readClause_106 : decode cX4_readClause 106 = .ok (.invokevirtual 29, 3) := by decide +kernel
theorem dX4_readClause_109 : decode cX4_readClause 109 = .ok (.iconst 4, 1) := by decide +kernel
theorem dX4_readClause_110 : decode cX4_readClause 110 = .ok (.if_icmp .ne 15, 3) := by decide +kernel
theorem dX4_readClause_113 : decode cX4_readClause 113 = .ok (.aload_n 0, 1) := by decide +kernel
theorem dX4_readClause_114 : decode cX4_readClause 114 = .ok (.getfield 25, 3) := by decide +kernel
theorem dX4_readClause_117 : decode cX4_readClause 117 = .ok (.invokevirtual 39, 3) := by decide +kernel
theorem dX4_readClause_120 : decode cX4_readClause 120 = .ok (.aload_n 0, 1) := by decide +kernel
theorem dX4_readClause_121 : decode cX4_readClause 121 = .ok (.iconst 0, 1) := by decide +kernel
theorem dX4_readClause_122 : decode cX4_readClause 122 = .ok (.invokevirtual 48, 3) := by decide +kernel
theorem dX4_readClause_125 : decode cX4_readClause 125 = .ok (.aload_n 0, 1) := by decide +kernel
theorem dX4_readClause_126 : decode cX4_readClause 126 = .ok (.getfield 25, 3) := by decide +kernel
theorem dX4_readClause_129 : decode cX4_readClause 129 = .ok (.invokevirtual 51, 3) := by decide +kernel
theorem dX4_readClause_132 : decode cX4_readClause 132 = .ok (.ifCond .eq 24, 3) := by decide +kernel
theorem dX4_readClause_135 : decode cX4_readClause 135 = .ok (.aload_n 0, 1) := by decide +kernel
theorem dX4_readClause_136 : decode cX4_readClause 136 = .ok (.getfield 9, 3) := by decide +kernel
theorem dX4_readClause_139 : decode cX4_readClause 139 = .ok (.iload_n 2, 1) := by decide +kernel
theorem dX4_readClause_140 : decode cX4_readClause 140 = .ok (.bipush 8, 2) := by decide +kernel
theorem dX4_readClause_142 : decode cX4_readClause 142 = .ok (.if_icmp .ne 7, 3) := by decide +kernel
theorem dX4_readClause_145 : decode cX4_readClause 145 = .ok (.iconst 1, 1) := by decide +kernel
theorem dX4_readClause_146 : decode cX4_readClause 146 = .ok (.goto 4, 3) := by decide +kernel
theorem dX4_readClause_149 : decode cX4_readClause 149 = .ok (.iconst 0, 1) := by decide +kernel
theorem dX4_readClause_150 : decode cX4_readClause 150 = .ok (.iload_n 3, 1) := by decide +kernel
theorem dX4_readClause_151 : decode cX4_readClause 151 = .ok (.iload 4, 2) := by decide +kernel
theorem dX4_readClause_153 : decode cX4_readClause 153 = .ok (.invokevirtual 55, 3) := by decide +kernel
theorem dX4_readClause_156 : decode cX4_readClause 156 = .ok (.return_, 1) := by decide +kernel
theorem dX4_readTest_0 : decode cX4_readTest 0 = .ok (.aload_n 0, 1) := by decide +kernel
theorem dX4_readTest_1 : decode cX4_readTest 1 = .ok (.iload_n 1, 1) := by decide +kernel
theorem dX4_readTest_2 : decode cX4_readTest 2 = .ok (.invokevirtual 59, 3) := by decide +kernel
theorem dX4_readTest_5 : decode cX4_readTest 5 = .ok (.iconst 0, 1) := by decide +kernel
theorem dX4_readTest_6 : decode cX4_readTest 6 = .ok (.istore_n 2, 1) := by decide +kernel
theorem dX4_readTest_7 : decode cX4_readTest 7 = .ok (.iconst 0, 1) := by decide +kernel
theorem dX4_readTest_8 : decode cX4_readTest 8 = .ok (.istore_n 3, 1) := by decide +kernel
theorem dX4_readTest_9 : decode cX4_readTest 9 = .ok (.iload_n 3, 1) := by decide +kernel
theorem dX4_readTest_10 : decode cX4_readTest 10 = .ok (.sipush 400, 3) := by decide +kernel
theorem dX4_readTest_13 : decode cX4_readTest 13 = .ok (.if_icmp .ge 110, 3) := by decide +kernel
theorem dX4_readTest_16 : decode cX4_readTest 16 = .ok (.aload_n 0, 1) := by decide +kernel
theorem dX4_readTest_17 : decode cX4_readTest 17 = .ok (.getfield 25, 3) := by decide +kernel
theorem dX4_readTest_20 : decode cX4_readTest 20 = .ok (.invokevirtual 51, 3) := by decide +kernel
theorem dX4_readTest_23 : decode cX4_readTest 23 = .ok (.ifCond .eq 100, 3) := by decide +kernel
theorem dX4_readTest_26 : decode cX4_readTest 26 = .ok (.aload_n 0, 1) := by decide +kernel
theorem dX4_readTest_27 : decode cX4_readTest 27 = .ok (.getfield 25, 3) := by decide +kernel
theorem dX4_readTest_30 : decode cX4_readTest 30 = .ok (.invokevirtual 29, 3) := by decide +kernel
theorem dX4_readTest_33 : decode cX4_readTest 33 = .ok (.invokestatic 62, 3) := by decide +kernel
theorem dX4_readTest_36 : decode cX4_readTest 36 = .ok (.ifCond .eq 87, 3) := by decide +kernel
theorem dX4_readTest_39 : decode cX4_readTest 39 = .ok (.aload_n 0, 1) := by decide +kernel
theorem dX4_readTest_40 : decode cX4_readTest 40 = .ok (.getfield 25, 3) := by decide +kernel
theorem dX4_readTest_43 : decode cX4_readTest 43 = .ok (.invokevirtual 29, 3) := by decide +kernel
theorem dX4_readTest_46 : decode cX4_readTest 46 = .ok (.bipush 10, 2) := by decide +kernel
theorem dX4_readTest_48 : decode cX4_readTest 48 = .ok (.if_icmp .ne 7, 3) := by decide +kernel
theorem dX4_readTest_51 : decode cX4_readTest 51 = .ok (.iconst 1, 1) := by decide +kernel
theorem dX4_readTest_52 : decode cX4_readTest 52 = .ok (.goto 4, 3) := by decide +kernel
theorem dX4_readTest_55 : decode cX4_readTest 55 = .ok (.iconst 0, 1) := by decide +kernel
theorem dX4_readTest_56 : decode cX4_readTest 56 = .ok (.istore 4, 2) := by decide +kernel
theorem dX4_readTest_58 : decode cX4_readTest 58 = .ok (.iload 4, 2) := by decide +kernel
theorem dX4_readTest_60 : decode cX4_readTest 60 = .ok (.ifCond .eq 16, 3) := by decide +kernel
theorem dX4_readTest_63 : decode cX4_readTest 63 = .ok (.iload_n 2, 1) := by decide +kernel
theorem dX4_readTest_64 : decode cX4_readTest 64 = .ok (.ifCond .eq 12, 3) := by decide +kernel
theorem dX4_readTest_67 : decode cX4_readTest 67 = .ok (.aload_n 0, 1) := by decide +kernel
theorem dX4_readTest_68 : decode cX4_readTest 68 = .ok (.getfield 9, 3) := by decide +kernel
theorem dX4_readTest_71 : decode cX4_readTest 71 = .ok (.iconst 4, 1) := by decide +kernel
theorem dX4_readTest_72 : decode cX4_readTest 72 = .ok (.iconst 0, 1) := by decide +kernel
theorem dX4_readTest_73 : decode cX4_readTest 73 = .ok (.invokevirtual 66, 3) := by decide +kernel
theorem dX4_readTest_76 : decode cX4_readTest 76 = .ok (.iload_n 2, 1) := by decide +kernel
theorem dX4_readTest_77 : decode cX4_readTest 77 = .ok (.ifCond .ne 8, 3) := by decide +kernel
theorem dX4_readTest_80 : decode cX4_readTest 80 = .ok (.iload 4, 2) := by decide +kernel
theorem dX4_readTest_82 : decode cX4_readTest 82 = .ok (.ifCond .eq 7, 3) := by decide +kernel
theorem dX4_readTest_85 : decode cX4_readTest 85 = .ok (.iconst 1, 1) := by decide +kernel
theorem dX4_readTest_86 : decode cX4_readTest 86 = .ok (.goto 4, 3) := by decide +kernel
theorem dX4_readTest_89 : decode cX4_readTest 89 = .ok (.iconst 0, 1) := by decide +kernel
theorem dX4_readTest_90 : decode cX4_readTest 90 = .ok (.istore_n 2, 1) := by decide +kernel
theorem dX4_readTest_91 : decode cX4_readTest 91 = .ok (.aload_n 0, 1) := by decide +kernel
theorem dX4_readTest_92 : decode cX4_readTest 92 = .ok (.getfield 25, 3) := by decide +kernel
theorem dX4_readTest_95 : decode cX4_readTest 95 = .ok (.invokevirtual 39, 3) := by decide +kernel
theorem dX4_readTest_98 : decode cX4_readTest 98 = .ok (.aload_n 0, 1) := by decide +kernel
theorem dX4_readTest_99 : decode cX4_readTest 99 = .ok (.iload_n 1, 1) := by decide +kernel
theorem dX4_readTest_100 : decode cX4_readTest 100 = .ok (.invokevirtual 59, 3) := by decide +kernel
theorem dX4_readTest_103 : decode cX4_readTest 103 = .ok (.iload 4, 2) := by decide +kernel
theorem dX4_readTest_105 : decode cX4_readTest 105 = .ok (.ifCond .ne 12, 3) := by decide +kernel
theorem dX4_readTest_108 : decode cX4_readTest 108 = .ok (.aload_n 0, 1) := by decide +kernel
theorem dX4_readTest_109 : decode cX4_readTest 109 = .ok (.getfield 9, 3) := by decide +kernel
theorem dX4_readTest_112 : decode cX4_readTest 112 = .ok (.iconst 3, 1) := by decide +kernel
theorem dX4_readTest_113 : decode cX4_readTest 113 = .ok (.iconst 0, 1) := by decide +kernel
theorem dX4_readTest_114 : decode cX4_readTest 114 = .ok (.invokevirtual 66, 3) := by decide +kernel
theorem dX4_readTest_117 : decode cX4_readTest 117 = .ok (.iinc 3 1, 3) := by decide +kernel
theorem dX4_readTest_120 : decode cX4_readTest 120 = .ok (.goto (-111), 3) := by decide +kernel
theorem dX4_readTest_123 : decode cX4_readTest 123 = .ok (.iload_n 2, 1) := by decide +kernel
theorem dX4_readTest_124 : decode cX4_readTest 124 = .ok (.ifCond .eq 12, 3) := by decide +kernel
theorem dX4_readTest_127 : decode cX4_readTest 127 = .ok (.aload_n 0, 1) := by decide +kernel
theorem dX4_readTest_128 : decode cX4_readTest 128 = .ok (.getfield 9, 3) := by decide +kernel
theorem dX4_readTest_131 : decode cX4_readTest 131 = .ok (.iconst 4, 1) := by decide +kernel
theorem dX4_readTest_132 : decode cX4_readTest 132 = .ok (.iconst 0, 1) := by decide +kernel
theorem dX4_readTest_133 : decode cX4_readTest 133 = .ok (.invokevirtual 66, 3) := by decide +kernel
theorem dX4_readTest_136 : decode cX4_readTest 136 = .ok (.return_, 1) := by decide +kernel
theorem dX4_isJoint_0 : decode cX4_isJoint 0 = .ok (.iload_n 0, 1) := by decide +kernel
theorem dX4_isJoint_1 : decode cX4_isJoint 1 = .ok (.bipush 10, 2) := by decide +kernel
theorem dX4_isJoint_3 : decode cX4_isJoint 3 = .ok (.if_icmp .eq 9, 3) := by decide +kernel
theorem dX4_isJoint_6 : decode cX4_isJoint 6 = .ok (.iload_n 0, 1) := by decide +kernel
theorem dX4_isJoint_7 : decode cX4_isJoint 7 = .ok (.bipush 11, 2) := by decide +kernel
theorem dX4_isJoint_9 : decode cX4_isJoint 9 = .ok (.if_icmp .ne 7, 3) := by decide +kernel
theorem dX4_isJoint_12 : decode cX4_isJoint 12 = .ok (.iconst 1, 1) := by decide +kernel
theorem dX4_isJoint_13 : decode cX4_isJoint 13 = .ok (.goto 4, 3) := by decide +kernel
theorem dX4_isJoint_16 : decode cX4_isJoint 16 = .ok (.iconst 0, 1) := by decide +kernel
theorem dX4_isJoint_17 : decode cX4_isJoint 17 = .ok (.ireturn, 1) := by decide +kernel
theorem dX4_readFact_0 : decode cX4_readFact 0 = .ok (.aload_n 0, 1) := by decide +kernel
theorem dX4_readFact_1 : decode cX4_readFact 1 = .ok (.getfield 25, 3) := by decide +kernel
theorem dX4_readFact_4 : decode cX4_readFact 4 = .ok (.invokevirtual 29, 3) := by decide +kernel
theorem dX4_readFact_7 : decode cX4_readFact 7 = .ok (.bipush 12, 2) := by decide +kernel
theorem dX4_readFact_9 : decode cX4_readFact 9 = .ok (.if_icmp .ne 7, 3) := by decide +kernel
theorem dX4_readFact_12 : decode cX4_readFact 12 = .ok (.iconst 1, 1) := by decide +kernel
theorem dX4_readFact_13 : decode cX4_readFact 13 = .ok (.goto 4, 3) := by decide +kernel
theorem dX4_readFact_16 : decode cX4_readFact 16 = .ok (.iconst 0, 1) := by decide +kernel
theorem dX4_readFact_17 : decode cX4_readFact 17 = .ok (.istore_n 2, 1) := by decide +kernel
theorem dX4_readFact_18 : decode cX4_readFact 18 = .ok (.iload_n 2, 1) := by decide +kernel
theorem dX4_readFact_19 : decode cX4_readFact 19 = .ok (.ifCond .ne 15, 3) := by decide +kernel
theorem dX4_readFact_22 : decode cX4_readFact 22 = .ok (.aload_n 0, 1) := by decide +kernel
theorem dX4_readFact_23 : decode cX4_readFact 23 = .ok (.getfield 25, 3) := by decide +kernel
theorem dX4_readFact_26 : decode cX4_readFact 26 = .ok (.bipush 91, 2) := by decide +kernel
theorem dX4_readFact_28 : decode cX4_readFact 28 = .ok (.invokevirtual 70, 3) := by decide +kernel
theorem dX4_readFact_31 : decode cX4_readFact 31 = .ok (.ifCond .eq 7, 3) := by decide +kernel
theorem dX4_readFact_34 : decode cX4_readFact 34 = .ok (.iconst 1, 1) := by decide +kernel
theorem dX4_readFact_35 : decode cX4_readFact 35 = .ok (.goto 4, 3) := by decide +kernel
theorem dX4_readFact_38 : decode cX4_readFact 38 = .ok (.iconst 0, 1) := by decide +kernel
theorem dX4_readFact_39 : decode cX4_readFact 39 = .ok (.istore_n 3, 1) := by decide +kernel
theorem dX4_readFact_40 : decode cX4_readFact 40 = .ok (.iload_n 3, 1) := by decide +kernel
theorem dX4_readFact_41 : decode cX4_readFact 41 = .ok (.ifCond .eq 20, 3) := by decide +kernel
theorem dX4_readFact_44 : decode cX4_readFact 44 = .ok (.iload_n 1, 1) := by decide +kernel
theorem dX4_readFact_45 : decode cX4_readFact 45 = .ok (.bipush 10, 2) := by decide +kernel
theorem dX4_readFact_47 : decode cX4_readFact 47 = .ok (.if_icmp .lt 14, 3) := by decide +kernel
theorem dX4_readFact_50 : decode cX4_readFact 50 = .ok (.aload_n 0, 1) := by decide +kernel
theorem dX4_readFact_51 : decode cX4_readFact 51 = .ok (.getfield 25, 3) := by decide +kernel
theorem dX4_readFact_54 : decode cX4_readFact 54 = .ok (.iconst 2, 1) := by decide +kernel
theorem dX4_readFact_55 : decode cX4_readFact 55 = .ok (.invokevirtual 35, 3) := by decide +kernel
theorem dX4_readFact_58 : decode cX4_readFact 58 = .ok (.goto 82, 3) := by decide +kernel
theorem dX4_readFact_61 : decode cX4_readFact 61 = .ok (.iload_n 2, 1) := by decide +kernel
theorem dX4_readFact_62 : decode cX4_readFact 62 = .ok (.ifCond .eq 29, 3) := by decide +kernel
theorem dX4_readFact_65 : decode cX4_readFact 65 = .ok (.aload_n 0, 1) := by decide +kernel
theorem dX4_readFact_66 : decode cX4_readFact 66 = .ok (.getfield 25, 3) := by decide +kernel
theorem dX4_readFact_69 : decode cX4_readFact 69 = .ok (.invokevirtual 39, 3) := by decide +kernel
theorem dX4_readFact_72 : decode cX4_readFact 72 = .ok (.aload_n 0, 1) := by decide +kernel
theorem dX4_readFact_73 : decode cX4_readFact 73 = .ok (.iload_n 1, 1) := by decide +kernel
theorem dX4_readFact_74 : decode cX4_readFact 74 = .ok (.iconst 1, 1) := by decide +kernel
theorem dX4_readFact_75 : decode cX4_readFact 75 = .ok (.iadd, 1) := by decide +kernel
theorem dX4_readFact_76 : decode cX4_readFact 76 = .ok (.invokevirtual 59, 3) := by decide +kernel
theorem dX4_readFact_79 : decode cX4_readFact 79 = .ok (.aload_n 0, 1) := by decide +kernel
theorem dX4_readFact_80 : decode cX4_readFact 80 = .ok (.getfield 9, 3) := by decide +kernel
theorem dX4_readFact_83 : decode cX4_readFact 83 = .ok (.iconst 2, 1) := by decide +kernel
theorem dX4_readFact_84 : decode cX4_readFact 84 = .ok (.iconst 0, 1) := by decide +kernel
theorem dX4_readFact_85 : decode cX4_readFact 85 = .ok (.invokevirtual 66, 3) := by decide +kernel
theorem dX4_readFact_88 : decode cX4_readFact 88 = .ok (.goto 52, 3) := by decide +kernel
theorem dX4_readFact_91 : decode cX4_readFact 91 = .ok (.iload_n 3, 1) := by decide +kernel
theorem dX4_readFact_92 : decode cX4_readFact 92 = .ok (.ifCond .eq 24, 3) := by decide +kernel
theorem dX4_readFact_95 : decode cX4_readFact 95 = .ok (.aload_n 0, 1) := by decide +kernel
theorem dX4_readFact_96 : decode cX4_readFact 96 = .ok (.getfield 25, 3) := by decide +kernel
theorem dX4_readFact_99 : decode cX4_readFact 99 = .ok (.invokevirtual 39, 3) := by decide +kernel
theorem dX4_readFact_102 : decode cX4_readFact 102 = .ok (.aload_n 0, 1) := by decide +kernel
theorem dX4_readFact_103 : decode cX4_readFact 103 = .ok (.iload_n 1, 1) := by decide +kernel
theorem dX4_readFact_104 : decode cX4_readFact 104 = .ok (.iconst 1, 1) := by decide +kernel
theorem dX4_readFact_105 : decode cX4_readFact 105 = .ok (.iadd, 1) := by decide +kernel
theorem dX4_readFact_106 : decode cX4_readFact 106 = .ok (.invokevirtual 48, 3) := by decide +kernel
theorem dX4_readFact_109 : decode cX4_readFact 109 = .ok (.aload_n 0, 1) := by decide +kernel
theorem dX4_readFact_110 : decode cX4_readFact 110 = .ok (.invokevirtual 73, 3) := by decide +kernel
theorem dX4_readFact_113 : decode cX4_readFact 113 = .ok (.goto 27, 3) := by decide +kernel
theorem dX4_readFact_116 : decode cX4_readFact 116 = .ok (.aload_n 0, 1) := by decide +kernel
theorem dX4_readFact_117 : decode cX4_readFact 117 = .ok (.invokevirtual 45, 3) := by decide +kernel
theorem dX4_readFact_120 : decode cX4_readFact 120 = .ok (.aload_n 0, 1) := by decide +kernel
theorem dX4_readFact_121 : decode cX4_readFact 121 = .ok (.invokevirtual 76, 3) := by decide +kernel
theorem dX4_readFact_124 : decode cX4_readFact 124 = .ok (.istore 4, 2) := by decide +kernel
theorem dX4_readFact_126 : decode cX4_readFact 126 = .ok (.aload_n 0, 1) := by decide +kernel
theorem dX4_readFact_127 : decode cX4_readFact 127 = .ok (.invokevirtual 45, 3) := by decide +kernel
theorem dX4_readFact_130 : decode cX4_readFact 130 = .ok (.aload_n 0, 1) := by decide +kernel
theorem dX4_readFact_131 : decode cX4_readFact 131 = .ok (.getfield 9, 3) := by decide +kernel
theorem dX4_readFact_134 : decode cX4_readFact 134 = .ok (.iload 4, 2) := by decide +kernel
theorem dX4_readFact_136 : decode cX4_readFact 136 = .ok (.iconst 0, 1) := by decide +kernel
theorem dX4_readFact_137 : decode cX4_readFact 137 = .ok (.invokevirtual 66, 3) := by decide +kernel
theorem dX4_readFact_140 : decode cX4_readFact 140 = .ok (.return_, 1) := by decide +kernel
theorem dX4_readClosing_0 : decode cX4_readClosing 0 = .ok (.aload_n 0, 1) := by decide +kernel
theorem dX4_readClosing_1 : decode cX4_readClosing 1 = .ok (.getfield 25, 3) := by decide +kernel
theorem dX4_readClosing_4 : decode cX4_readClosing 4 = .ok (.bipush 93, 2) := by decide +kernel
theorem dX4_readClosing_6 : decode cX4_readClosing 6 = .ok (.invokevirtual 70, 3) := by decide +kernel
theorem dX4_readClosing_9 : decode cX4_readClosing 9 = .ok (.ifCond .eq 13, 3) := by decide +kernel
theorem dX4_readClosing_12 : decode cX4_readClosing 12 = .ok (.aload_n 0, 1) := by decide +kernel
theorem dX4_readClosing_13 : decode cX4_readClosing 13 = .ok (.getfield 25, 3) := by decide +kernel
theorem dX4_readClosing_16 : decode cX4_readClosing 16 = .ok (.invokevirtual 39, 3) := by decide +kernel
theorem dX4_readClosing_19 : decode cX4_readClosing 19 = .ok (.goto 11, 3) := by decide +kernel
theorem dX4_readClosing_22 : decode cX4_readClosing 22 = .ok (.aload_n 0, 1) := by decide +kernel
theorem dX4_readClosing_23 : decode cX4_readClosing 23 = .ok (.getfield 25, 3) := by decide +kernel
theorem dX4_readClosing_26 : decode cX4_readClosing 26 = .ok (.iconst 0, 1) := by decide +kernel
theorem dX4_readClosing_27 : decode cX4_readClosing 27 = .ok (.invokevirtual 35, 3) := by decide +kernel
theorem dX4_readClosing_30 : decode cX4_readClosing 30 = .ok (.return_, 1) := by decide +kernel
theorem dX4_readSign_0 : decode cX4_readSign 0 = .ok (.aload_n 0, 1) := by decide +kernel
theorem dX4_readSign_1 : decode cX4_readSign 1 = .ok (.getfield 25, 3) := by decide +kernel
theorem dX4_readSign_4 : decode cX4_readSign 4 = .ok (.invokevirtual 79, 3) := by decide +kernel
theorem dX4_readSign_7 : decode cX4_readSign 7 = .ok (.istore_n 1, 1) := by decide +kernel
theorem dX4_readSign_8 : decode cX4_readSign 8 = .ok (.aload_n 0, 1) := by decide +kernel
theorem dX4_readSign_9 : decode cX4_readSign 9 = .ok (.getfield 25, 3) := by decide +kernel
theorem dX4_readSign_12 : decode cX4_readSign 12 = .ok (.invokevirtual 82, 3) := by decide +kernel
theorem dX4_readSign_15 : decode cX4_readSign 15 = .ok (.iconst 4, 1) := by decide +kernel
theorem dX4_readSign_16 : decode cX4_readSign 16 = .ok (.if_icmp .eq 14, 3) := by decide +kernel
theorem dX4_readSign_19 : decode cX4_readSign 19 = .ok (.aload_n 0, 1) := by decide +kernel
theorem dX4_readSign_20 : decode cX4_readSign 20 = .ok (.getfield 25, 3) := by decide +kernel
theorem dX4_readSign_23 : decode cX4_readSign 23 = .ok (.iconst 0, 1) := by decide +kernel
theorem dX4_readSign_24 : decode cX4_readSign 24 = .ok (.invokevirtual 35, 3) := by decide +kernel
theorem dX4_readSign_27 : decode cX4_readSign 27 = .ok (.goto 20, 3) := by decide +kernel
theorem dX4_readSign_30 : decode cX4_readSign 30 = .ok (.aload_n 0, 1) := by decide +kernel
theorem dX4_readSign_31 : decode cX4_readSign 31 = .ok (.getfield 21, 3) := by decide +kernel
theorem dX4_readSign_34 : decode cX4_readSign 34 = .ok (.bipush 60, 2) := by decide +kernel
theorem dX4_readSign_36 : decode cX4_readSign 36 = .ok (.if_icmp .lt 11, 3) := by decide +kernel
theorem dX4_readSign_39 : decode cX4_readSign 39 = .ok (.aload_n 0, 1) := by decide +kernel
theorem dX4_readSign_40 : decode cX4_readSign 40 = .ok (.getfield 25, 3) := by decide +kernel
theorem dX4_readSign_43 : decode cX4_readSign 43 = .ok (.iconst 3, 1) := by decide +kernel
theorem dX4_readSign_44 : decode cX4_readSign 44 = .ok (.invokevirtual 35, 3) := by decide +kernel
theorem dX4_readSign_47 : decode cX4_readSign 47 = .ok (.aload_n 0, 1) := by decide +kernel
theorem dX4_readSign_48 : decode cX4_readSign 48 = .ok (.getfield 25, 3) := by decide +kernel
theorem dX4_readSign_51 : decode cX4_readSign 51 = .ok (.invokevirtual 51, 3) := by decide +kernel
theorem dX4_readSign_54 : decode cX4_readSign 54 = .ok (.ifCond .eq 20, 3) := by decide +kernel
theorem dX4_readSign_57 : decode cX4_readSign 57 = .ok (.aload_n 0, 1) := by decide +kernel
theorem dX4_readSign_58 : decode cX4_readSign 58 = .ok (.dup, 1) := by decide +kernel
theorem dX4_readSign_59 : decode cX4_readSign 59 = .ok (.getfield 21, 3) := by decide +kernel
theorem dX4_readSign_62 : decode cX4_readSign 62 = .ok (.iconst 1, 1) := by decide +kernel
theorem dX4_readSign_63 : decode cX4_readSign 63 = .ok (.iadd, 1) := by decide +kernel
theorem dX4_readSign_64 : decode cX4_readSign 64 = .ok (.putfield 21, 3) := by decide +kernel
theorem dX4_readSign_67 : decode cX4_readSign 67 = .ok (.aload_n 0, 1) := by decide +kernel
theorem dX4_readSign_68 : decode cX4_readSign 68 = .ok (.getfield 25, 3) := by decide +kernel
theorem dX4_readSign_71 : decode cX4_readSign 71 = .ok (.invokevirtual 39, 3) := by decide +kernel
theorem dX4_readSign_74 : decode cX4_readSign 74 = .ok (.iload_n 1, 1) := by decide +kernel
theorem dX4_readSign_75 : decode cX4_readSign 75 = .ok (.ireturn, 1) := by decide +kernel
theorem dX4_readSum_0 : decode cX4_readSum 0 = .ok (.aload_n 0, 1) := by decide +kernel
theorem dX4_readSum_1 : decode cX4_readSum 1 = .ok (.invokevirtual 85, 3) := by decide +kernel
theorem dX4_readSum_4 : decode cX4_readSum 4 = .ok (.iconst (-1), 1) := by decide +kernel
theorem dX4_readSum_5 : decode cX4_readSum 5 = .ok (.istore_n 1, 1) := by decide +kernel
theorem dX4_readSum_6 : decode cX4_readSum 6 = .ok (.iconst 0, 1) := by decide +kernel
theorem dX4_readSum_7 : decode cX4_readSum 7 = .ok (.istore_n 2, 1) := by decide +kernel
theorem dX4_readSum_8 : decode cX4_readSum 8 = .ok (.iload_n 2, 1) := by decide +kernel
theorem dX4_readSum_9 : decode cX4_readSum 9 = .ok (.sipush 400, 3) := by decide +kernel
theorem dX4_readSum_12 : decode cX4_readSum 12 = .ok (.if_icmp .ge 100, 3) := by decide +kernel
theorem dX4_readSum_15 : decode cX4_readSum 15 = .ok (.aload_n 0, 1) := by decide +kernel
theorem dX4_readSum_16 : decode cX4_readSum 16 = .ok (.getfield 25, 3) := by decide +kernel
theorem dX4_readSum_19 : decode cX4_readSum 19 = .ok (.invokevirtual 51, 3) := by decide +kernel
theorem dX4_readSum_22 : decode cX4_readSum 22 = .ok (.ifCond .eq 90, 3) := by decide +kernel
theorem dX4_readSum_25 : decode cX4_readSum 25 = .ok (.aload_n 0, 1) := by decide +kernel
theorem dX4_readSum_26 : decode cX4_readSum 26 = .ok (.invokevirtual 88, 3) := by decide +kernel
theorem dX4_readSum_29 : decode cX4_readSum 29 = .ok (.istore_n 3, 1) := by decide +kernel
theorem dX4_readSum_30 : decode cX4_readSum 30 = .ok (.iload_n 3, 1) := by decide +kernel
theorem dX4_readSum_31 : decode cX4_readSum 31 = .ok (.iconst (-1), 1) := by decide +kernel
theorem dX4_readSum_32 : decode cX4_readSum 32 = .ok (.if_icmp .ne 6, 3) := by decide +kernel
theorem dX4_readSum_35 : decode cX4_readSum 35 = .ok (.goto 77, 3) := by decide +kernel
theorem dX4_readSum_38 : decode cX4_readSum 38 = .ok (.iload_n 3, 1) := by decide +kernel
theorem dX4_readSum_39 : decode cX4_readSum 39 = .ok (.bipush 7, 2) := by decide +kernel
theorem dX4_readSum_41 : decode cX4_readSum 41 = .ok (.if_icmp .lt 7, 3) := by decide +kernel
theorem dX4_readSum_44 : decode cX4_readSum 44 = .ok (.iconst 1, 1) := by decide +kernel
theorem dX4_readSum_45 : decode cX4_readSum 45 = .ok (.goto 4, 3) := by decide +kernel
theorem dX4_readSum_48 : decode cX4_readSum 48 = .ok (.iconst 0, 1) := by decide +kernel
theorem dX4_readSum_49 : decode cX4_readSum 49 = .ok (.istore 4, 2) := by decide +kernel
theorem dX4_readSum_51 : decode cX4_readSum 51 = .ok (.iload 4, 2) := by decide +kernel
theorem dX4_readSum_53 : decode cX4_readSum 53 = .ok (.ifCond .ne 17, 3) := by decide +kernel
theorem dX4_readSum_56 : decode cX4_readSum 56 = .ok (.iload_n 1, 1) := by decide +kernel
theorem dX4_readSum_57 : decode cX4_readSum 57 = .ok (.iconst (-1), 1) := by decide +kernel
theorem dX4_readSum_58 : decode cX4_readSum 58 = .ok (.if_icmp .eq 12, 3) := by decide +kernel
theorem dX4_readSum_61 : decode cX4_readSum 61 = .ok (.aload_n 0, 1) := by decide +kernel
theorem dX4_readSum_62 : decode cX4_readSum 62 = .ok (.getfield 9, 3) := by decide +kernel
theorem dX4_readSum_65 : decode cX4_readSum 65 = .ok (.iload_n 1, 1) := by decide +kernel
theorem dX4_readSum_66 : decode cX4_readSum 66 = .ok (.iconst 0, 1) := by decide +kernel
theorem dX4_readSum_67 : decode cX4_readSum 67 = .ok (.invokevirtual 66, 3) := by decide +kernel
theorem dX4_readSum_70 : decode cX4_readSum 70 = .ok (.iload 4, 2) := by decide +kernel
theorem dX4_readSum_72 : decode cX4_readSum 72 = .ok (.ifCond .eq 7, 3) := by decide +kernel
theorem dX4_readSum_75 : decode cX4_readSum 75 = .ok (.iload_n 1, 1) := by decide +kernel
theorem dX4_readSum_76 : decode cX4_readSum 76 = .ok (.goto 4, 3) := by decide +kernel
theorem dX4_readSum_79 : decode cX4_readSum 79 = .ok (.iload_n 3, 1) := by decide +kernel
theorem dX4_readSum_80 : decode cX4_readSum 80 = .ok (.istore_n 1, 1) := by decide +kernel
theorem dX4_readSum_81 : decode cX4_readSum 81 = .ok (.aload_n 0, 1) := by decide +kernel
theorem dX4_readSum_82 : decode cX4_readSum 82 = .ok (.getfield 25, 3) := by decide +kernel
theorem dX4_readSum_85 : decode cX4_readSum 85 = .ok (.invokevirtual 39, 3) := by decide +kernel
theorem dX4_readSum_88 : decode cX4_readSum 88 = .ok (.aload_n 0, 1) := by decide +kernel
theorem dX4_readSum_89 : decode cX4_readSum 89 = .ok (.invokevirtual 85, 3) := by decide +kernel
theorem dX4_readSum_92 : decode cX4_readSum 92 = .ok (.iload 4, 2) := by decide +kernel
theorem dX4_readSum_94 : decode cX4_readSum 94 = .ok (.ifCond .eq 12, 3) := by decide +kernel
theorem dX4_readSum_97 : decode cX4_readSum 97 = .ok (.aload_n 0, 1) := by decide +kernel
theorem dX4_readSum_98 : decode cX4_readSum 98 = .ok (.getfield 9, 3) := by decide +kernel
theorem dX4_readSum_101 : decode cX4_readSum 101 = .ok (.iload_n 3, 1) := by decide +kernel
theorem dX4_readSum_102 : decode cX4_readSum 102 = .ok (.iconst 0, 1) := by decide +kernel
theorem dX4_readSum_103 : decode cX4_readSum 103 = .ok (.invokevirtual 66, 3) := by decide +kernel
theorem dX4_readSum_106 : decode cX4_readSum 106 = .ok (.iinc 2 1, 3) := by decide +kernel
theorem dX4_readSum_109 : decode cX4_readSum 109 = .ok (.goto (-101), 3) := by decide +kernel
theorem dX4_readSum_112 : decode cX4_readSum 112 = .ok (.iload_n 1, 1) := by decide +kernel
theorem dX4_readSum_113 : decode cX4_readSum 113 = .ok (.iconst (-1), 1) := by decide +kernel
theorem dX4_readSum_114 : decode cX4_readSum 114 = .ok (.if_icmp .eq 12, 3) := by decide +kernel
theorem dX4_readSum_117 : decode cX4_readSum 117 = .ok (.aload_n 0, 1) := by decide +kernel
theorem dX4_readSum_118 : decode cX4_readSum 118 = .ok (.getfield 9, 3) := by decide +kernel
theorem dX4_readSum_121 : decode cX4_readSum 121 = .ok (.iload_n 1, 1) := by decide +kernel
theorem dX4_readSum_122 : decode cX4_readSum 122 = .ok (.iconst 0, 1) := by decide +kernel
theorem dX4_readSum_123 : decode cX4_readSum 123 = .ok (.invokevirtual 66, 3) := by decide +kernel
theorem dX4_readSum_126 : decode cX4_readSum 126 = .ok (.return_, 1) := by decide +kernel
theorem dX4_arithmeticStep_0 : decode cX4_arithmeticStep 0 = .ok (.aload_n 0, 1) := by decide +kernel
theorem dX4_arithmeticStep_1 : decode cX4_arithmeticStep 1 = .ok (.getfield 25, 3) := by decide +kernel
theorem dX4_arithmeticStep_4 : decode cX4_arithmeticStep 4 = .ok (.invokevirtual 82, 3) := by decide +kernel
theorem dX4_arithmeticStep_7 : decode cX4_arithmeticStep 7 = .ok (.iconst 5, 1) := by decide +kernel
theorem dX4_arithmeticStep_8 : decode cX4_arithmeticStep 8 = .ok (.if_icmp .eq 5, 3) := by decide +kernel
theorem dX4_arithmeticStep_11 : decode cX4_arithmeticStep 11 = .ok (.iconst (-1), 1) := by decide +kernel
theorem dX4_arithmeticStep_12 : decode cX4_arithmeticStep 12 = .ok (.ireturn, 1) := by decide +kernel
theorem dX4_arithmeticStep_13 : decode cX4_arithmeticStep 13 = .ok (.aload_n 0, 1) := by decide +kernel
theorem dX4_arithmeticStep_14 : decode cX4_arithmeticStep 14 = .ok (.getfield 25, 3) := by decide +kernel
theorem dX4_arithmeticStep_17 : decode cX4_arithmeticStep 17 = .ok (.invokevirtual 79, 3) := by decide +kernel
theorem dX4_arithmeticStep_20 : decode cX4_arithmeticStep 20 = .ok (.tableswitch 74 37 47 #[71, 74, 74, 74, 74, 65, 60, 74, 62, 74, 68], 60) := by decide +kernel
theorem dX4_arithmeticStep_80 : decode cX4_arithmeticStep 80 = .ok (.iconst 5, 1) := by decide +kernel
theorem dX4_arithmeticStep_81 : decode cX4_arithmeticStep 81 = .ok (.ireturn, 1) := by decide +kernel
theorem dX4_arithmeticStep_82 : decode cX4_arithmeticStep 82 = .ok (.bipush 6, 2) := by decide +kernel
theorem dX4_arithmeticStep_84 : decode cX4_arithmeticStep 84 = .ok (.ireturn, 1) := by decide +kernel
theorem dX4_arithmeticStep_85 : decode cX4_arithmeticStep 85 = .ok (.bipush 7, 2) := by decide +kernel
theorem dX4_arithmeticStep_87 : decode cX4_arithmeticStep 87 = .ok (.ireturn, 1) := by decide +kernel
theorem dX4_arithmeticStep_88 : decode cX4_arithmeticStep 88 = .ok (.bipush 8, 2) := by decide +kernel
theorem dX4_arithmeticStep_90 : decode cX4_arithmeticStep 90 = .ok (.ireturn, 1) := by decide +kernel
theorem dX4_arithmeticStep_91 : decode cX4_arithmeticStep 91 = .ok (.bipush 9, 2) := by decide +kernel
theorem dX4_arithmeticStep_93 : decode cX4_arithmeticStep 93 = .ok (.ireturn, 1) := by decide +kernel
theorem dX4_arithmeticStep_94 : decode cX4_arithmeticStep 94 = .ok (.iconst (-1), 1) := by decide +kernel
theorem dX4_arithmeticStep_95 : decode cX4_arithmeticStep 95 = .ok (.ireturn, 1) := by decide +kernel
theorem dX4_readValue_0 : decode cX4_readValue 0 = .ok (.aload_n 0, 1) := by decide +kernel
theorem dX4_readValue_1 : decode cX4_readValue 1 = .ok (.getfield 25, 3) := by decide +kernel
theorem dX4_readValue_4 : decode cX4_readValue 4 = .ok (.invokevirtual 82, 3) := by decide +kernel
theorem dX4_readValue_7 : decode cX4_readValue 7 = .ok (.iconst 2, 1) := by decide +kernel
theorem dX4_readValue_8 : decode cX4_readValue 8 = .ok (.if_icmp .ne 7, 3) := by decide +kernel
theorem dX4_readValue_11 : decode cX4_readValue 11 = .ok (.iconst 1, 1) := by decide +kernel
theorem dX4_readValue_12 : decode cX4_readValue 12 = .ok (.goto 4, 3) := by decide +kernel
theorem dX4_readValue_15 : decode cX4_readValue 15 = .ok (.iconst 0, 1) := by decide +kernel
theorem dX4_readValue_16 : decode cX4_readValue 16 = .ok (.istore_n 1, 1) := by decide +kernel
theorem dX4_readValue_17 : decode cX4_readValue 17 = .ok (.aload_n 0, 1) := by decide +kernel
theorem dX4_readValue_18 : decode cX4_readValue 18 = .ok (.getfield 25, 3) := by decide +kernel
theorem dX4_readValue_21 : decode cX4_readValue 21 = .ok (.invokevirtual 82, 3) := by decide +kernel
theorem dX4_readValue_24 : decode cX4_readValue 24 = .ok (.iconst 3, 1) := by decide +kernel
theorem dX4_readValue_25 : decode cX4_readValue 25 = .ok (.if_icmp .ne 14, 3) := by decide +kernel
theorem dX4_readValue_28 : decode cX4_readValue 28 = .ok (.aload_n 0, 1) := by decide +kernel
theorem dX4_readValue_29 : decode cX4_readValue 29 = .ok (.getfield 25, 3) := by decide +kernel
theorem dX4_readValue_32 : decode cX4_readValue 32 = .ok (.iconst 1, 1) := by decide +kernel
theorem dX4_readValue_33 : decode cX4_readValue 33 = .ok (.invokevirtual 35, 3) := by decide +kernel
theorem dX4_readValue_36 : decode cX4_readValue 36 = .ok (.goto 48, 3) := by decide +kernel
theorem dX4_readValue_39 : decode cX4_readValue 39 = .ok (.iload_n 1, 1) := by decide +kernel
theorem dX4_readValue_40 : decode cX4_readValue 40 = .ok (.ifCond .ne 27, 3) := by decide +kernel
theorem dX4_readValue_43 : decode cX4_readValue 43 = .ok (.aload_n 0, 1) := by decide +kernel
theorem dX4_readValue_44 : decode cX4_readValue 44 = .ok (.getfield 25, 3) := by decide +kernel
theorem dX4_readValue_47 : decode cX4_readValue 47 = .ok (.invokevirtual 29, 3) := by decide +kernel
theorem dX4_readValue_50 : decode cX4_readValue 50 = .ok (.invokestatic 91, 3) := by decide +kernel
theorem dX4_readValue_53 : decode cX4_readValue 53 = .ok (.ifCond .ne 14, 3) := by decide +kernel
theorem dX4_readValue_56 : decode cX4_readValue 56 = .ok (.aload_n 0, 1) := by decide +kernel
theorem dX4_readValue_57 : decode cX4_readValue 57 = .ok (.getfield 25, 3) := by decide +kernel
theorem dX4_readValue_60 : decode cX4_readValue 60 = .ok (.iconst 0, 1) := by decide +kernel
theorem dX4_readValue_61 : decode cX4_readValue 61 = .ok (.invokevirtual 35, 3) := by decide +kernel
theorem dX4_readValue_64 : decode cX4_readValue 64 = .ok (.goto 20, 3) := by decide +kernel
theorem dX4_readValue_67 : decode cX4_readValue 67 = .ok (.aload_n 0, 1) := by decide +kernel
theorem dX4_readValue_68 : decode cX4_readValue 68 = .ok (.getfield 21, 3) := by decide +kernel
theorem dX4_readValue_71 : decode cX4_readValue 71 = .ok (.bipush 60, 2) := by decide +kernel
theorem dX4_readValue_73 : decode cX4_readValue 73 = .ok (.if_icmp .lt 11, 3) := by decide +kernel
theorem dX4_readValue_76 : decode cX4_readValue 76 = .ok (.aload_n 0, 1) := by decide +kernel
theorem dX4_readValue_77 : decode cX4_readValue 77 = .ok (.getfield 25, 3) := by decide +kernel
theorem dX4_readValue_80 : decode cX4_readValue 80 = .ok (.iconst 3, 1) := by decide +kernel
theorem dX4_readValue_81 : decode cX4_readValue 81 = .ok (.invokevirtual 35, 3) := by decide +kernel
theorem dX4_readValue_84 : decode cX4_readValue 84 = .ok (.aload_n 0, 1) := by decide +kernel
theorem dX4_readValue_85 : decode cX4_readValue 85 = .ok (.getfield 25, 3) := by decide +kernel
theorem dX4_readValue_88 : decode cX4_readValue 88 = .ok (.invokevirtual 51, 3) := by decide +kernel
theorem dX4_readValue_91 : decode cX4_readValue 91 = .ok (.ifCond .eq 43, 3) := by decide +kernel
theorem dX4_readValue_94 : decode cX4_readValue 94 = .ok (.aload_n 0, 1) := by decide +kernel
theorem dX4_readValue_95 : decode cX4_readValue 95 = .ok (.dup, 1) := by decide +kernel
theorem dX4_readValue_96 : decode cX4_readValue 96 = .ok (.getfield 21, 3) := by decide +kernel
theorem dX4_readValue_99 : decode cX4_readValue 99 = .ok (.iconst 1, 1) := by decide +kernel
theorem dX4_readValue_100 : decode cX4_readValue 100 = .ok (.iadd, 1) := by decide +kernel
theorem dX4_readValue_101 : decode cX4_readValue 101 = .ok (.putfield 21, 3) := by decide +kernel
theorem dX4_readValue_104 : decode cX4_readValue 104 = .ok (.aload_n 0, 1) := by decide +kernel
theorem dX4_readValue_105 : decode cX4_readValue 105 = .ok (.getfield 9, 3) := by decide +kernel
theorem dX4_readValue_108 : decode cX4_readValue 108 = .ok (.iload_n 1, 1) := by decide +kernel
theorem dX4_readValue_109 : decode cX4_readValue 109 = .ok (.ifCond .eq 7, 3) := by decide +kernel
theorem dX4_readValue_112 : decode cX4_readValue 112 = .ok (.iconst 0, 1) := by decide +kernel
theorem dX4_readValue_113 : decode cX4_readValue 113 = .ok (.goto 4, 3) := by decide +kernel
theorem dX4_readValue_116 : decode cX4_readValue 116 = .ok (.iconst 1, 1) := by decide +kernel
theorem dX4_readValue_117 : decode cX4_readValue 117 = .ok (.aload_n 0, 1) := by decide +kernel
theorem dX4_readValue_118 : decode cX4_readValue 118 = .ok (.getfield 25, 3) := by decide +kernel
theorem dX4_readValue_121 : decode cX4_readValue 121 = .ok (.invokevirtual 79, 3) := by decide +kernel
theorem dX4_readValue_124 : decode cX4_readValue 124 = .ok (.invokevirtual 66, 3) := by decide +kernel
theorem dX4_readValue_127 : decode cX4_readValue 127 = .ok (.aload_n 0, 1) := by decide +kernel
theorem dX4_readValue_128 : decode cX4_readValue 128 = .ok (.getfield 25, 3) := by decide +kernel
theorem dX4_readValue_131 : decode cX4_readValue 131 = .ok (.invokevirtual 39, 3) := by decide +kernel
theorem dX4_readValue_134 : decode cX4_readValue 134 = .ok (.return_, 1) := by decide +kernel
theorem dX4_isValueWord_0 : decode cX4_isValueWord 0 = .ok (.iload_n 0, 1) := by decide +kernel
theorem dX4_isValueWord_1 : decode cX4_isValueWord 1 = .ok (.iconst 2, 1) := by decide +kernel
theorem dX4_isValueWord_2 : decode cX4_isValueWord 2 = .ok (.if_icmp .eq 20, 3) := by decide +kernel
theorem dX4_isValueWord_5 : decode cX4_isValueWord 5 = .ok (.iload_n 0, 1) := by decide +kernel
theorem dX4_isValueWord_6 : decode cX4_isValueWord 6 = .ok (.iconst 5, 1) := by decide +kernel
theorem dX4_isValueWord_7 : decode cX4_isValueWord 7 = .ok (.if_icmp .eq 15, 3) := by decide +kernel
theorem dX4_isValueWord_10 : decode cX4_isValueWord 10 = .ok (.iload_n 0, 1) := by decide +kernel
theorem dX4_isValueWord_11 : decode cX4_isValueWord 11 = .ok (.bipush 6, 2) := by decide +kernel
theorem dX4_isValueWord_13 : decode cX4_isValueWord 13 = .ok (.if_icmp .eq 9, 3) := by decide +kernel
theorem dX4_isValueWord_16 : decode cX4_isValueWord 16 = .ok (.iload_n 0, 1) := by decide +kernel
theorem dX4_isValueWord_17 : decode cX4_isValueWord 17 = .ok (.bipush 13, 2) := by decide +kernel
theorem dX4_isValueWord_19 : decode cX4_isValueWord 19 = .ok (.if_icmp .lt 7, 3) := by decide +kernel
theorem dX4_isValueWord_22 : decode cX4_isValueWord 22 = .ok (.iconst 1, 1) := by decide +kernel
theorem dX4_isValueWord_23 : decode cX4_isValueWord 23 = .ok (.goto 4, 3) := by decide +kernel
theorem dX4_isValueWord_26 : decode cX4_isValueWord 26 = .ok (.iconst 0, 1) := by decide +kernel
theorem dX4_isValueWord_27 : decode cX4_isValueWord 27 = .ok (.ireturn, 1) := by decide +kernel
theorem dX5_init_0 : decode cX5_init 0 = .ok (.aload_n 0, 1) := by decide +kernel
theorem dX5_init_1 : decode cX5_init 1 = .ok (.invokespecial 3, 3) := by decide +kernel
theorem dX5_init_4 : decode cX5_init 4 = .ok (.aload_n 0, 1) := by decide +kernel
theorem dX5_init_5 : decode cX5_init 5 = .ok (.new 9, 3) := by decide +kernel
theorem dX5_init_8 : decode cX5_init 8 = .ok (.dup, 1) := by decide +kernel
theorem dX5_init_9 : decode cX5_init 9 = .ok (.invokespecial 11, 3) := by decide +kernel
theorem dX5_init_12 : decode cX5_init 12 = .ok (.putfield 12, 3) := by decide +kernel
theorem dX5_init_15 : decode cX5_init 15 = .ok (.aload_n 0, 1) := by decide +kernel
theorem dX5_init_16 : decode cX5_init 16 = .ok (.new 18, 3) := by decide +kernel
theorem dX5_init_19 : decode cX5_init 19 = .ok (.dup, 1) := by decide +kernel
theorem dX5_init_20 : decode cX5_init 20 = .ok (.invokespecial 20, 3) := by decide +kernel
theorem dX5_init_23 : decode cX5_init 23 = .ok (.putfield 21, 3) := by decide +kernel
theorem dX5_init_26 : decode cX5_init 26 = .ok (.aload_n 0, 1) := by decide +kernel
theorem dX5_init_27 : decode cX5_init 27 = .ok (.iconst (-1), 1) := by decide +kernel
theorem dX5_init_28 : decode cX5_init 28 = .ok (.putfield 25, 3) := by decide +kernel
theorem dX5_init_31 : decode cX5_init 31 = .ok (.aload_n 0, 1) := by decide +kernel
theorem dX5_init_32 : decode cX5_init 32 = .ok (.bipush 36, 2) := by decide +kernel
theorem dX5_init_34 : decode cX5_init 34 = .ok (.newarray .int, 2) := by decide +kernel
theorem dX5_init_36 : decode cX5_init 36 = .ok (.putfield 29, 3) := by decide +kernel
theorem dX5_init_39 : decode cX5_init 39 = .ok (.return_, 1) := by decide +kernel
theorem dX5_copyFrom_0 : decode cX5_copyFrom 0 = .ok (.aload_n 0, 1) := by decide +kernel
theorem dX5_copyFrom_1 : decode cX5_copyFrom 1 = .ok (.getfield 12, 3) := by decide +kernel
theorem dX5_copyFrom_4 : decode cX5_copyFrom 4 = .ok (.aload_n 1, 1) := by decide +kernel
theorem dX5_copyFrom_5 : decode cX5_copyFrom 5 = .ok (.getfield 12, 3) := by decide +kernel
theorem dX5_copyFrom_8 : decode cX5_copyFrom 8 = .ok (.invokevirtual 33, 3) := by decide +kernel
theorem dX5_copyFrom_11 : decode cX5_copyFrom 11 = .ok (.aload_n 0, 1) := by decide +kernel
theorem dX5_copyFrom_12 : decode cX5_copyFrom 12 = .ok (.getfield 21, 3) := by decide +kernel
theorem dX5_copyFrom_15 : decode cX5_copyFrom 15 = .ok (.aload_n 1, 1) := by decide +kernel
theorem dX5_copyFrom_16 : decode cX5_copyFrom 16 = .ok (.getfield 21, 3) := by decide +kernel
theorem dX5_copyFrom_19 : decode cX5_copyFrom 19 = .ok (.invokevirtual 37, 3) := by decide +kernel
theorem dX5_copyFrom_22 : decode cX5_copyFrom 22 = .ok (.aload_n 0, 1) := by decide +kernel
theorem dX5_copyFrom_23 : decode cX5_copyFrom 23 = .ok (.aload_n 1, 1) := by decide +kernel
theorem dX5_copyFrom_24 : decode cX5_copyFrom 24 = .ok (.getfield 25, 3) := by decide +kernel
theorem dX5_copyFrom_27 : decode cX5_copyFrom 27 = .ok (.putfield 25, 3) := by decide +kernel
theorem dX5_copyFrom_30 : decode cX5_copyFrom 30 = .ok (.aload_n 0, 1) := by decide +kernel
theorem dX5_copyFrom_31 : decode cX5_copyFrom 31 = .ok (.aload_n 1, 1) := by decide +kernel
theorem dX5_copyFrom_32 : decode cX5_copyFrom 32 = .ok (.getfield 40, 3) := by decide +kernel
theorem dX5_copyFrom_35 : decode cX5_copyFrom 35 = .ok (.putfield 40, 3) := by decide +kernel
theorem dX5_copyFrom_38 : decode cX5_copyFrom 38 = .ok (.aload_n 0, 1) := by decide +kernel
theorem dX5_copyFrom_39 : decode cX5_copyFrom 39 = .ok (.aload_n 1, 1) := by decide +kernel
theorem dX5_copyFrom_40 : decode cX5_copyFrom 40 = .ok (.getfield 43, 3) := by decide +kernel
theorem dX5_copyFrom_43 : decode cX5_copyFrom 43 = .ok (.putfield 43, 3) := by decide +kernel
theorem dX5_copyFrom_46 : decode cX5_copyFrom 46 = .ok (.aload_n 1, 1) := by decide +kernel
theorem dX5_copyFrom_47 : decode cX5_copyFrom 47 = .ok (.getfield 29, 3) := by decide +kernel
theorem dX5_copyFrom_50 : decode cX5_copyFrom 50 = .ok (.iconst 0, 1) := by decide +kernel
theorem dX5_copyFrom_51 : decode cX5_copyFrom 51 = .ok (.aload_n 0, 1) := by decide +kernel
theorem dX5_copyFrom_52 : decode cX5_copyFrom 52 = .ok (.getfield 29, 3) := by decide +kernel
theorem dX5_copyFrom_55 : decode cX5_copyFrom 55 = .ok (.iconst 0, 1) := by decide +kernel
theorem dX5_copyFrom_56 : decode cX5_copyFrom 56 = .ok (.bipush 36, 2) := by decide +kernel
theorem dX5_copyFrom_58 : decode cX5_copyFrom 58 = .ok (.invokestatic 46, 3) := by decide +kernel
theorem dX5_copyFrom_61 : decode cX5_copyFrom 61 = .ok (.aload_n 0, 1) := by decide +kernel
theorem dX5_copyFrom_62 : decode cX5_copyFrom 62 = .ok (.aload_n 1, 1) := by decide +kernel
theorem dX5_copyFrom_63 : decode cX5_copyFrom 63 = .ok (.getfield 52, 3) := by decide +kernel
theorem dX5_copyFrom_66 : decode cX5_copyFrom 66 = .ok (.putfield 52, 3) := by decide +kernel
theorem dX5_copyFrom_69 : decode cX5_copyFrom 69 = .ok (.aload_n 0, 1) := by decide +kernel
theorem dX5_copyFrom_70 : decode cX5_copyFrom 70 = .ok (.aload_n 1, 1) := by decide +kernel
theorem dX5_copyFrom_71 : decode cX5_copyFrom 71 = .ok (.getfield 55, 3) := by decide +kernel
theorem dX5_copyFrom_74 : decode cX5_copyFrom 74 = .ok (.putfield 55, 3) := by decide +kernel
theorem dX5_copyFrom_77 : decode cX5_copyFrom 77 = .ok (.aload_n 0, 1) := by decide +kernel
theorem dX5_copyFrom_78 : decode cX5_copyFrom 78 = .ok (.aload_n 1, 1) := by decide +kernel
theorem dX5_copyFrom_79 : decode cX5_copyFrom 79 = .ok (.getfield 58, 3) := by decide +kernel
theorem dX5_copyFrom_82 : decode cX5_copyFrom 82 = .ok (.putfield 58, 3) := by decide +kernel
theorem dX5_copyFrom_85 : decode cX5_copyFrom 85 = .ok (.return_, 1) := by decide +kernel
theorem dX5_settle_0 : decode cX5_settle 0 = .ok (.aload_n 0, 1) := by decide +kernel
theorem dX5_settle_1 : decode cX5_settle 1 = .ok (.getfield 12, 3) := by decide +kernel
theorem dX5_settle_4 : decode cX5_settle 4 = .ok (.aload_n 1, 1) := by decide +kernel
theorem dX5_settle_5 : decode cX5_settle 5 = .ok (.invokevirtual 33, 3) := by decide +kernel
theorem dX5_settle_8 : decode cX5_settle 8 = .ok (.aload_n 0, 1) := by decide +kernel
theorem dX5_settle_9 : decode cX5_settle 9 = .ok (.getfield 12, 3) := by decide +kernel
theorem dX5_settle_12 : decode cX5_settle 12 = .ok (.iconst 1, 1) := by decide +kernel
theorem dX5_settle_13 : decode cX5_settle 13 = .ok (.putfield 61, 3) := by decide +kernel
theorem dX5_settle_16 : decode cX5_settle 16 = .ok (.aload_n 0, 1) := by decide +kernel
theorem dX5_settle_17 : decode cX5_settle 17 = .ok (.getfield 21, 3) := by decide +kernel
theorem dX5_settle_20 : decode cX5_settle 20 = .ok (.aload_n 0, 1) := by decide +kernel
theorem dX5_settle_21 : decode cX5_settle 21 = .ok (.getfield 12, 3) := by decide +kernel
theorem dX5_settle_24 : decode cX5_settle 24 = .ok (.invokevirtual 65, 3) := by decide +kernel
theorem dX5_settle_27 : decode cX5_settle 27 = .ok (.aload_n 0, 1) := by decide +kernel
theorem dX5_settle_28 : decode cX5_settle 28 = .ok (.iconst 0, 1) := by decide +kernel
theorem dX5_settle_29 : decode cX5_settle 29 = .ok (.putfield 43, 3) := by decide +kernel
theorem dX5_settle_32 : decode cX5_settle 32 = .ok (.aload_n 0, 1) := by decide +kernel
theorem dX5_settle_33 : decode cX5_settle 33 = .ok (.invokevirtual 68, 3) := by decide +kernel
theorem dX5_settle_36 : decode cX5_settle 36 = .ok (.return_, 1) := by decide +kernel
theorem dX5_addStated_0 : decode cX5_addStated 0 = .ok (.aload_n 0, 1) := by decide +kernel
theorem dX5_addStated_1 : decode cX5_addStated 1 = .ok (.getfield 43, 3) := by decide +kernel
theorem dX5_addStated_4 : decode cX5_addStated 4 = .ok (.bipush 12, 2) := by decide +kernel
theorem dX5_addStated_6 : decode cX5_addStated 6 = .ok (.if_icmp .ge 53, 3) := by decide +kernel
theorem dX5_addStated_9 : decode cX5_addStated 9 = .ok (.aload_n 0, 1) := by decide +kernel
theorem dX5_addStated_10 : decode cX5_addStated 10 = .ok (.getfield 29, 3) := by decide +kernel
theorem dX5_addStated_13 : decode cX5_addStated 13 = .ok (.iconst 3, 1) := by decide +kernel
theorem dX5_addStated_14 : decode cX5_addStated 14 = .ok (.aload_n 0, 1) := by decide +kernel
theorem dX5_addStated_15 : decode cX5_addStated 15 = .ok (.getfield 43, 3) := by decide +kernel
theorem dX5_addStated_18 : decode cX5_addStated 18 = .ok (.imul, 1) := by decide +kernel
theorem dX5_addStated_19 : decode cX5_addStated 19 = .ok (.iload_n 1, 1) := by decide +kernel
theorem dX5_addStated_20 : decode cX5_addStated 20 = .ok (.iastore, 1) := by decide +kernel
theorem dX5_addStated_21 : decode cX5_addStated 21 = .ok (.aload_n 0, 1) := by decide +kernel
theorem dX5_addStated_22 : decode cX5_addStated 22 = .ok (.getfield 29, 3) := by decide +kernel
theorem dX5_addStated_25 : decode cX5_addStated 25 = .ok (.iconst 3, 1) := by decide +kernel
theorem dX5_addStated_26 : decode cX5_addStated 26 = .ok (.aload_n 0, 1) := by decide +kernel
theorem dX5_addStated_27 : decode cX5_addStated 27 = .ok (.getfield 43, 3) := by decide +kernel
theorem dX5_addStated_30 : decode cX5_addStated 30 = .ok (.imul, 1) := by decide +kernel
theorem dX5_addStated_31 : decode cX5_addStated 31 = .ok (.iconst 1, 1) := by decide +kernel
theorem dX5_addStated_32 : decode cX5_addStated 32 = .ok (.iadd, 1) := by decide +kernel
theorem dX5_addStated_33 : decode cX5_addStated 33 = .ok (.iload_n 2, 1) := by decide +kernel
theorem dX5_addStated_34 : decode cX5_addStated 34 = .ok (.iastore, 1) := by decide +kernel
theorem dX5_addStated_35 : decode cX5_addStated 35 = .ok (.aload_n 0, 1) := by decide +kernel
theorem dX5_addStated_36 : decode cX5_addStated 36 = .ok (.getfield 29, 3) := by decide +kernel
theorem dX5_addStated_39 : decode cX5_addStated 39 = .ok (.iconst 3, 1) := by decide +kernel
theorem dX5_addStated_40 : decode cX5_addStated 40 = .ok (.aload_n 0, 1) := by decide +kernel
theorem dX5_addStated_41 : decode cX5_addStated 41 = .ok (.getfield 43, 3) := by decide +kernel
theorem dX5_addStated_44 : decode cX5_addStated 44 = .ok (.imul, 1) := by decide +kernel
theorem dX5_addStated_45 : decode cX5_addStated 45 = .ok (.iconst 2, 1) := by decide +kernel
theorem dX5_addStated_46 : decode cX5_addStated 46 = .ok (.iadd, 1) := by decide +kernel
theorem dX5_addStated_47 : decode cX5_addStated 47 = .ok (.iload_n 3, 1) := by decide +kernel
theorem dX5_addStated_48 : decode cX5_addStated 48 = .ok (.iastore, 1) := by decide +kernel
theorem dX5_addStated_49 : decode cX5_addStated 49 = .ok (.aload_n 0, 1) := by decide +kernel
theorem dX5_addStated_50 : decode cX5_addStated 50 = .ok (.dup, 1) := by decide +kernel
theorem dX5_addStated_51 : decode cX5_addStated 51 = .ok (.getfield 43, 3) := by decide +kernel
theorem dX5_addStated_54 : decode cX5_addStated 54 = .ok (.iconst 1, 1) := by decide +kernel
theorem dX5_addStated_55 : decode cX5_addStated 55 = .ok (.iadd, 1) := by decide +kernel
theorem dX5_addStated_56 : decode cX5_addStated 56 = .ok (.putfield 43, 3) := by decide +kernel
theorem dX5_addStated_59 : decode cX5_addStated 59 = .ok (.return_, 1) := by decide +kernel
theorem dX5_forgetTales_0 : decode cX5_forgetTales 0 = .ok (.aload_n 0, 1) := by decide +kernel
theorem dX5_forgetTales_1 : decode cX5_forgetTales 1 = .ok (.iconst 0, 1) := by decide +kernel
theorem dX5_forgetTales_2 : decode cX5_forgetTales 2 = .ok (.putfield 52, 3) := by decide +kernel
theorem dX5_forgetTales_5 : decode cX5_forgetTales 5 = .ok (.aload_n 0, 1) := by decide +kernel
theorem dX5_forgetTales_6 : decode cX5_forgetTales 6 = .ok (.iconst 0, 1) := by decide +kernel
theorem dX5_forgetTales_7 : decode cX5_forgetTales 7 = .ok (.putfield 55, 3) := by decide +kernel
theorem dX5_forgetTales_10 : decode cX5_forgetTales 10 = .ok (.aload_n 0, 1) := by decide +kernel
theorem dX5_forgetTales_11 : decode cX5_forgetTales 11 = .ok (.iconst 0, 1) := by decide +kernel
theorem dX5_forgetTales_12 : decode cX5_forgetTales 12 = .ok (.putfield 58, 3) := by decide +kernel
theorem dX5_forgetTales_15 : decode cX5_forgetTales 15 = .ok (.return_, 1) := by decide +kernel
theorem dX5_addTale_0 : decode cX5_addTale 0 = .ok (.aload_n 0, 1) := by decide +kernel
theorem dX5_addTale_1 : decode cX5_addTale 1 = .ok (.dup, 1) := by decide +kernel
theorem dX5_addTale_2 : decode cX5_addTale 2 = .ok (.getfield 52, 3) := by decide +kernel
theorem dX5_addTale_5 : decode cX5_addTale 5 = .ok (.iconst 1, 1) := by decide +kernel
theorem dX5_addTale_6 : decode cX5_addTale 6 = .ok (.iadd, 1) := by decide +kernel
theorem dX5_addTale_7 : decode cX5_addTale 7 = .ok (.putfield 52, 3) := by decide +kernel
theorem dX5_addTale_10 : decode cX5_addTale 10 = .ok (.iload_n 2, 1) := by decide +kernel
theorem dX5_addTale_11 : decode cX5_addTale 11 = .ok (.ifCond .eq 18, 3) := by decide +kernel
theorem dX5_addTale_14 : decode cX5_addTale 14 = .ok (.aload_n 0, 1) := by decide +kernel
theorem dX5_addTale_15 : decode cX5_addTale 15 = .ok (.dup, 1) := by decide +kernel
theorem dX5_addTale_16 : decode cX5_addTale 16 = .ok (.getfield 55, 3) := by decide +kernel
theorem dX5_addTale_19 : decode cX5_addTale 19 = .ok (.iconst 1, 1) := by decide +kernel
theorem dX5_addTale_20 : decode cX5_addTale 20 = .ok (.iload_n 1, 1) := by decide +kernel
theorem dX5_addTale_21 : decode cX5_addTale 21 = .ok (.ishl, 1) := by decide +kernel
theorem dX5_addTale_22 : decode cX5_addTale 22 = .ok (.ior, 1) := by decide +kernel
theorem dX5_addTale_23 : decode cX5_addTale 23 = .ok (.putfield 55, 3) := by decide +kernel
theorem dX5_addTale_26 : decode cX5_addTale 26 = .ok (.goto 15, 3) := by decide +kernel
theorem dX5_addTale_29 : decode cX5_addTale 29 = .ok (.aload_n 0, 1) := by decide +kernel
theorem dX5_addTale_30 : decode cX5_addTale 30 = .ok (.dup, 1) := by decide +kernel
theorem dX5_addTale_31 : decode cX5_addTale 31 = .ok (.getfield 58, 3) := by decide +kernel
theorem dX5_addTale_34 : decode cX5_addTale 34 = .ok (.iconst 1, 1) := by decide +kernel
theorem dX5_addTale_35 : decode cX5_addTale 35 = .ok (.iload_n 1, 1) := by decide +kernel
theorem dX5_addTale_36 : decode cX5_addTale 36 = .ok (.ishl, 1) := by decide +kernel
theorem dX5_addTale_37 : decode cX5_addTale 37 = .ok (.ior, 1) := by decide +kernel
theorem dX5_addTale_38 : decode cX5_addTale 38 = .ok (.putfield 58, 3) := by decide +kernel
theorem dX5_addTale_41 : decode cX5_addTale 41 = .ok (.return_, 1) := by decide +kernel
theorem dX5_fitsTales_0 : decode cX5_fitsTales 0 = .ok (.aload_n 0, 1) := by decide +kernel
theorem dX5_fitsTales_1 : decode cX5_fitsTales 1 = .ok (.getfield 55, 3) := by decide +kernel
theorem dX5_fitsTales_4 : decode cX5_fitsTales 4 = .ok (.aload_n 0, 1) := by decide +kernel
theorem dX5_fitsTales_5 : decode cX5_fitsTales 5 = .ok (.getfield 58, 3) := by decide +kernel
theorem dX5_fitsTales_8 : decode cX5_fitsTales 8 = .ok (.ior, 1) := by decide +kernel
theorem dX5_fitsTales_9 : decode cX5_fitsTales 9 = .ok (.iload_n 2, 1) := by decide +kernel
theorem dX5_fitsTales_10 : decode cX5_fitsTales 10 = .ok (.iconst (-1), 1) := by decide +kernel
theorem dX5_fitsTales_11 : decode cX5_fitsTales 11 = .ok (.ixor, 1) := by decide +kernel
theorem dX5_fitsTales_12 : decode cX5_fitsTales 12 = .ok (.iand, 1) := by decide +kernel
theorem dX5_fitsTales_13 : decode cX5_fitsTales 13 = .ok (.ifCond .eq 7, 3) := by decide +kernel
theorem dX5_fitsTales_16 : decode cX5_fitsTales 16 = .ok (.iconst 1, 1) := by decide +kernel
theorem dX5_fitsTales_17 : decode cX5_fitsTales 17 = .ok (.goto 4, 3) := by decide +kernel
theorem dX5_fitsTales_20 : decode cX5_fitsTales 20 = .ok (.iconst 0, 1) := by decide +kernel
theorem dX5_fitsTales_21 : decode cX5_fitsTales 21 = .ok (.istore_n 3, 1) := by decide +kernel
theorem dX5_fitsTales_22 : decode cX5_fitsTales 22 = .ok (.iload_n 3, 1) := by decide +kernel
theorem dX5_fitsTales_23 : decode cX5_fitsTales 23 = .ok (.ifCond .ne 27, 3) := by decide +kernel
theorem dX5_fitsTales_26 : decode cX5_fitsTales 26 = .ok (.aload_n 0, 1) := by decide +kernel
theorem dX5_fitsTales_27 : decode cX5_fitsTales 27 = .ok (.getfield 55, 3) := by decide +kernel
theorem dX5_fitsTales_30 : decode cX5_fitsTales 30 = .ok (.iload_n 1, 1) := by decide +kernel
theorem dX5_fitsTales_31 : decode cX5_fitsTales 31 = .ok (.iconst (-1), 1) := by decide +kernel
theorem dX5_fitsTales_32 : decode cX5_fitsTales 32 = .ok (.ixor, 1) := by decide +kernel
theorem dX5_fitsTales_33 : decode cX5_fitsTales 33 = .ok (.iand, 1) := by decide +kernel
theorem dX5_fitsTales_34 : decode cX5_fitsTales 34 = .ok (.ifCond .ne 16, 3) := by decide +kernel
theorem dX5_fitsTales_37 : decode cX5_fitsTales 37 = .ok (.aload_n 0, 1) := by decide +kernel
theorem dX5_fitsTales_38 : decode cX5_fitsTales 38 = .ok (.getfield 58, 3) := by decide +kernel
theorem dX5_fitsTales_41 : decode cX5_fitsTales 41 = .ok (.iload_n 1, 1) := by decide +kernel
theorem dX5_fitsTales_42 : decode cX5_fitsTales 42 = .ok (.iand, 1) := by decide +kernel
theorem dX5_fitsTales_43 : decode cX5_fitsTales 43 = .ok (.ifCond .ne 7, 3) := by decide +kernel
theorem dX5_fitsTales_46 : decode cX5_fitsTales 46 = .ok (.iconst 1, 1) := by decide +kernel
theorem dX5_fitsTales_47 : decode cX5_fitsTales 47 = .ok (.goto 4, 3) := by decide +kernel
theorem dX5_fitsTales_50 : decode cX5_fitsTales 50 = .ok (.iconst 0, 1) := by decide +kernel
theorem dX5_fitsTales_51 : decode cX5_fitsTales 51 = .ok (.ireturn, 1) := by decide +kernel
theorem dX6_init_0 : decode cX6_init 0 = .ok (.aload_n 0, 1) := by decide +kernel
theorem dX6_init_1 : decode cX6_init 1 = .ok (.invokespecial 3, 3) := by decide +kernel
theorem dX6_init_4 : decode cX6_init 4 = .ok (.aload_n 0, 1) := by decide +kernel
theorem dX6_init_5 : decode cX6_init 5 = .ok (.aload_n 1, 1) := by decide +kernel
theorem dX6_init_6 : decode cX6_init 6 = .ok (.putfield 9, 3) := by decide +kernel
theorem dX6_init_9 : decode cX6_init 9 = .ok (.aload_n 0, 1) := by decide +kernel
theorem dX6_init_10 : decode cX6_init 10 = .ok (.aload_n 2, 1) := by decide +kernel
theorem dX6_init_11 : decode cX6_init 11 = .ok (.putfield 15, 3) := by decide +kernel
theorem dX6_init_14 : decode cX6_init 14 = .ok (.return_, 1) := by decide +kernel
theorem dX6_valueOf_0 : decode cX6_valueOf 0 = .ok (.iload_n 1, 1) := by decide +kernel
theorem dX6_valueOf_1 : decode cX6_valueOf 1 = .ok (.tableswitch 267 2 22 #[213, 267, 267, 235, 197, 267, 267, 267, 267, 267, 267, 99, 105, 111, 117, 123, 139, 161, 183, 252, 258], 99) := by decide +kernel
theorem dX6_valueOf_100 : decode cX6_valueOf 100 = .ok (.aload_n 0, 1) := by decide +kernel
theorem dX6_valueOf_101 : decode cX6_valueOf 101 = .ok (.getfield 19, 3) := by decide +kernel
theorem dX6_valueOf_104 : decode cX6_valueOf 104 = .ok (.i2l, 1) := by decide +kernel
theorem dX6_valueOf_105 : decode cX6_valueOf 105 = .ok (.lreturn, 1) := by decide +kernel
theorem dX6_valueOf_106 : decode cX6_valueOf 106 = .ok (.aload_n 0, 1) := by decide +kernel
theorem dX6_valueOf_107 : decode cX6_valueOf 107 = .ok (.getfield 23, 3) := by decide +kernel
theorem dX6_valueOf_110 : decode cX6_valueOf 110 = .ok (.i2l, 1) := by decide +kernel
theorem dX6_valueOf_111 : decode cX6_valueOf 111 = .ok (.lreturn, 1) := by decide +kernel
theorem dX6_valueOf_112 : decode cX6_valueOf 112 = .ok (.aload_n 0, 1) := by decide +kernel
theorem dX6_valueOf_113 : decode cX6_valueOf 113 = .ok (.getfield 26, 3) := by decide +kernel
theorem dX6_valueOf_116 : decode cX6_valueOf 116 = .ok (.i2l, 1) := by decide +kernel
theorem dX6_valueOf_117 : decode cX6_valueOf 117 = .ok (.lreturn, 1) := by decide +kernel
theorem dX6_valueOf_118 : decode cX6_valueOf 118 = .ok (.aload_n 0, 1) := by decide +kernel
theorem dX6_valueOf_119 : decode cX6_valueOf 119 = .ok (.getfield 29, 3) := by decide +kernel
theorem dX6_valueOf_122 : decode cX6_valueOf 122 = .ok (.i2l, 1) := by decide +kernel
theorem dX6_valueOf_123 : decode cX6_valueOf 123 = .ok (.lreturn, 1) := by decide +kernel
theorem dX6_valueOf_124 : decode cX6_valueOf 124 = .ok (.aload_n 0, 1) := by decide +kernel
theorem dX6_valueOf_125 : decode cX6_valueOf 125 = .ok (.getfield 9, 3) := by decide +kernel
theorem dX6_valueOf_128 : decode cX6_valueOf 128 = .ok (.getfield 32, 3) := by decide +kernel
theorem dX6_valueOf_131 : decode cX6_valueOf 131 = .ok (.aload_n 0, 1) := by decide +kernel
theorem dX6_valueOf_132 : decode cX6_valueOf 132 = .ok (.getfield 26, 3) := by decide +kernel
theorem dX6_valueOf_135 : decode cX6_valueOf 135 = .ok (.invokestatic 37, 3) := by decide +kernel
theorem dX6_valueOf_138 : decode cX6_valueOf 138 = .ok (.i2l, 1) := by decide +kernel
theorem dX6_valueOf_139 : decode cX6_valueOf 139 = .ok (.lreturn, 1) := by decide +kernel
theorem dX6_valueOf_140 : decode cX6_valueOf 140 = .ok (.aload_n 0, 1) := by decide +kernel
theorem dX6_valueOf_141 : decode cX6_valueOf 141 = .ok (.getfield 15, 3) := by decide +kernel
theorem dX6_valueOf_144 : decode cX6_valueOf 144 = .ok (.getfield 41, 3) := by decide +kernel
theorem dX6_valueOf_147 : decode cX6_valueOf 147 = .ok (.aload_n 0, 1) := by decide +kernel
theorem dX6_valueOf_148 : decode cX6_valueOf 148 = .ok (.getfield 19, 3) := by decide +kernel
theorem dX6_valueOf_151 : decode cX6_valueOf 151 = .ok (.bipush 8, 2) := by decide +kernel
theorem dX6_valueOf_153 : decode cX6_valueOf 153 = .ok (.imul, 1) := by decide +kernel
theorem dX6_valueOf_154 : decode cX6_valueOf 154 = .ok (.aload_n 0, 1) := by decide +kernel
theorem dX6_valueOf_155 : decode cX6_valueOf 155 = .ok (.getfield 26, 3) := by decide +kernel
theorem dX6_valueOf_158 : decode cX6_valueOf 158 = .ok (.iadd, 1) := by decide +kernel
theorem dX6_valueOf_159 : decode cX6_valueOf 159 = .ok (.iaload, 1) := by decide +kernel
theorem dX6_valueOf_160 : decode cX6_valueOf 160 = .ok (.i2l, 1) := by decide +kernel
theorem dX6_valueOf_161 : decode cX6_valueOf 161 = .ok (.lreturn, 1) := by decide +kernel
theorem dX6_valueOf_162 : decode cX6_valueOf 162 = .ok (.aload_n 0, 1) := by decide +kernel
theorem dX6_valueOf_163 : decode cX6_valueOf 163 = .ok (.getfield 15, 3) := by decide +kernel
theorem dX6_valueOf_166 : decode cX6_valueOf 166 = .ok (.getfield 41, 3) := by decide +kernel
theorem dX6_valueOf_169 : decode cX6_valueOf 169 = .ok (.aload_n 0, 1) := by decide +kernel
theorem dX6_valueOf_170 : decode cX6_valueOf 170 = .ok (.getfield 23, 3) := by decide +kernel
theorem dX6_valueOf_173 : decode cX6_valueOf 173 = .ok (.bipush 8, 2) := by decide +kernel
theorem dX6_valueOf_175 : decode cX6_valueOf 175 = .ok (.imul, 1) := by decide +kernel
theorem dX6_valueOf_176 : decode cX6_valueOf 176 = .ok (.aload_n 0, 1) := by decide +kernel
theorem dX6_valueOf_177 : decode cX6_valueOf 177 = .ok (.getfield 26, 3) := by decide +kernel
theorem dX6_valueOf_180 : decode cX6_valueOf 180 = .ok (.iadd, 1) := by decide +kernel
theorem dX6_valueOf_181 : decode cX6_valueOf 181 = .ok (.iaload, 1) := by decide +kernel
theorem dX6_valueOf_182 : decode cX6_valueOf 182 = .ok (.i2l, 1) := by decide +kernel
theorem dX6_valueOf_183 : decode cX6_valueOf 183 = .ok (.lreturn, 1) := by decide +kernel
theorem dX6_valueOf_184 : decode cX6_valueOf 184 = .ok (.aload_n 0, 1) := by decide +kernel
theorem dX6_valueOf_185 : decode cX6_valueOf 185 = .ok (.getfield 15, 3) := by decide +kernel
theorem dX6_valueOf_188 : decode cX6_valueOf 188 = .ok (.getfield 47, 3) := by decide +kernel
theorem dX6_valueOf_191 : decode cX6_valueOf 191 = .ok (.aload_n 0, 1) := by decide +kernel
theorem dX6_valueOf_192 : decode cX6_valueOf 192 = .ok (.getfield 23, 3) := by decide +kernel
theorem dX6_valueOf_195 : decode cX6_valueOf 195 = .ok (.iaload, 1) := by decide +kernel
theorem dX6_valueOf_196 : decode cX6_valueOf 196 = .ok (.i2l, 1) := by decide +kernel
theorem dX6_valueOf_197 : decode cX6_valueOf 197 = .ok (.lreturn, 1) := by decide +kernel
theorem dX6_valueOf_198 : decode cX6_valueOf 198 = .ok (.aload_n 0, 1) := by decide +kernel
theorem dX6_valueOf_199 : decode cX6_valueOf 199 = .ok (.getfield 9, 3) := by decide +kernel
theorem dX6_valueOf_202 : decode cX6_valueOf 202 = .ok (.getfield 50, 3) := by decide +kernel
theorem dX6_valueOf_205 : decode cX6_valueOf 205 = .ok (.aload_n 0, 1) := by decide +kernel
theorem dX6_valueOf_206 : decode cX6_valueOf 206 = .ok (.getfield 23, 3) := by decide +kernel
theorem dX6_valueOf_209 : decode cX6_valueOf 209 = .ok (.invokestatic 37, 3) := by decide +kernel
theorem dX6_valueOf_212 : decode cX6_valueOf 212 = .ok (.i2l, 1) := by decide +kernel
theorem dX6_valueOf_213 : decode cX6_valueOf 213 = .ok (.lreturn, 1) := by decide +kernel
theorem dX6_valueOf_214 : decode cX6_valueOf 214 = .ok (.aload_n 0, 1) := by decide +kernel
theorem dX6_valueOf_215 : decode cX6_valueOf 215 = .ok (.getfield 9, 3) := by decide +kernel
theorem dX6_valueOf_218 : decode cX6_valueOf 218 = .ok (.getfield 53, 3) := by decide +kernel
theorem dX6_valueOf_221 : decode cX6_valueOf 221 = .ok (.aload_n 0, 1) := by decide +kernel
theorem dX6_valueOf_222 : decode cX6_valueOf 222 = .ok (.getfield 23, 3) := by decide +kernel
theorem dX6_valueOf_225 : decode cX6_valueOf 225 = .ok (.bipush 7, 2) := by decide +kernel
theorem dX6_valueOf_227 : decode cX6_valueOf 227 = .ok (.imul, 1) := by decide +kernel
theorem dX6_valueOf_228 : decode cX6_valueOf 228 = .ok (.aload_n 0, 1) := by decide +kernel
theorem dX6_valueOf_229 : decode cX6_valueOf 229 = .ok (.getfield 19, 3) := by decide +kernel
theorem dX6_valueOf_232 : decode cX6_valueOf 232 = .ok (.iadd, 1) := by decide +kernel
theorem dX6_valueOf_233 : decode cX6_valueOf 233 = .ok (.iaload, 1) := by decide +kernel
theorem dX6_valueOf_234 : decode cX6_valueOf 234 = .ok (.i2l, 1) := by decide +kernel
theorem dX6_valueOf_235 : decode cX6_valueOf 235 = .ok (.lreturn, 1) := by decide +kernel
theorem dX6_valueOf_236 : decode cX6_valueOf 236 = .ok (.aload_n 0, 1) := by decide +kernel
theorem dX6_valueOf_237 : decode cX6_valueOf 237 = .ok (.getfield 9, 3) := by decide +kernel
theorem dX6_valueOf_240 : decode cX6_valueOf 240 = .ok (.aload_n 0, 1) := by decide +kernel
theorem dX6_valueOf_241 : decode cX6_valueOf 241 = .ok (.getfield 26, 3) := by decide +kernel
theorem dX6_valueOf_244 : decode cX6_valueOf 244 = .ok (.aload_n 0, 1) := by decide +kernel
theorem dX6_valueOf_245 : decode cX6_valueOf 245 = .ok (.getfield 29, 3) := by decide +kernel
theorem dX6_valueOf_248 : decode cX6_valueOf 248 = .ok (.invokevirtual 56, 3) := by decide +kernel
theorem dX6_valueOf_251 : decode cX6_valueOf 251 = .ok (.i2l, 1) := by decide +kernel
theorem dX6_valueOf_252 : decode cX6_valueOf 252 = .ok (.lreturn, 1) := by decide +kernel
theorem dX6_valueOf_253 : decode cX6_valueOf 253 = .ok (.aload_n 0, 1) := by decide +kernel
theorem dX6_valueOf_254 : decode cX6_valueOf 254 = .ok (.getfield 59, 3) := by decide +kernel
theorem dX6_valueOf_257 : decode cX6_valueOf 257 = .ok (.i2l, 1) := by decide +kernel
theorem dX6_valueOf_258 : decode cX6_valueOf 258 = .ok (.lreturn, 1) := by decide +kernel
theorem dX6_valueOf_259 : decode cX6_valueOf 259 = .ok (.aload_n 0, 1) := by decide +kernel
theorem dX6_valueOf_260 : decode cX6_valueOf 260 = .ok (.getfield 15, 3) := by decide +kernel
theorem dX6_valueOf_263 : decode cX6_valueOf 263 = .ok (.getfield 62, 3) := by decide +kernel
theorem dX6_valueOf_266 : decode cX6_valueOf 266 = .ok (.i2l, 1) := by decide +kernel
theorem dX6_valueOf_267 : decode cX6_valueOf 267 = .ok (.lreturn, 1) := by decide +kernel
theorem dX6_valueOf_268 : decode cX6_valueOf 268 = .ok (.aload_n 0, 1) := by decide +kernel
theorem dX6_valueOf_269 : decode cX6_valueOf 269 = .ok (.getfield 15, 3) := by decide +kernel
theorem dX6_valueOf_272 : decode cX6_valueOf 272 = .ok (.getfield 65, 3) := by decide +kernel
theorem dX6_valueOf_275 : decode cX6_valueOf 275 = .ok (.i2l, 1) := by decide +kernel
theorem dX6_valueOf_276 : decode cX6_valueOf 276 = .ok (.lreturn, 1) := by decide +kernel
theorem dX7_init_0 : decode cX7_init 0 = .ok (.aload_n 0, 1) := by decide +kernel
theorem dX7_init_1 : decode cX7_init 1 = .ok (.invokespecial 3, 3) := by decide +kernel
theorem dX7_init_4 : decode cX7_init 4 = .ok (.aload_n 0, 1) := by decide +kernel
theorem dX7_init_5 : decode cX7_init 5 = .ok (.sipush 401, 3) := by decide +kernel
theorem dX7_init_8 : decode cX7_init 8 = .ok (.newarray .int, 2) := by decide +kernel
theorem dX7_init_10 : decode cX7_init 10 = .ok (.putfield 9, 3) := by decide +kernel
theorem dX7_init_13 : decode cX7_init 13 = .ok (.aload_n 0, 1) := by decide +kernel
theorem dX7_init_14 : decode cX7_init 14 = .ok (.sipush 401, 3) := by decide +kernel
theorem dX7_init_17 : decode cX7_init 17 = .ok (.newarray .int, 2) := by decide +kernel
theorem dX7_init_19 : decode cX7_init 19 = .ok (.putfield 15, 3) := by decide +kernel
theorem dX7_init_22 : decode cX7_init 22 = .ok (.aload_n 0, 1) := by decide +kernel
theorem dX7_init_23 : decode cX7_init 23 = .ok (.sipush 401, 3) := by decide +kernel
theorem dX7_init_26 : decode cX7_init 26 = .ok (.newarray .int, 2) := by decide +kernel
theorem dX7_init_28 : decode cX7_init 28 = .ok (.putfield 18, 3) := by decide +kernel
theorem dX7_init_31 : decode cX7_init 31 = .ok (.return_, 1) := by decide +kernel
theorem dX7_cut_0 : decode cX7_cut 0 = .ok (.aload_n 0, 1) := by decide +kernel
theorem dX7_cut_1 : decode cX7_cut 1 = .ok (.iconst 0, 1) := by decide +kernel
theorem dX7_cut_2 : decode cX7_cut 2 = .ok (.putfield 21, 3) := by decide +kernel
theorem dX7_cut_5 : decode cX7_cut 5 = .ok (.aload_n 0, 1) := by decide +kernel
theorem dX7_cut_6 : decode cX7_cut 6 = .ok (.iconst 0, 1) := by decide +kernel
theorem dX7_cut_7 : decode cX7_cut 7 = .ok (.putfield 25, 3) := by decide +kernel
theorem dX7_cut_10 : decode cX7_cut 10 = .ok (.aload_n 0, 1) := by decide +kernel
theorem dX7_cut_11 : decode cX7_cut 11 = .ok (.iconst 0, 1) := by decide +kernel
theorem dX7_cut_12 : decode cX7_cut 12 = .ok (.putfield 28, 3) := by decide +kernel
theorem dX7_cut_15 : decode cX7_cut 15 = .ok (.iconst 0, 1) := by decide +kernel
theorem dX7_cut_16 : decode cX7_cut 16 = .ok (.istore_n 3, 1) := by decide +kernel
theorem dX7_cut_17 : decode cX7_cut 17 = .ok (.iload_n 3, 1) := by decide +kernel
theorem dX7_cut_18 : decode cX7_cut 18 = .ok (.iload_n 2, 1) := by decide +kernel
theorem dX7_cut_19 : decode cX7_cut 19 = .ok (.if_icmp .ge 71, 3) := by decide +kernel
theorem dX7_cut_22 : decode cX7_cut 22 = .ok (.iload_n 3, 1) := by decide +kernel
theorem dX7_cut_23 : decode cX7_cut 23 = .ok (.ifCond .le 42, 3) := by decide +kernel
theorem dX7_cut_26 : decode cX7_cut 26 = .ok (.aload_n 0, 1) := by decide +kernel
theorem dX7_cut_27 : decode cX7_cut 27 = .ok (.getfield 21, 3) := by decide +kernel
theorem dX7_cut_30 : decode cX7_cut 30 = .ok (.ifCond .le 35, 3) := by decide +kernel
theorem dX7_cut_33 : decode cX7_cut 33 = .ok (.aload_n 1, 1) := by decide +kernel
theorem dX7_cut_34 : decode cX7_cut 34 = .ok (.iload_n 3, 1) := by decide +kernel
theorem dX7_cut_35 : decode cX7_cut 35 = .ok (.iconst 1, 1) := by decide +kernel
theorem dX7_cut_36 : decode cX7_cut 36 = .ok (.isub, 1) := by decide +kernel
theorem dX7_cut_37 : decode cX7_cut 37 = .ok (.baload, 1) := by decide +kernel
theorem dX7_cut_38 : decode cX7_cut 38 = .ok (.aload_n 1, 1) := by decide +kernel
theorem dX7_cut_39 : decode cX7_cut 39 = .ok (.iload_n 3, 1) := by decide +kernel
theorem dX7_cut_40 : decode cX7_cut 40 = .ok (.baload, 1) := by decide +kernel
theorem dX7_cut_41 : decode cX7_cut 41 = .ok (.invokestatic 31, 3) := by decide +kernel
theorem dX7_cut_44 : decode cX7_cut 44 = .ok (.ifCond .eq 21, 3) := by decide +kernel
theorem dX7_cut_47 : decode cX7_cut 47 = .ok (.aload_n 0, 1) := by decide +kernel
theorem dX7_cut_48 : decode cX7_cut 48 = .ok (.getfield 15, 3) := by decide +kernel
theorem dX7_cut_51 : decode cX7_cut 51 = .ok (.aload_n 0, 1) := by decide +kernel
theorem dX7_cut_52 : decode cX7_cut 52 = .ok (.getfield 21, 3) := by decide +kernel
theorem dX7_cut_55 : decode cX7_cut 55 = .ok (.iconst 1, 1) := by decide +kernel
theorem dX7_cut_56 : decode cX7_cut 56 = .ok (.isub, 1) := by decide +kernel
theorem dX7_cut_57 : decode cX7_cut 57 = .ok (.dup2, 1) := by decide +kernel
theorem dX7_cut_58 : decode cX7_cut 58 = .ok (.iaload, 1) := by decide +kernel
theorem dX7_cut_59 : decode cX7_cut 59 = .ok (.iconst 1, 1) := by decide +kernel
theorem dX7_cut_60 : decode cX7_cut 60 = .ok (.iadd, 1) := by decide +kernel
theorem dX7_cut_61 : decode cX7_cut 61 = .ok (.iastore, 1) := by decide +kernel
theorem dX7_cut_62 : decode cX7_cut 62 = .ok (.goto 22, 3) := by decide +kernel
theorem dX7_cut_65 : decode cX7_cut 65 = .ok (.aload_n 1, 1) := by decide +kernel
theorem dX7_cut_66 : decode cX7_cut 66 = .ok (.iload_n 3, 1) := by decide +kernel
theorem dX7_cut_67 : decode cX7_cut 67 = .ok (.baload, 1) := by decide +kernel
theorem dX7_cut_68 : decode cX7_cut 68 = .ok (.bipush 32, 2) := by decide +kernel
theorem dX7_cut_70 : decode cX7_cut 70 = .ok (.if_icmp .eq 14, 3) := by decide +kernel
theorem dX7_cut_73 : decode cX7_cut 73 = .ok (.aload_n 0, 1) := by decide +kernel
theorem dX7_cut_74 : decode cX7_cut 74 = .ok (.aload_n 1, 1) := by decide +kernel
theorem dX7_cut_75 : decode cX7_cut 75 = .ok (.iload_n 3, 1) := by decide +kernel
theorem dX7_cut_76 : decode cX7_cut 76 = .ok (.baload, 1) := by decide +kernel
theorem dX7_cut_77 : decode cX7_cut 77 = .ok (.invokestatic 35, 3) := by decide +kernel
theorem dX7_cut_80 : decode cX7_cut 80 = .ok (.iload_n 3, 1) := by decide +kernel
theorem dX7_cut_81 : decode cX7_cut 81 = .ok (.invokevirtual 39, 3) := by decide +kernel
theorem dX7_cut_84 : decode cX7_cut 84 = .ok (.iinc 3 1, 3) := by decide +kernel
theorem dX7_cut_87 : decode cX7_cut 87 = .ok (.goto (-70), 3) := by decide +kernel
theorem dX7_cut_90 : decode cX7_cut 90 = .ok (.iconst 0, 1) := by decide +kernel
theorem dX7_cut_91 : decode cX7_cut 91 = .ok (.istore_n 3, 1) := by decide +kernel
theorem dX7_cut_92 : decode cX7_cut 92 = .ok (.iload_n 3, 1) := by decide +kernel
theorem dX7_cut_93 : decode cX7_cut 93 = .ok (.aload_n 0, 1) := by decide +kernel
theorem dX7_cut_94 : decode cX7_cut 94 = .ok (.getfield 21, 3) := by decide +kernel
theorem dX7_cut_97 : decode cX7_cut 97 = .ok (.if_icmp .ge 15, 3) := by decide +kernel
theorem dX7_cut_100 : decode cX7_cut 100 = .ok (.aload_n 0, 1) := by decide +kernel
theorem dX7_cut_101 : decode cX7_cut 101 = .ok (.iload_n 3, 1) := by decide +kernel
theorem dX7_cut_102 : decode cX7_cut 102 = .ok (.aload_n 1, 1) := by decide +kernel
theorem dX7_cut_103 : decode cX7_cut 103 = .ok (.invokevirtual 43, 3) := by decide +kernel
theorem dX7_cut_106 : decode cX7_cut 106 = .ok (.iinc 3 1, 3) := by decide +kernel
theorem dX7_cut_109 : decode cX7_cut 109 = .ok (.goto (-17), 3) := by decide +kernel
theorem dX7_cut_112 : decode cX7_cut 112 = .ok (.aload_n 0, 1) := by decide +kernel
theorem dX7_cut_113 : decode cX7_cut 113 = .ok (.iconst 0, 1) := by decide +kernel
theorem dX7_cut_114 : decode cX7_cut 114 = .ok (.iload_n 2, 1) := by decide +kernel
theorem dX7_cut_115 : decode cX7_cut 115 = .ok (.invokevirtual 39, 3) := by decide +kernel
theorem dX7_cut_118 : decode cX7_cut 118 = .ok (.return_, 1) := by decide +kernel
theorem dX7_begin_0 : decode cX7_begin 0 = .ok (.aload_n 0, 1) := by decide +kernel
theorem dX7_begin_1 : decode cX7_begin 1 = .ok (.getfield 21, 3) := by decide +kernel
theorem dX7_begin_4 : decode cX7_begin 4 = .ok (.aload_n 0, 1) := by decide +kernel
theorem dX7_begin_5 : decode cX7_begin 5 = .ok (.getfield 9, 3) := by decide +kernel
theorem dX7_begin_8 : decode cX7_begin 8 = .ok (.arraylength, 1) := by decide +kernel
theorem dX7_begin_9 : decode cX7_begin 9 = .ok (.if_icmp .ge 43, 3) := by decide +kernel
theorem dX7_begin_12 : decode cX7_begin 12 = .ok (.aload_n 0, 1) := by decide +kernel
theorem dX7_begin_13 : decode cX7_begin 13 = .ok (.getfield 9, 3) := by decide +kernel
theorem dX7_begin_16 : decode cX7_begin 16 = .ok (.aload_n 0, 1) := by decide +kernel
theorem dX7_begin_17 : decode cX7_begin 17 = .ok (.getfield 21, 3) := by decide +kernel
theorem dX7_begin_20 : decode cX7_begin 20 = .ok (.iload_n 1, 1) := by decide +kernel
theorem dX7_begin_21 : decode cX7_begin 21 = .ok (.iastore, 1) := by decide +kernel
theorem dX7_begin_22 : decode cX7_begin 22 = .ok (.aload_n 0, 1) := by decide +kernel
theorem dX7_begin_23 : decode cX7_begin 23 = .ok (.getfield 15, 3) := by decide +kernel
theorem dX7_begin_26 : decode cX7_begin 26 = .ok (.aload_n 0, 1) := by decide +kernel
theorem dX7_begin_27 : decode cX7_begin 27 = .ok (.getfield 21, 3) := by decide +kernel
theorem dX7_begin_30 : decode cX7_begin 30 = .ok (.iconst 1, 1) := by decide +kernel
theorem dX7_begin_31 : decode cX7_begin 31 = .ok (.iastore, 1) := by decide +kernel
theorem dX7_begin_32 : decode cX7_begin 32 = .ok (.aload_n 0, 1) := by decide +kernel
theorem dX7_begin_33 : decode cX7_begin 33 = .ok (.getfield 18, 3) := by decide +kernel
theorem dX7_begin_36 : decode cX7_begin 36 = .ok (.aload_n 0, 1) := by decide +kernel
theorem dX7_begin_37 : decode cX7_begin 37 = .ok (.getfield 21, 3) := by decide +kernel
theorem dX7_begin_40 : decode cX7_begin 40 = .ok (.iload_n 2, 1) := by decide +kernel
theorem dX7_begin_41 : decode cX7_begin 41 = .ok (.iastore, 1) := by decide +kernel
theorem dX7_begin_42 : decode cX7_begin 42 = .ok (.aload_n 0, 1) := by decide +kernel
theorem dX7_begin_43 : decode cX7_begin 43 = .ok (.dup, 1) := by decide +kernel
theorem dX7_begin_44 : decode cX7_begin 44 = .ok (.getfield 21, 3) := by decide +kernel
theorem dX7_begin_47 : decode cX7_begin 47 = .ok (.iconst 1, 1) := by decide +kernel
theorem dX7_begin_48 : decode cX7_begin 48 = .ok (.iadd, 1) := by decide +kernel
theorem dX7_begin_49 : decode cX7_begin 49 = .ok (.putfield 21, 3) := by decide +kernel
theorem dX7_begin_52 : decode cX7_begin 52 = .ok (.return_, 1) := by decide +kernel
theorem dX7_goesOn_0 : decode cX7_goesOn 0 = .ok (.iload_n 1, 1) := by decide +kernel
theorem dX7_goesOn_1 : decode cX7_goesOn 1 = .ok (.invokestatic 47, 3) := by decide +kernel
theorem dX7_goesOn_4 : decode cX7_goesOn 4 = .ok (.ifCond .eq 8, 3) := by decide +kernel
theorem dX7_goesOn_7 : decode cX7_goesOn 7 = .ok (.iload_n 0, 1) := by decide +kernel
theorem dX7_goesOn_8 : decode cX7_goesOn 8 = .ok (.invokestatic 47, 3) := by decide +kernel
theorem dX7_goesOn_11 : decode cX7_goesOn 11 = .ok (.ireturn, 1) := by decide +kernel
theorem dX7_goesOn_12 : decode cX7_goesOn 12 = .ok (.iload_n 1, 1) := by decide +kernel
theorem dX7_goesOn_13 : decode cX7_goesOn 13 = .ok (.invokestatic 51, 3) := by decide +kernel
theorem dX7_goesOn_16 : decode cX7_goesOn 16 = .ok (.ifCond .eq 8, 3) := by decide +kernel
theorem dX7_goesOn_19 : decode cX7_goesOn 19 = .ok (.iload_n 0, 1) := by decide +kernel
theorem dX7_goesOn_20 : decode cX7_goesOn 20 = .ok (.invokestatic 51, 3) := by decide +kernel
theorem dX7_goesOn_23 : decode cX7_goesOn 23 = .ok (.ireturn, 1) := by decide +kernel
theorem dX7_goesOn_24 : decode cX7_goesOn 24 = .ok (.iload_n 1, 1) := by decide +kernel
theorem dX7_goesOn_25 : decode cX7_goesOn 25 = .ok (.bipush 61, 2) := by decide +kernel
theorem dX7_goesOn_27 : decode cX7_goesOn 27 = .ok (.if_icmp .ne 19, 3) := by decide +kernel
theorem dX7_goesOn_30 : decode cX7_goesOn 30 = .ok (.iload_n 0, 1) := by decide +kernel
theorem dX7_goesOn_31 : decode cX7_goesOn 31 = .ok (.bipush 60, 2) := by decide +kernel
theorem dX7_goesOn_33 : decode cX7_goesOn 33 = .ok (.if_icmp .eq 9, 3) := by decide +kernel
theorem dX7_goesOn_36 : decode cX7_goesOn 36 = .ok (.iload_n 0, 1) := by decide +kernel
theorem dX7_goesOn_37 : decode cX7_goesOn 37 = .ok (.bipush 62, 2) := by decide +kernel
theorem dX7_goesOn_39 : decode cX7_goesOn 39 = .ok (.if_icmp .ne 7, 3) := by decide +kernel
theorem dX7_goesOn_42 : decode cX7_goesOn 42 = .ok (.iconst 1, 1) := by decide +kernel
theorem dX7_goesOn_43 : decode cX7_goesOn 43 = .ok (.goto 4, 3) := by decide +kernel
theorem dX7_goesOn_46 : decode cX7_goesOn 46 = .ok (.iconst 0, 1) := by decide +kernel
theorem dX7_goesOn_47 : decode cX7_goesOn 47 = .ok (.ireturn, 1) := by decide +kernel
theorem dX7_kindOf_0 : decode cX7_kindOf 0 = .ok (.iload_n 0, 1) := by decide +kernel
theorem dX7_kindOf_1 : decode cX7_kindOf 1 = .ok (.invokestatic 47, 3) := by decide +kernel
theorem dX7_kindOf_4 : decode cX7_kindOf 4 = .ok (.ifCond .eq 5, 3) := by decide +kernel
theorem dX7_kindOf_7 : decode cX7_kindOf 7 = .ok (.iconst 1, 1) := by decide +kernel
theorem dX7_kindOf_8 : decode cX7_kindOf 8 = .ok (.ireturn, 1) := by decide +kernel
theorem dX7_kindOf_9 : decode cX7_kindOf 9 = .ok (.iload_n 0, 1) := by decide +kernel
theorem dX7_kindOf_10 : decode cX7_kindOf 10 = .ok (.invokestatic 51, 3) := by decide +kernel
theorem dX7_kindOf_13 : decode cX7_kindOf 13 = .ok (.ifCond .eq 5, 3) := by decide +kernel
theorem dX7_kindOf_16 : decode cX7_kindOf 16 = .ok (.iconst 2, 1) := by decide +kernel
theorem dX7_kindOf_17 : decode cX7_kindOf 17 = .ok (.ireturn, 1) := by decide +kernel
theorem dX7_kindOf_18 : decode cX7_kindOf 18 = .ok (.iload_n 0, 1) := by decide +kernel
theorem dX7_kindOf_19 : decode cX7_kindOf 19 = .ok (.bipush 60, 2) := by decide +kernel
theorem dX7_kindOf_21 : decode cX7_kindOf 21 = .ok (.if_icmp .eq 15, 3) := by decide +kernel
theorem dX7_kindOf_24 : decode cX7_kindOf 24 = .ok (.iload_n 0, 1) := by decide +kernel
theorem dX7_kindOf_25 : decode cX7_kindOf 25 = .ok (.bipush 61, 2) := by decide +kernel
theorem dX7_kindOf_27 : decode cX7_kindOf 27 = .ok (.if_icmp .eq 9, 3) := by decide +kernel
theorem dX7_kindOf_30 : decode cX7_kindOf 30 = .ok (.iload_n 0, 1) := by decide +kernel
theorem dX7_kindOf_31 : decode cX7_kindOf 31 = .ok (.bipush 62, 2) := by decide +kernel
theorem dX7_kindOf_33 : decode cX7_kindOf 33 = .ok (.if_icmp .ne 7, 3) := by decide +kernel
theorem dX7_kindOf_36 : decode cX7_kindOf 36 = .ok (.iconst 4, 1) := by decide +kernel
theorem dX7_kindOf_37 : decode cX7_kindOf 37 = .ok (.goto 4, 3) := by decide +kernel
theorem dX7_kindOf_40 : decode cX7_kindOf 40 = .ok (.iconst 5, 1) := by decide +kernel
theorem dX7_kindOf_41 : decode cX7_kindOf 41 = .ok (.ireturn, 1) := by decide +kernel
theorem dX7_isLetter_0 : decode cX7_isLetter 0 = .ok (.iload_n 0, 1) := by decide +kernel
theorem dX7_isLetter_1 : decode cX7_isLetter 1 = .ok (.bipush 97, 2) := by decide +kernel
theorem dX7_isLetter_3 : decode cX7_isLetter 3 = .ok (.if_icmp .lt 13, 3) := by decide +kernel
theorem dX7_isLetter_6 : decode cX7_isLetter 6 = .ok (.iload_n 0, 1) := by decide +kernel
theorem dX7_isLetter_7 : decode cX7_isLetter 7 = .ok (.bipush 122, 2) := by decide +kernel
theorem dX7_isLetter_9 : decode cX7_isLetter 9 = .ok (.if_icmp .gt 7, 3) := by decide +kernel
theorem dX7_isLetter_12 : decode cX7_isLetter 12 = .ok (.iconst 1, 1) := by decide +kernel
theorem dX7_isLetter_13 : decode cX7_isLetter 13 = .ok (.goto 4, 3) := by decide +kernel
theorem dX7_isLetter_16 : decode cX7_isLetter 16 = .ok (.iconst 0, 1) := by decide +kernel
theorem dX7_isLetter_17 : decode cX7_isLetter 17 = .ok (.ireturn, 1) := by decide +kernel
theorem dX7_isDigit_0 : decode cX7_isDigit 0 = .ok (.iload_n 0, 1) := by decide +kernel
theorem dX7_isDigit_1 : decode cX7_isDigit 1 = .ok (.bipush 48, 2) := by decide +kernel
theorem dX7_isDigit_3 : decode cX7_isDigit 3 = .ok (.if_icmp .lt 13, 3) := by decide +kernel
theorem dX7_isDigit_6 : decode cX7_isDigit 6 = .ok (.iload_n 0, 1) := by decide +kernel
theorem dX7_isDigit_7 : decode cX7_isDigit 7 = .ok (.bipush 57, 2) := by decide +kernel
theorem dX7_isDigit_9 : decode cX7_isDigit 9 = .ok (.if_icmp .gt 7, 3) := by decide +kernel
theorem dX7_isDigit_12 : decode cX7_isDigit 12 = .ok (.iconst 1, 1) := by decide +kernel
theorem dX7_isDigit_13 : decode cX7_isDigit 13 = .ok (.goto 4, 3) := by decide +kernel
theorem dX7_isDigit_16 : decode cX7_isDigit 16 = .ok (.iconst 0, 1) := by decide +kernel
theorem dX7_isDigit_17 : decode cX7_isDigit 17 = .ok (.ireturn, 1) := by decide +kernel
theorem dX7_settleValue_0 : decode cX7_settleValue 0 = .ok (.aload_n 0, 1) := by decide +kernel
theorem dX7_settleValue_1 : decode cX7_settleValue 1 = .ok (.getfield 18, 3) := by decide +kernel
theorem dX7_settleValue_4 : decode cX7_settleValue 4 = .ok (.iload_n 1, 1) := by decide +kernel
theorem dX7_settleValue_5 : decode cX7_settleValue 5 = .ok (.iaload, 1) := by decide +kernel
theorem dX7_settleValue_6 : decode cX7_settleValue 6 = .ok (.istore_n 3, 1) := by decide +kernel
theorem dX7_settleValue_7 : decode cX7_settleValue 7 = .ok (.aload_n 0, 1) := by decide +kernel
theorem dX7_settleValue_8 : decode cX7_settleValue 8 = .ok (.getfield 15, 3) := by decide +kernel
theorem dX7_settleValue_11 : decode cX7_settleValue 11 = .ok (.iload_n 1, 1) := by decide +kernel
theorem dX7_settleValue_12 : decode cX7_settleValue 12 = .ok (.iaload, 1) := by decide +kernel
theorem dX7_settleValue_13 : decode cX7_settleValue 13 = .ok (.istore 4, 2) := by decide +kernel
theorem dX7_settleValue_15 : decode cX7_settleValue 15 = .ok (.aload_n 0, 1) := by decide +kernel
theorem dX7_settleValue_16 : decode cX7_settleValue 16 = .ok (.getfield 9, 3) := by decide +kernel
theorem dX7_settleValue_19 : decode cX7_settleValue 19 = .ok (.iload_n 1, 1) := by decide +kernel
theorem dX7_settleValue_20 : decode cX7_settleValue 20 = .ok (.iaload, 1) := by decide +kernel
theorem dX7_settleValue_21 : decode cX7_settleValue 21 = .ok (.tableswitch 100 1 4 #[31, 49, 100, 83], 31) := by decide +kernel
theorem dX7_settleValue_52 : decode cX7_settleValue 52 = .ok (.aload_n 0, 1) := by decide +kernel
theorem dX7_settleValue_53 : decode cX7_settleValue 53 = .ok (.getfield 15, 3) := by decide +kernel
theorem dX7_settleValue_56 : decode cX7_settleValue 56 = .ok (.iload_n 1, 1) := by decide +kernel
theorem dX7_settleValue_57 : decode cX7_settleValue 57 = .ok (.aload_n 2, 1) := by decide +kernel
theorem dX7_settleValue_58 : decode cX7_settleValue 58 = .ok (.iload_n 3, 1) := by decide +kernel
theorem dX7_settleValue_59 : decode cX7_settleValue 59 = .ok (.iload_n 3, 1) := by decide +kernel
theorem dX7_settleValue_60 : decode cX7_settleValue 60 = .ok (.iload 4, 2) := by decide +kernel
theorem dX7_settleValue_62 : decode cX7_settleValue 62 = .ok (.iadd, 1) := by decide +kernel
theorem dX7_settleValue_63 : decode cX7_settleValue 63 = .ok (.invokestatic 54, 3) := by decide +kernel
theorem dX7_settleValue_66 : decode cX7_settleValue 66 = .ok (.iastore, 1) := by decide +kernel
theorem dX7_settleValue_67 : decode cX7_settleValue 67 = .ok (.goto 63, 3) := by decide +kernel
theorem dX7_settleValue_70 : decode cX7_settleValue 70 = .ok (.iload 4, 2) := by decide +kernel
theorem dX7_settleValue_72 : decode cX7_settleValue 72 = .ok (.iconst 5, 1) := by decide +kernel
theorem dX7_settleValue_73 : decode cX7_settleValue 73 = .ok (.if_icmp .le 13, 3) := by decide +kernel
theorem dX7_settleValue_76 : decode cX7_settleValue 76 = .ok (.aload_n 0, 1) := by decide +kernel
theorem dX7_settleValue_77 : decode cX7_settleValue 77 = .ok (.getfield 9, 3) := by decide +kernel
theorem dX7_settleValue_80 : decode cX7_settleValue 80 = .ok (.iload_n 1, 1) := by decide +kernel
theorem dX7_settleValue_81 : decode cX7_settleValue 81 = .ok (.iconst 3, 1) := by decide +kernel
theorem dX7_settleValue_82 : decode cX7_settleValue 82 = .ok (.iastore, 1) := by decide +kernel
theorem dX7_settleValue_83 : decode cX7_settleValue 83 = .ok (.goto 47, 3) := by decide +kernel
theorem dX7_settleValue_86 : decode cX7_settleValue 86 = .ok (.aload_n 0, 1) := by decide +kernel
theorem dX7_settleValue_87 : decode cX7_settleValue 87 = .ok (.getfield 15, 3) := by decide +kernel
theorem dX7_settleValue_90 : decode cX7_settleValue 90 = .ok (.iload_n 1, 1) := by decide +kernel
theorem dX7_settleValue_91 : decode cX7_settleValue 91 = .ok (.aload_n 2, 1) := by decide +kernel
theorem dX7_settleValue_92 : decode cX7_settleValue 92 = .ok (.iload_n 3, 1) := by decide +kernel
theorem dX7_settleValue_93 : decode cX7_settleValue 93 = .ok (.iload_n 3, 1) := by decide +kernel
theorem dX7_settleValue_94 : decode cX7_settleValue 94 = .ok (.iload 4, 2) := by decide +kernel
theorem dX7_settleValue_96 : decode cX7_settleValue 96 = .ok (.iadd, 1) := by decide +kernel
theorem dX7_settleValue_97 : decode cX7_settleValue 97 = .ok (.invokestatic 58, 3) := by decide +kernel
theorem dX7_settleValue_100 : decode cX7_settleValue 100 = .ok (.iastore, 1) := by decide +kernel
theorem dX7_settleValue_101 : decode cX7_settleValue 101 = .ok (.goto 29, 3) := by decide +kernel
theorem dX7_settleValue_104 : decode cX7_settleValue 104 = .ok (.aload_n 0, 1) := by decide +kernel
theorem dX7_settleValue_105 : decode cX7_settleValue 105 = .ok (.getfield 15, 3) := by decide +kernel
theorem dX7_settleValue_108 : decode cX7_settleValue 108 = .ok (.iload_n 1, 1) := by decide +kernel
theorem dX7_settleValue_109 : decode cX7_settleValue 109 = .ok (.aload_n 2, 1) := by decide +kernel
theorem dX7_settleValue_110 : decode cX7_settleValue 110 = .ok (.iload_n 3, 1) := by decide +kernel
theorem dX7_settleValue_111 : decode cX7_settleValue 111 = .ok (.baload, 1) := by decide +kernel
theorem dX7_settleValue_112 : decode cX7_settleValue 112 = .ok (.iload 4, 2) := by decide +kernel
theorem dX7_settleValue_114 : decode cX7_settleValue 114 = .ok (.invokestatic 61, 3) := by decide +kernel
theorem dX7_settleValue_117 : decode cX7_settleValue 117 = .ok (.iastore, 1) := by decide +kernel
theorem dX7_settleValue_118 : decode cX7_settleValue 118 = .ok (.goto 12, 3) := by decide +kernel
theorem dX7_settleValue_121 : decode cX7_settleValue 121 = .ok (.aload_n 0, 1) := by decide +kernel
theorem dX7_settleValue_122 : decode cX7_settleValue 122 = .ok (.getfield 15, 3) := by decide +kernel
theorem dX7_settleValue_125 : decode cX7_settleValue 125 = .ok (.iload_n 1, 1) := by decide +kernel
theorem dX7_settleValue_126 : decode cX7_settleValue 126 = .ok (.aload_n 2, 1) := by decide +kernel
theorem dX7_settleValue_127 : decode cX7_settleValue 127 = .ok (.iload_n 3, 1) := by decide +kernel
theorem dX7_settleValue_128 : decode cX7_settleValue 128 = .ok (.baload, 1) := by decide +kernel
theorem dX7_settleValue_129 : decode cX7_settleValue 129 = .ok (.iastore, 1) := by decide +kernel
theorem dX7_settleValue_130 : decode cX7_settleValue 130 = .ok (.return_, 1) := by decide +kernel
theorem dX7_wordNumber_0 : decode cX7_wordNumber 0 = .ok (.iconst 0, 1) := by decide +kernel
theorem dX7_wordNumber_1 : decode cX7_wordNumber 1 = .ok (.istore_n 3, 1) := by decide +kernel
theorem dX7_wordNumber_2 : decode cX7_wordNumber 2 = .ok (.iload_n 1, 1) := by decide +kernel
theorem dX7_wordNumber_3 : decode cX7_wordNumber 3 = .ok (.istore 4, 2) := by decide +kernel
theorem dX7_wordNumber_5 : decode cX7_wordNumber 5 = .ok (.iconst 1, 1) := by decide +kernel
theorem dX7_wordNumber_6 : decode cX7_wordNumber 6 = .ok (.istore 5, 2) := by decide +kernel
theorem dX7_wordNumber_8 : decode cX7_wordNumber 8 = .ok (.iconst 0, 1) := by decide +kernel
theorem dX7_wordNumber_9 : decode cX7_wordNumber 9 = .ok (.istore 6, 2) := by decide +kernel
theorem dX7_wordNumber_11 : decode cX7_wordNumber 11 = .ok (.iload 6, 2) := by decide +kernel
theorem dX7_wordNumber_13 : decode cX7_wordNumber 13 = .ok (.ldc 65, 2) := by decide +kernel
theorem dX7_wordNumber_15 : decode cX7_wordNumber 15 = .ok (.invokevirtual 67, 3) := by decide +kernel
theorem dX7_wordNumber_18 : decode cX7_wordNumber 18 = .ok (.if_icmp .ge 80, 3) := by decide +kernel
theorem dX7_wordNumber_21 : decode cX7_wordNumber 21 = .ok (.ldc 65, 2) := by decide +kernel
theorem dX7_wordNumber_23 : decode cX7_wordNumber 23 = .ok (.iload 6, 2) := by decide +kernel
theorem dX7_wordNumber_25 : decode cX7_wordNumber 25 = .ok (.invokevirtual 73, 3) := by decide +kernel
theorem dX7_wordNumber_28 : decode cX7_wordNumber 28 = .ok (.istore 7, 2) := by decide +kernel
theorem dX7_wordNumber_30 : decode cX7_wordNumber 30 = .ok (.iload 7, 2) := by decide +kernel
theorem dX7_wordNumber_32 : decode cX7_wordNumber 32 = .ok (.bipush 32, 2) := by decide +kernel
theorem dX7_wordNumber_34 : decode cX7_wordNumber 34 = .ok (.if_icmp .eq 36, 3) := by decide +kernel
theorem dX7_wordNumber_37 : decode cX7_wordNumber 37 = .ok (.iload 5, 2) := by decide +kernel
theorem dX7_wordNumber_39 : decode cX7_wordNumber 39 = .ok (.ifCond .eq 22, 3) := by decide +kernel
theorem dX7_wordNumber_42 : decode cX7_wordNumber 42 = .ok (.iload 4, 2) := by decide +kernel
theorem dX7_wordNumber_44 : decode cX7_wordNumber 44 = .ok (.iload_n 2, 1) := by decide +kernel
theorem dX7_wordNumber_45 : decode cX7_wordNumber 45 = .ok (.if_icmp .ge 16, 3) := by decide +kernel
theorem dX7_wordNumber_48 : decode cX7_wordNumber 48 = .ok (.aload_n 0, 1) := by decide +kernel
theorem dX7_wordNumber_49 : decode cX7_wordNumber 49 = .ok (.iload 4, 2) := by decide +kernel
theorem dX7_wordNumber_51 : decode cX7_wordNumber 51 = .ok (.baload, 1) := by decide +kernel
theorem dX7_wordNumber_52 : decode cX7_wordNumber 52 = .ok (.iload 7, 2) := by decide +kernel
theorem dX7_wordNumber_54 : decode cX7_wordNumber 54 = .ok (.if_icmp .ne 7, 3) := by decide +kernel
theorem dX7_wordNumber_57 : decode cX7_wordNumber 57 = .ok (.iconst 1, 1) := by decide +kernel
theorem dX7_wordNumber_58 : decode cX7_wordNumber 58 = .ok (.goto 4, 3) := by decide +kernel
theorem dX7_wordNumber_61 : decode cX7_wordNumber 61 = .ok (.iconst 0, 1) := by decide +kernel
theorem dX7_wordNumber_62 : decode cX7_wordNumber 62 = .ok (.istore 5, 2) := by decide +kernel
theorem dX7_wordNumber_64 : decode cX7_wordNumber 64 = .ok (.iinc 4 1, 3) := by decide +kernel
theorem dX7_wordNumber_67 : decode cX7_wordNumber 67 = .ok (.goto 25, 3) := by decide +kernel
theorem dX7_wordNumber_70 : decode cX7_wordNumber 70 = .ok (.iload 5, 2) := by decide +kernel
theorem dX7_wordNumber_72 : decode cX7_wordNumber 72 = .ok (.ifCond .eq 11, 3) := by decide +kernel
theorem dX7_wordNumber_75 : decode cX7_wordNumber 75 = .ok (.iload 4, 2) := by decide +kernel
theorem dX7_wordNumber_77 : decode cX7_wordNumber 77 = .ok (.iload_n 2, 1) := by decide +kernel
theorem dX7_wordNumber_78 : decode cX7_wordNumber 78 = .ok (.if_icmp .ne 5, 3) := by decide +kernel
theorem dX7_wordNumber_81 : decode cX7_wordNumber 81 = .ok (.iload_n 3, 1) := by decide +kernel
theorem dX7_wordNumber_82 : decode cX7_wordNumber 82 = .ok (.ireturn, 1) := by decide +kernel
theorem dX7_wordNumber_83 : decode cX7_wordNumber 83 = .ok (.iinc 3 1, 3) := by decide +kernel
theorem dX7_wordNumber_86 : decode cX7_wordNumber 86 = .ok (.iload_n 1, 1) := by decide +kernel
theorem dX7_wordNumber_87 : decode cX7_wordNumber 87 = .ok (.istore 4, 2) := by decide +kernel
theorem dX7_wordNumber_89 : decode cX7_wordNumber 89 = .ok (.iconst 1, 1) := by decide +kernel
theorem dX7_wordNumber_90 : decode cX7_wordNumber 90 = .ok (.istore 5, 2) := by decide +kernel
theorem dX7_wordNumber_92 : decode cX7_wordNumber 92 = .ok (.iinc 6 1, 3) := by decide +kernel
theorem dX7_wordNumber_95 : decode cX7_wordNumber 95 = .ok (.goto (-84), 3) := by decide +kernel
theorem dX7_wordNumber_98 : decode cX7_wordNumber 98 = .ok (.iconst (-1), 1) := by decide +kernel
theorem dX7_wordNumber_99 : decode cX7_wordNumber 99 = .ok (.ireturn, 1) := by decide +kernel
theorem dX7_numberOf_0 : decode cX7_numberOf 0 = .ok (.iconst 0, 1) := by decide +kernel
theorem dX7_numberOf_1 : decode cX7_numberOf 1 = .ok (.istore_n 3, 1) := by decide +kernel
theorem dX7_numberOf_2 : decode cX7_numberOf 2 = .ok (.iload_n 1, 1) := by decide +kernel
theorem dX7_numberOf_3 : decode cX7_numberOf 3 = .ok (.istore 4, 2) := by decide +kernel
theorem dX7_numberOf_5 : decode cX7_numberOf 5 = .ok (.iload 4, 2) := by decide +kernel
theorem dX7_numberOf_7 : decode cX7_numberOf 7 = .ok (.iload_n 2, 1) := by decide +kernel
theorem dX7_numberOf_8 : decode cX7_numberOf 8 = .ok (.if_icmp .ge 22, 3) := by decide +kernel
theorem dX7_numberOf_11 : decode cX7_numberOf 11 = .ok (.iload_n 3, 1) := by decide +kernel
theorem dX7_numberOf_12 : decode cX7_numberOf 12 = .ok (.bipush 10, 2) := by decide +kernel
theorem dX7_numberOf_14 : decode cX7_numberOf 14 = .ok (.imul, 1) := by decide +kernel
theorem dX7_numberOf_15 : decode cX7_numberOf 15 = .ok (.aload_n 0, 1) := by decide +kernel
theorem dX7_numberOf_16 : decode cX7_numberOf 16 = .ok (.iload 4, 2) := by decide +kernel
theorem dX7_numberOf_18 : decode cX7_numberOf 18 = .ok (.baload, 1) := by decide +kernel
theorem dX7_numberOf_19 : decode cX7_numberOf 19 = .ok (.bipush 48, 2) := by decide +kernel
theorem dX7_numberOf_21 : decode cX7_numberOf 21 = .ok (.isub, 1) := by decide +kernel
theorem dX7_numberOf_22 : decode cX7_numberOf 22 = .ok (.iadd, 1) := by decide +kernel
theorem dX7_numberOf_23 : decode cX7_numberOf 23 = .ok (.istore_n 3, 1) := by decide +kernel
theorem dX7_numberOf_24 : decode cX7_numberOf 24 = .ok (.iinc 4 1, 3) := by decide +kernel
theorem dX7_numberOf_27 : decode cX7_numberOf 27 = .ok (.goto (-22), 3) := by decide +kernel
theorem dX7_numberOf_30 : decode cX7_numberOf 30 = .ok (.iload_n 3, 1) := by decide +kernel
theorem dX7_numberOf_31 : decode cX7_numberOf 31 = .ok (.ireturn, 1) := by decide +kernel
theorem dX7_signStep_0 : decode cX7_signStep 0 = .ok (.iload_n 0, 1) := by decide +kernel
theorem dX7_signStep_1 : decode cX7_signStep 1 = .ok (.bipush 61, 2) := by decide +kernel
theorem dX7_signStep_3 : decode cX7_signStep 3 = .ok (.if_icmp .ne 6, 3) := by decide +kernel
theorem dX7_signStep_6 : decode cX7_signStep 6 = .ok (.bipush 12, 2) := by decide +kernel
theorem dX7_signStep_8 : decode cX7_signStep 8 = .ok (.ireturn, 1) := by decide +kernel
theorem dX7_signStep_9 : decode cX7_signStep 9 = .ok (.iload_n 0, 1) := by decide +kernel
theorem dX7_signStep_10 : decode cX7_signStep 10 = .ok (.bipush 60, 2) := by decide +kernel
theorem dX7_signStep_12 : decode cX7_signStep 12 = .ok (.if_icmp .ne 16, 3) := by decide +kernel
theorem dX7_signStep_15 : decode cX7_signStep 15 = .ok (.iload_n 1, 1) := by decide +kernel
theorem dX7_signStep_16 : decode cX7_signStep 16 = .ok (.iconst 1, 1) := by decide +kernel
theorem dX7_signStep_17 : decode cX7_signStep 17 = .ok (.if_icmp .ne 8, 3) := by decide +kernel
theorem dX7_signStep_20 : decode cX7_signStep 20 = .ok (.bipush 10, 2) := by decide +kernel
theorem dX7_signStep_22 : decode cX7_signStep 22 = .ok (.goto 5, 3) := by decide +kernel
theorem dX7_signStep_25 : decode cX7_signStep 25 = .ok (.bipush 11, 2) := by decide +kernel
theorem dX7_signStep_27 : decode cX7_signStep 27 = .ok (.ireturn, 1) := by decide +kernel
theorem dX7_signStep_28 : decode cX7_signStep 28 = .ok (.iload_n 1, 1) := by decide +kernel
theorem dX7_signStep_29 : decode cX7_signStep 29 = .ok (.iconst 1, 1) := by decide +kernel
theorem dX7_signStep_30 : decode cX7_signStep 30 = .ok (.if_icmp .ne 8, 3) := by decide +kernel
theorem dX7_signStep_33 : decode cX7_signStep 33 = .ok (.bipush 14, 2) := by decide +kernel
theorem dX7_signStep_35 : decode cX7_signStep 35 = .ok (.goto 5, 3) := by decide +kernel
theorem dX7_signStep_38 : decode cX7_signStep 38 = .ok (.bipush 13, 2) := by decide +kernel
theorem dX7_signStep_40 : decode cX7_signStep 40 = .ok (.ireturn, 1) := by decide +kernel
theorem dX7_fine_0 : decode cX7_fine 0 = .ok (.aload_n 0, 1) := by decide +kernel
theorem dX7_fine_1 : decode cX7_fine 1 = .ok (.getfield 28, 3) := by decide +kernel
theorem dX7_fine_4 : decode cX7_fine 4 = .ok (.ifCond .ne 7, 3) := by decide +kernel
theorem dX7_fine_7 : decode cX7_fine 7 = .ok (.iconst 1, 1) := by decide +kernel
theorem dX7_fine_8 : decode cX7_fine 8 = .ok (.goto 4, 3) := by decide +kernel
theorem dX7_fine_11 : decode cX7_fine 11 = .ok (.iconst 0, 1) := by decide +kernel
theorem dX7_fine_12 : decode cX7_fine 12 = .ok (.ireturn, 1) := by decide +kernel
theorem dX7_fail_0 : decode cX7_fail 0 = .ok (.aload_n 0, 1) := by decide +kernel
theorem dX7_fail_1 : decode cX7_fail 1 = .ok (.getfield 28, 3) := by decide +kernel
theorem dX7_fail_4 : decode cX7_fail 4 = .ok (.ifCond .ne 23, 3) := by decide +kernel
theorem dX7_fail_7 : decode cX7_fail 7 = .ok (.aload_n 0, 1) := by decide +kernel
theorem dX7_fail_8 : decode cX7_fail 8 = .ok (.iconst 1, 1) := by decide +kernel
theorem dX7_fail_9 : decode cX7_fail 9 = .ok (.bipush 8, 2) := by decide +kernel
theorem dX7_fail_11 : decode cX7_fail 11 = .ok (.aload_n 0, 1) := by decide +kernel
theorem dX7_fail_12 : decode cX7_fail 12 = .ok (.getfield 18, 3) := by decide +kernel
theorem dX7_fail_15 : decode cX7_fail 15 = .ok (.aload_n 0, 1) := by decide +kernel
theorem dX7_fail_16 : decode cX7_fail 16 = .ok (.getfield 25, 3) := by decide +kernel
theorem dX7_fail_19 : decode cX7_fail 19 = .ok (.iaload, 1) := by decide +kernel
theorem dX7_fail_20 : decode cX7_fail 20 = .ok (.imul, 1) := by decide +kernel
theorem dX7_fail_21 : decode cX7_fail 21 = .ok (.iadd, 1) := by decide +kernel
theorem dX7_fail_22 : decode cX7_fail 22 = .ok (.iload_n 1, 1) := by decide +kernel
theorem dX7_fail_23 : decode cX7_fail 23 = .ok (.iadd, 1) := by decide +kernel
theorem dX7_fail_24 : decode cX7_fail 24 = .ok (.putfield 28, 3) := by decide +kernel
theorem dX7_fail_27 : decode cX7_fail 27 = .ok (.return_, 1) := by decide +kernel
theorem dX7_refuseNumber_0 : decode cX7_refuseNumber 0 = .ok (.aload_n 0, 1) := by decide +kernel
theorem dX7_refuseNumber_1 : decode cX7_refuseNumber 1 = .ok (.getfield 28, 3) := by decide +kernel
theorem dX7_refuseNumber_4 : decode cX7_refuseNumber 4 = .ok (.ifCond .ne 32, 3) := by decide +kernel
theorem dX7_refuseNumber_7 : decode cX7_refuseNumber 7 = .ok (.aload_n 0, 1) := by decide +kernel
theorem dX7_refuseNumber_8 : decode cX7_refuseNumber 8 = .ok (.getfield 25, 3) := by decide +kernel
theorem dX7_refuseNumber_11 : decode cX7_refuseNumber 11 = .ok (.ifCond .le 25, 3) := by decide +kernel
theorem dX7_refuseNumber_14 : decode cX7_refuseNumber 14 = .ok (.aload_n 0, 1) := by decide +kernel
theorem dX7_refuseNumber_15 : decode cX7_refuseNumber 15 = .ok (.iconst 1, 1) := by decide +kernel
theorem dX7_refuseNumber_16 : decode cX7_refuseNumber 16 = .ok (.bipush 8, 2) := by decide +kernel
theorem dX7_refuseNumber_18 : decode cX7_refuseNumber 18 = .ok (.aload_n 0, 1) := by decide +kernel
theorem dX7_refuseNumber_19 : decode cX7_refuseNumber 19 = .ok (.getfield 18, 3) := by decide +kernel
theorem dX7_refuseNumber_22 : decode cX7_refuseNumber 22 = .ok (.aload_n 0, 1) := by decide +kernel
theorem dX7_refuseNumber_23 : decode cX7_refuseNumber 23 = .ok (.getfield 25, 3) := by decide +kernel
theorem dX7_refuseNumber_26 : decode cX7_refuseNumber 26 = .ok (.iconst 1, 1) := by decide +kernel
theorem dX7_refuseNumber_27 : decode cX7_refuseNumber 27 = .ok (.isub, 1) := by decide +kernel
theorem dX7_refuseNumber_28 : decode cX7_refuseNumber 28 = .ok (.iaload, 1) := by decide +kernel
theorem dX7_refuseNumber_29 : decode cX7_refuseNumber 29 = .ok (.imul, 1) := by decide +kernel
theorem dX7_refuseNumber_30 : decode cX7_refuseNumber 30 = .ok (.iadd, 1) := by decide +kernel
theorem dX7_refuseNumber_31 : decode cX7_refuseNumber 31 = .ok (.iconst 1, 1) := by decide +kernel
theorem dX7_refuseNumber_32 : decode cX7_refuseNumber 32 = .ok (.iadd, 1) := by decide +kernel
theorem dX7_refuseNumber_33 : decode cX7_refuseNumber 33 = .ok (.putfield 28, 3) := by decide +kernel
theorem dX7_refuseNumber_36 : decode cX7_refuseNumber 36 = .ok (.return_, 1) := by decide +kernel
theorem dX7_step_0 : decode cX7_step 0 = .ok (.aload_n 0, 1) := by decide +kernel
theorem dX7_step_1 : decode cX7_step 1 = .ok (.getfield 25, 3) := by decide +kernel
theorem dX7_step_4 : decode cX7_step 4 = .ok (.aload_n 0, 1) := by decide +kernel
theorem dX7_step_5 : decode cX7_step 5 = .ok (.getfield 21, 3) := by decide +kernel
theorem dX7_step_8 : decode cX7_step 8 = .ok (.iconst 1, 1) := by decide +kernel
theorem dX7_step_9 : decode cX7_step 9 = .ok (.isub, 1) := by decide +kernel
theorem dX7_step_10 : decode cX7_step 10 = .ok (.if_icmp .ge 13, 3) := by decide +kernel
theorem dX7_step_13 : decode cX7_step 13 = .ok (.aload_n 0, 1) := by decide +kernel
theorem dX7_step_14 : decode cX7_step 14 = .ok (.dup, 1) := by decide +kernel
theorem dX7_step_15 : decode cX7_step 15 = .ok (.getfield 25, 3) := by decide +kernel
theorem dX7_step_18 : decode cX7_step 18 = .ok (.iconst 1, 1) := by decide +kernel
theorem dX7_step_19 : decode cX7_step 19 = .ok (.iadd, 1) := by decide +kernel
theorem dX7_step_20 : decode cX7_step 20 = .ok (.putfield 25, 3) := by decide +kernel
theorem dX7_step_23 : decode cX7_step 23 = .ok (.return_, 1) := by decide +kernel
theorem dX7_kindHere_0 : decode cX7_kindHere 0 = .ok (.aload_n 0, 1) := by decide +kernel
theorem dX7_kindHere_1 : decode cX7_kindHere 1 = .ok (.getfield 9, 3) := by decide +kernel
theorem dX7_kindHere_4 : decode cX7_kindHere 4 = .ok (.aload_n 0, 1) := by decide +kernel
theorem dX7_kindHere_5 : decode cX7_kindHere 5 = .ok (.getfield 25, 3) := by decide +kernel
theorem dX7_kindHere_8 : decode cX7_kindHere 8 = .ok (.iaload, 1) := by decide +kernel
theorem dX7_kindHere_9 : decode cX7_kindHere 9 = .ok (.ireturn, 1) := by decide +kernel
theorem dX7_valueHere_0 : decode cX7_valueHere 0 = .ok (.aload_n 0, 1) := by decide +kernel
theorem dX7_valueHere_1 : decode cX7_valueHere 1 = .ok (.getfield 15, 3) := by decide +kernel
theorem dX7_valueHere_4 : decode cX7_valueHere 4 = .ok (.aload_n 0, 1) := by decide +kernel
theorem dX7_valueHere_5 : decode cX7_valueHere 5 = .ok (.getfield 25, 3) := by decide +kernel
theorem dX7_valueHere_8 : decode cX7_valueHere 8 = .ok (.iaload, 1) := by decide +kernel
theorem dX7_valueHere_9 : decode cX7_valueHere 9 = .ok (.ireturn, 1) := by decide +kernel
theorem dX7_wordHere_0 : decode cX7_wordHere 0 = .ok (.aload_n 0, 1) := by decide +kernel
theorem dX7_wordHere_1 : decode cX7_wordHere 1 = .ok (.getfield 9, 3) := by decide +kernel
theorem dX7_wordHere_4 : decode cX7_wordHere 4 = .ok (.aload_n 0, 1) := by decide +kernel
theorem dX7_wordHere_5 : decode cX7_wordHere 5 = .ok (.getfield 25, 3) := by decide +kernel
theorem dX7_wordHere_8 : decode cX7_wordHere 8 = .ok (.iaload, 1) := by decide +kernel
theorem dX7_wordHere_9 : decode cX7_wordHere 9 = .ok (.iconst 1, 1) := by decide +kernel
theorem dX7_wordHere_10 : decode cX7_wordHere 10 = .ok (.if_icmp .ne 15, 3) := by decide +kernel
theorem dX7_wordHere_13 : decode cX7_wordHere 13 = .ok (.aload_n 0, 1) := by decide +kernel
theorem dX7_wordHere_14 : decode cX7_wordHere 14 = .ok (.getfield 15, 3) := by decide +kernel
theorem dX7_wordHere_17 : decode cX7_wordHere 17 = .ok (.aload_n 0, 1) := by decide +kernel
theorem dX7_wordHere_18 : decode cX7_wordHere 18 = .ok (.getfield 25, 3) := by decide +kernel
theorem dX7_wordHere_21 : decode cX7_wordHere 21 = .ok (.iaload, 1) := by decide +kernel
theorem dX7_wordHere_22 : decode cX7_wordHere 22 = .ok (.goto 4, 3) := by decide +kernel
theorem dX7_wordHere_25 : decode cX7_wordHere 25 = .ok (.iconst (-1), 1) := by decide +kernel
theorem dX7_wordHere_26 : decode cX7_wordHere 26 = .ok (.ireturn, 1) := by decide +kernel
theorem dX7_isByte_0 : decode cX7_isByte 0 = .ok (.aload_n 0, 1) := by decide +kernel
theorem dX7_isByte_1 : decode cX7_isByte 1 = .ok (.getfield 9, 3) := by decide +kernel
theorem dX7_isByte_4 : decode cX7_isByte 4 = .ok (.aload_n 0, 1) := by decide +kernel
theorem dX7_isByte_5 : decode cX7_isByte 5 = .ok (.getfield 25, 3) := by decide +kernel
theorem dX7_isByte_8 : decode cX7_isByte 8 = .ok (.iaload, 1) := by decide +kernel
theorem dX7_isByte_9 : decode cX7_isByte 9 = .ok (.iconst 5, 1) := by decide +kernel
theorem dX7_isByte_10 : decode cX7_isByte 10 = .ok (.if_icmp .ne 20, 3) := by decide +kernel
theorem dX7_isByte_13 : decode cX7_isByte 13 = .ok (.aload_n 0, 1) := by decide +kernel
theorem dX7_isByte_14 : decode cX7_isByte 14 = .ok (.getfield 15, 3) := by decide +kernel
theorem dX7_isByte_17 : decode cX7_isByte 17 = .ok (.aload_n 0, 1) := by decide +kernel
theorem dX7_isByte_18 : decode cX7_isByte 18 = .ok (.getfield 25, 3) := by decide +kernel
theorem dX7_isByte_21 : decode cX7_isByte 21 = .ok (.iaload, 1) := by decide +kernel
theorem dX7_isByte_22 : decode cX7_isByte 22 = .ok (.iload_n 1, 1) := by decide +kernel
theorem dX7_isByte_23 : decode cX7_isByte 23 = .ok (.if_icmp .ne 7, 3) := by decide +kernel
theorem dX7_isByte_26 : decode cX7_isByte 26 = .ok (.iconst 1, 1) := by decide +kernel
theorem dX7_isByte_27 : decode cX7_isByte 27 = .ok (.goto 4, 3) := by decide +kernel
theorem dX7_isByte_30 : decode cX7_isByte 30 = .ok (.iconst 0, 1) := by decide +kernel
theorem dX7_isByte_31 : decode cX7_isByte 31 = .ok (.ireturn, 1) := by decide +kernel
theorem dX7_readNumber_0 : decode cX7_readNumber 0 = .ok (.aload_n 0, 1) := by decide +kernel
theorem dX7_readNumber_1 : decode cX7_readNumber 1 = .ok (.getfield 28, 3) := by decide +kernel
theorem dX7_readNumber_4 : decode cX7_readNumber 4 = .ok (.ifCond .eq 5, 3) := by decide +kernel
theorem dX7_readNumber_7 : decode cX7_readNumber 7 = .ok (.iconst 0, 1) := by decide +kernel
theorem dX7_readNumber_8 : decode cX7_readNumber 8 = .ok (.ireturn, 1) := by decide +kernel
theorem dX7_readNumber_9 : decode cX7_readNumber 9 = .ok (.aload_n 0, 1) := by decide +kernel
theorem dX7_readNumber_10 : decode cX7_readNumber 10 = .ok (.getfield 9, 3) := by decide +kernel
theorem dX7_readNumber_13 : decode cX7_readNumber 13 = .ok (.aload_n 0, 1) := by decide +kernel
theorem dX7_readNumber_14 : decode cX7_readNumber 14 = .ok (.getfield 25, 3) := by decide +kernel
theorem dX7_readNumber_17 : decode cX7_readNumber 17 = .ok (.iaload, 1) := by decide +kernel
theorem dX7_readNumber_18 : decode cX7_readNumber 18 = .ok (.iconst 3, 1) := by decide +kernel
theorem dX7_readNumber_19 : decode cX7_readNumber 19 = .ok (.if_icmp .ne 7, 3) := by decide +kernel
theorem dX7_readNumber_22 : decode cX7_readNumber 22 = .ok (.iconst 1, 1) := by decide +kernel
theorem dX7_readNumber_23 : decode cX7_readNumber 23 = .ok (.goto 4, 3) := by decide +kernel
theorem dX7_readNumber_26 : decode cX7_readNumber 26 = .ok (.iconst 0, 1) := by decide +kernel
theorem dX7_readNumber_27 : decode cX7_readNumber 27 = .ok (.istore_n 3, 1) := by decide +kernel
theorem dX7_readNumber_28 : decode cX7_readNumber 28 = .ok (.aload_n 0, 1) := by decide +kernel
theorem dX7_readNumber_29 : decode cX7_readNumber 29 = .ok (.getfield 9, 3) := by decide +kernel
theorem dX7_readNumber_32 : decode cX7_readNumber 32 = .ok (.aload_n 0, 1) := by decide +kernel
theorem dX7_readNumber_33 : decode cX7_readNumber 33 = .ok (.getfield 25, 3) := by decide +kernel
theorem dX7_readNumber_36 : decode cX7_readNumber 36 = .ok (.iaload, 1) := by decide +kernel
theorem dX7_readNumber_37 : decode cX7_readNumber 37 = .ok (.iconst 2, 1) := by decide +kernel
theorem dX7_readNumber_38 : decode cX7_readNumber 38 = .ok (.if_icmp .eq 14, 3) := by decide +kernel
theorem dX7_readNumber_41 : decode cX7_readNumber 41 = .ok (.iload_n 3, 1) := by decide +kernel
theorem dX7_readNumber_42 : decode cX7_readNumber 42 = .ok (.ifCond .ne 10, 3) := by decide +kernel
theorem dX7_readNumber_45 : decode cX7_readNumber 45 = .ok (.aload_n 0, 1) := by decide +kernel
theorem dX7_readNumber_46 : decode cX7_readNumber 46 = .ok (.iconst 0, 1) := by decide +kernel
theorem dX7_readNumber_47 : decode cX7_readNumber 47 = .ok (.invokevirtual 77, 3) := by decide +kernel
theorem dX7_readNumber_50 : decode cX7_readNumber 50 = .ok (.iconst 0, 1) := by decide +kernel
theorem dX7_readNumber_51 : decode cX7_readNumber 51 = .ok (.ireturn, 1) := by decide +kernel
theorem dX7_readNumber_52 : decode cX7_readNumber 52 = .ok (.aload_n 0, 1) := by decide +kernel
theorem dX7_readNumber_53 : decode cX7_readNumber 53 = .ok (.getfield 15, 3) := by decide +kernel
theorem dX7_readNumber_56 : decode cX7_readNumber 56 = .ok (.aload_n 0, 1) := by decide +kernel
theorem dX7_readNumber_57 : decode cX7_readNumber 57 = .ok (.getfield 25, 3) := by decide +kernel
theorem dX7_readNumber_60 : decode cX7_readNumber 60 = .ok (.iaload, 1) := by decide +kernel
theorem dX7_readNumber_61 : decode cX7_readNumber 61 = .ok (.istore 4, 2) := by decide +kernel
theorem dX7_readNumber_63 : decode cX7_readNumber 63 = .ok (.iload_n 3, 1) := by decide +kernel
theorem dX7_readNumber_64 : decode cX7_readNumber 64 = .ok (.ifCond .ne 15, 3) := by decide +kernel
theorem dX7_readNumber_67 : decode cX7_readNumber 67 = .ok (.iload 4, 2) := by decide +kernel
theorem dX7_readNumber_69 : decode cX7_readNumber 69 = .ok (.iload_n 1, 1) := by decide +kernel
theorem dX7_readNumber_70 : decode cX7_readNumber 70 = .ok (.if_icmp .lt 9, 3) := by decide +kernel
theorem dX7_readNumber_73 : decode cX7_readNumber 73 = .ok (.iload 4, 2) := by decide +kernel
theorem dX7_readNumber_75 : decode cX7_readNumber 75 = .ok (.iload_n 2, 1) := by decide +kernel
theorem dX7_readNumber_76 : decode cX7_readNumber 76 = .ok (.if_icmp .le 10, 3) := by decide +kernel
theorem dX7_readNumber_79 : decode cX7_readNumber 79 = .ok (.aload_n 0, 1) := by decide +kernel
theorem dX7_readNumber_80 : decode cX7_readNumber 80 = .ok (.iconst 1, 1) := by decide +kernel
theorem dX7_readNumber_81 : decode cX7_readNumber 81 = .ok (.invokevirtual 77, 3) := by decide +kernel
theorem dX7_readNumber_84 : decode cX7_readNumber 84 = .ok (.iconst 0, 1) := by decide +kernel
theorem dX7_readNumber_85 : decode cX7_readNumber 85 = .ok (.ireturn, 1) := by decide +kernel
theorem dX7_readNumber_86 : decode cX7_readNumber 86 = .ok (.aload_n 0, 1) := by decide +kernel
theorem dX7_readNumber_87 : decode cX7_readNumber 87 = .ok (.invokevirtual 81, 3) := by decide +kernel
theorem dX7_readNumber_90 : decode cX7_readNumber 90 = .ok (.iload 4, 2) := by decide +kernel
theorem dX7_readNumber_92 : decode cX7_readNumber 92 = .ok (.ireturn, 1) := by decide +kernel
theorem dX8_init_0 : decode cX8_init 0 = .ok (.aload_n 0, 1) := by decide +kernel
theorem dX8_init_1 : decode cX8_init 1 = .ok (.invokespecial 3, 3) := by decide +kernel
theorem dX8_init_4 : decode cX8_init 4 = .ok (.aload_n 0, 1) := by decide +kernel
theorem dX8_init_5 : decode cX8_init 5 = .ok (.bipush 7, 2) := by decide +kernel
theorem dX8_init_7 : decode cX8_init 7 = .ok (.newarray .int, 2) := by decide +kernel
theorem dX8_init_9 : decode cX8_init 9 = .ok (.putfield 9, 3) := by decide +kernel
theorem dX8_init_12 : decode cX8_init 12 = .ok (.aload_n 0, 1) := by decide +kernel
theorem dX8_init_13 : decode cX8_init 13 = .ok (.bipush 49, 2) := by decide +kernel
theorem dX8_init_15 : decode cX8_init 15 = .ok (.newarray .int, 2) := by decide +kernel
theorem dX8_init_17 : decode cX8_init 17 = .ok (.putfield 15, 3) := by decide +kernel
theorem dX8_init_20 : decode cX8_init 20 = .ok (.aload_n 0, 1) := by decide +kernel
theorem dX8_init_21 : decode cX8_init 21 = .ok (.bipush 10, 2) := by decide +kernel
theorem dX8_init_23 : decode cX8_init 23 = .ok (.newarray .int, 2) := by decide +kernel
theorem dX8_init_25 : decode cX8_init 25 = .ok (.putfield 18, 3) := by decide +kernel
theorem dX8_init_28 : decode cX8_init 28 = .ok (.aload_n 0, 1) := by decide +kernel
theorem dX8_init_29 : decode cX8_init 29 = .ok (.bipush 10, 2) := by decide +kernel
theorem dX8_init_31 : decode cX8_init 31 = .ok (.newarray .int, 2) := by decide +kernel
theorem dX8_init_33 : decode cX8_init 33 = .ok (.putfield 21, 3) := by decide +kernel
theorem dX8_init_36 : decode cX8_init 36 = .ok (.aload_n 0, 1) := by decide +kernel
theorem dX8_init_37 : decode cX8_init 37 = .ok (.bipush 7, 2) := by decide +kernel
theorem dX8_init_39 : decode cX8_init 39 = .ok (.newarray .int, 2) := by decide +kernel
theorem dX8_init_41 : decode cX8_init 41 = .ok (.putfield 24, 3) := by decide +kernel
theorem dX8_init_44 : decode cX8_init 44 = .ok (.aload_n 0, 1) := by decide +kernel
theorem dX8_init_45 : decode cX8_init 45 = .ok (.bipush 40, 2) := by decide +kernel
theorem dX8_init_47 : decode cX8_init 47 = .ok (.newarray .int, 2) := by decide +kernel
theorem dX8_init_49 : decode cX8_init 49 = .ok (.putfield 27, 3) := by decide +kernel
theorem dX8_init_52 : decode cX8_init 52 = .ok (.aload_n 0, 1) := by decide +kernel
theorem dX8_init_53 : decode cX8_init 53 = .ok (.bipush 30, 2) := by decide +kernel
theorem dX8_init_55 : decode cX8_init 55 = .ok (.newarray .int, 2) := by decide +kernel
theorem dX8_init_57 : decode cX8_init 57 = .ok (.putfield 30, 3) := by decide +kernel
theorem dX8_init_60 : decode cX8_init 60 = .ok (.return_, 1) := by decide +kernel
theorem dX8_clear_0 : decode cX8_clear 0 = .ok (.aload_n 0, 1) := by decide +kernel
theorem dX8_clear_1 : decode cX8_clear 1 = .ok (.iconst 0, 1) := by decide +kernel
theorem dX8_clear_2 : decode cX8_clear 2 = .ok (.putfield 33, 3) := by decide +kernel
theorem dX8_clear_5 : decode cX8_clear 5 = .ok (.aload_n 0, 1) := by decide +kernel
theorem dX8_clear_6 : decode cX8_clear 6 = .ok (.iconst 0, 1) := by decide +kernel
theorem dX8_clear_7 : decode cX8_clear 7 = .ok (.putfield 37, 3) := by decide +kernel
theorem dX8_clear_10 : decode cX8_clear 10 = .ok (.aload_n 0, 1) := by decide +kernel
theorem dX8_clear_11 : decode cX8_clear 11 = .ok (.iconst 0, 1) := by decide +kernel
theorem dX8_clear_12 : decode cX8_clear 12 = .ok (.putfield 41, 3) := by decide +kernel
theorem dX8_clear_15 : decode cX8_clear 15 = .ok (.aload_n 0, 1) := by decide +kernel
theorem dX8_clear_16 : decode cX8_clear 16 = .ok (.iconst 0, 1) := by decide +kernel
theorem dX8_clear_17 : decode cX8_clear 17 = .ok (.putfield 44, 3) := by decide +kernel
theorem dX8_clear_20 : decode cX8_clear 20 = .ok (.aload_n 0, 1) := by decide +kernel
theorem dX8_clear_21 : decode cX8_clear 21 = .ok (.iconst 0, 1) := by decide +kernel
theorem dX8_clear_22 : decode cX8_clear 22 = .ok (.putfield 47, 3) := by decide +kernel
theorem dX8_clear_25 : decode cX8_clear 25 = .ok (.aload_n 0, 1) := by decide +kernel
theorem dX8_clear_26 : decode cX8_clear 26 = .ok (.iconst 0, 1) := by decide +kernel
theorem dX8_clear_27 : decode cX8_clear 27 = .ok (.putfield 50, 3) := by decide +kernel
theorem dX8_clear_30 : decode cX8_clear 30 = .ok (.aload_n 0, 1) := by decide +kernel
theorem dX8_clear_31 : decode cX8_clear 31 = .ok (.iconst 0, 1) := by decide +kernel
theorem dX8_clear_32 : decode cX8_clear 32 = .ok (.putfield 53, 3) := by decide +kernel
theorem dX8_clear_35 : decode cX8_clear 35 = .ok (.aload_n 0, 1) := by decide +kernel
theorem dX8_clear_36 : decode cX8_clear 36 = .ok (.iconst 0, 1) := by decide +kernel
theorem dX8_clear_37 : decode cX8_clear 37 = .ok (.putfield 56, 3) := by decide +kernel
theorem dX8_clear_40 : decode cX8_clear 40 = .ok (.aload_n 0, 1) := by decide +kernel
theorem dX8_clear_41 : decode cX8_clear 41 = .ok (.iconst 0, 1) := by decide +kernel
theorem dX8_clear_42 : decode cX8_clear 42 = .ok (.putfield 59, 3) := by decide +kernel
theorem dX8_clear_45 : decode cX8_clear 45 = .ok (.aload_n 0, 1) := by decide +kernel
theorem dX8_clear_46 : decode cX8_clear 46 = .ok (.getfield 15, 3) := by decide +kernel
theorem dX8_clear_49 : decode cX8_clear 49 = .ok (.iconst 5, 1) := by decide +kernel
theorem dX8_clear_50 : decode cX8_clear 50 = .ok (.invokestatic 62, 3) := by decide +kernel
theorem dX8_clear_53 : decode cX8_clear 53 = .ok (.aload_n 0, 1) := by decide +kernel
theorem dX8_clear_54 : decode cX8_clear 54 = .ok (.getfield 24, 3) := by decide +kernel
theorem dX8_clear_57 : decode cX8_clear 57 = .ok (.iconst 0, 1) := by decide +kernel
theorem dX8_clear_58 : decode cX8_clear 58 = .ok (.invokestatic 62, 3) := by decide +kernel
theorem dX8_clear_61 : decode cX8_clear 61 = .ok (.return_, 1) := by decide +kernel
theorem dX8_copyFrom_0 : decode cX8_copyFrom 0 = .ok (.aload_n 0, 1) := by decide +kernel
theorem dX8_copyFrom_1 : decode cX8_copyFrom 1 = .ok (.aload_n 1, 1) := by decide +kernel
theorem dX8_copyFrom_2 : decode cX8_copyFrom 2 = .ok (.getfield 33, 3) := by decide +kernel
theorem dX8_copyFrom_5 : decode cX8_copyFrom 5 = .ok (.putfield 33, 3) := by decide +kernel
theorem dX8_copyFrom_8 : decode cX8_copyFrom 8 = .ok (.aload_n 0, 1) := by decide +kernel
theorem dX8_copyFrom_9 : decode cX8_copyFrom 9 = .ok (.aload_n 1, 1) := by decide +kernel
theorem dX8_copyFrom_10 : decode cX8_copyFrom 10 = .ok (.getfield 37, 3) := by decide +kernel
theorem dX8_copyFrom_13 : decode cX8_copyFrom 13 = .ok (.putfield 37, 3) := by decide +kernel
theorem dX8_copyFrom_16 : decode cX8_copyFrom 16 = .ok (.aload_n 0, 1) := by decide +kernel
theorem dX8_copyFrom_17 : decode cX8_copyFrom 17 = .ok (.aload_n 1, 1) := by decide +kernel
theorem dX8_copyFrom_18 : decode cX8_copyFrom 18 = .ok (.getfield 41, 3) := by decide +kernel
theorem dX8_copyFrom_21 : decode cX8_copyFrom 21 = .ok (.putfield 41, 3) := by decide +kernel
theorem dX8_copyFrom_24 : decode cX8_copyFrom 24 = .ok (.aload_n 0, 1) := by decide +kernel
theorem dX8_copyFrom_25 : decode cX8_copyFrom 25 = .ok (.aload_n 1, 1) := by decide +kernel
theorem dX8_copyFrom_26 : decode cX8_copyFrom 26 = .ok (.getfield 44, 3) := by decide +kernel
theorem dX8_copyFrom_29 : decode cX8_copyFrom 29 = .ok (.putfield 44, 3) := by decide +kernel
theorem dX8_copyFrom_32 : decode cX8_copyFrom 32 = .ok (.aload_n 0, 1) := by decide +kernel
theorem dX8_copyFrom_33 : decode cX8_copyFrom 33 = .ok (.aload_n 1, 1) := by decide +kernel
theorem dX8_copyFrom_34 : decode cX8_copyFrom 34 = .ok (.getfield 47, 3) := by decide +kernel
theorem dX8_copyFrom_37 : decode cX8_copyFrom 37 = .ok (.putfield 47, 3) := by decide +kernel
theorem dX8_copyFrom_40 : decode cX8_copyFrom 40 = .ok (.aload_n 0, 1) := by decide +kernel
theorem dX8_copyFrom_41 : decode cX8_copyFrom 41 = .ok (.aload_n 1, 1) := by decide +kernel
theorem dX8_copyFrom_42 : decode cX8_copyFrom 42 = .ok (.getfield 50, 3) := by decide +kernel
theorem dX8_copyFrom_45 : decode cX8_copyFrom 45 = .ok (.putfield 50, 3) := by decide +kernel
theorem dX8_copyFrom_48 : decode cX8_copyFrom 48 = .ok (.aload_n 0, 1) := by decide +kernel
theorem dX8_copyFrom_49 : decode cX8_copyFrom 49 = .ok (.aload_n 1, 1) := by decide +kernel
theorem dX8_copyFrom_50 : decode cX8_copyFrom 50 = .ok (.getfield 53, 3) := by decide +kernel
theorem dX8_copyFrom_53 : decode cX8_copyFrom 53 = .ok (.putfield 53, 3) := by decide +kernel
theorem dX8_copyFrom_56 : decode cX8_copyFrom 56 = .ok (.aload_n 0, 1) := by decide +kernel
theorem dX8_copyFrom_57 : decode cX8_copyFrom 57 = .ok (.aload_n 1, 1) := by decide +kernel
theorem dX8_copyFrom_58 : decode cX8_copyFrom 58 = .ok (.getfield 56, 3) := by decide +kernel
theorem dX8_copyFrom_61 : decode cX8_copyFrom 61 = .ok (.putfield 56, 3) := by decide +kernel
theorem dX8_copyFrom_64 : decode cX8_copyFrom 64 = .ok (.aload_n 0, 1) := by decide +kernel
theorem dX8_copyFrom_65 : decode cX8_copyFrom 65 = .ok (.aload_n 1, 1) := by decide +kernel
theorem dX8_copyFrom_66 : decode cX8_copyFrom 66 = .ok (.getfield 59, 3) := by decide +kernel
theorem dX8_copyFrom_69 : decode cX8_copyFrom 69 = .ok (.putfield 59, 3) := by decide +kernel
theorem dX8_copyFrom_72 : decode cX8_copyFrom 72 = .ok (.aload_n 1, 1) := by decide +kernel
theorem dX8_copyFrom_73 : decode cX8_copyFrom 73 = .ok (.getfield 9, 3) := by decide +kernel
theorem dX8_copyFrom_76 : decode cX8_copyFrom 76 = .ok (.iconst 0, 1) := by decide +kernel
theorem dX8_copyFrom_77 : decode cX8_copyFrom 77 = .ok (.aload_n 0, 1) := by decide +kernel
theorem dX8_copyFrom_78 : decode cX8_copyFrom 78 = .ok (.getfield 9, 3) := by decide +kernel
theorem dX8_copyFrom_81 : decode cX8_copyFrom 81 = .ok (.iconst 0, 1) := by decide +kernel
theorem dX8_copyFrom_82 : decode cX8_copyFrom 82 = .ok (.bipush 7, 2) := by decide +kernel
theorem dX8_copyFrom_84 : decode cX8_copyFrom 84 = .ok (.invokestatic 68, 3) := by decide +kernel
theorem dX8_copyFrom_87 : decode cX8_copyFrom 87 = .ok (.aload_n 1, 1) := by decide +kernel
theorem dX8_copyFrom_88 : decode cX8_copyFrom 88 = .ok (.getfield 15, 3) := by decide +kernel
theorem dX8_copyFrom_91 : decode cX8_copyFrom 91 = .ok (.iconst 0, 1) := by decide +kernel
theorem dX8_copyFrom_92 : decode cX8_copyFrom 92 = .ok (.aload_n 0, 1) := by decide +kernel
theorem dX8_copyFrom_93 : decode cX8_copyFrom 93 = .ok (.getfield 15, 3) := by decide +kernel
theorem dX8_copyFrom_96 : decode cX8_copyFrom 96 = .ok (.iconst 0, 1) := by decide +kernel
theorem dX8_copyFrom_97 : decode cX8_copyFrom 97 = .ok (.bipush 49, 2) := by decide +kernel
theorem dX8_copyFrom_99 : decode cX8_copyFrom 99 = .ok (.invokestatic 68, 3) := by decide +kernel
theorem dX8_copyFrom_102 : decode cX8_copyFrom 102 = .ok (.aload_n 1, 1) := by decide +kernel
theorem dX8_copyFrom_103 : decode cX8_copyFrom 103 = .ok (.getfield 18, 3) := by decide +kernel
theorem dX8_copyFrom_106 : decode cX8_copyFrom 106 = .ok (.iconst 0, 1) := by decide +kernel
theorem dX8_copyFrom_107 : decode cX8_copyFrom 107 = .ok (.aload_n 0, 1) := by decide +kernel
theorem dX8_copyFrom_108 : decode cX8_copyFrom 108 = .ok (.getfield 18, 3) := by decide +kernel
theorem dX8_copyFrom_111 : decode cX8_copyFrom 111 = .ok (.iconst 0, 1) := by decide +kernel
theorem dX8_copyFrom_112 : decode cX8_copyFrom 112 = .ok (.bipush 10, 2) := by decide +kernel
theorem dX8_copyFrom_114 : decode cX8_copyFrom 114 = .ok (.invokestatic 68, 3) := by decide +kernel
theorem dX8_copyFrom_117 : decode cX8_copyFrom 117 = .ok (.aload_n 1, 1) := by decide +kernel
theorem dX8_copyFrom_118 : decode cX8_copyFrom 118 = .ok (.getfield 21, 3) := by decide +kernel
theorem dX8_copyFrom_121 : decode cX8_copyFrom 121 = .ok (.iconst 0, 1) := by decide +kernel
theorem dX8_copyFrom_122 : decode cX8_copyFrom 122 = .ok (.aload_n 0, 1) := by decide +kernel
theorem dX8_copyFrom_123 : decode cX8_copyFrom 123 = .ok (.getfield 21, 3) := by decide +kernel
theorem dX8_copyFrom_126 : decode cX8_copyFrom 126 = .ok (.iconst 0, 1) := by decide +kernel
theorem dX8_copyFrom_127 : decode cX8_copyFrom 127 = .ok (.bipush 10, 2) := by decide +kernel
theorem dX8_copyFrom_129 : decode cX8_copyFrom 129 = .ok (.invokestatic 68, 3) := by decide +kernel
theorem dX8_copyFrom_132 : decode cX8_copyFrom 132 = .ok (.aload_n 1, 1) := by decide +kernel
theorem dX8_copyFrom_133 : decode cX8_copyFrom 133 = .ok (.getfield 24, 3) := by decide +kernel
theorem dX8_copyFrom_136 : decode cX8_copyFrom 136 = .ok (.iconst 0, 1) := by decide +kernel
theorem dX8_copyFrom_137 : decode cX8_copyFrom 137 = .ok (.aload_n 0, 1) := by decide +kernel
theorem dX8_copyFrom_138 : decode cX8_copyFrom 138 = .ok (.getfield 24, 3) := by decide +kernel
theorem dX8_copyFrom_141 : decode cX8_copyFrom 141 = .ok (.iconst 0, 1) := by decide +kernel
theorem dX8_copyFrom_142 : decode cX8_copyFrom 142 = .ok (.bipush 7, 2) := by decide +kernel
theorem dX8_copyFrom_144 : decode cX8_copyFrom 144 = .ok (.invokestatic 68, 3) := by decide +kernel
theorem dX8_copyFrom_147 : decode cX8_copyFrom 147 = .ok (.aload_n 1, 1) := by decide +kernel
theorem dX8_copyFrom_148 : decode cX8_copyFrom 148 = .ok (.getfield 27, 3) := by decide +kernel
theorem dX8_copyFrom_151 : decode cX8_copyFrom 151 = .ok (.iconst 0, 1) := by decide +kernel
theorem dX8_copyFrom_152 : decode cX8_copyFrom 152 = .ok (.aload_n 0, 1) := by decide +kernel
theorem dX8_copyFrom_153 : decode cX8_copyFrom 153 = .ok (.getfield 27, 3) := by decide +kernel
theorem dX8_copyFrom_156 : decode cX8_copyFrom 156 = .ok (.iconst 0, 1) := by decide +kernel
theorem dX8_copyFrom_157 : decode cX8_copyFrom 157 = .ok (.bipush 40, 2) := by decide +kernel
theorem dX8_copyFrom_159 : decode cX8_copyFrom 159 = .ok (.invokestatic 68, 3) := by decide +kernel
theorem dX8_copyFrom_162 : decode cX8_copyFrom 162 = .ok (.aload_n 1, 1) := by decide +kernel
theorem dX8_copyFrom_163 : decode cX8_copyFrom 163 = .ok (.getfield 30, 3) := by decide +kernel
theorem dX8_copyFrom_166 : decode cX8_copyFrom 166 = .ok (.iconst 0, 1) := by decide +kernel
theorem dX8_copyFrom_167 : decode cX8_copyFrom 167 = .ok (.aload_n 0, 1) := by decide +kernel
theorem dX8_copyFrom_168 : decode cX8_copyFrom 168 = .ok (.getfield 30, 3) := by decide +kernel
theorem dX8_copyFrom_171 : decode cX8_copyFrom 171 = .ok (.iconst 0, 1) := by decide +kernel
theorem dX8_copyFrom_172 : decode cX8_copyFrom 172 = .ok (.bipush 30, 2) := by decide +kernel
theorem dX8_copyFrom_174 : decode cX8_copyFrom 174 = .ok (.invokestatic 68, 3) := by decide +kernel
theorem dX8_copyFrom_177 : decode cX8_copyFrom 177 = .ok (.return_, 1) := by decide +kernel
theorem dX8_hasPerson_0 : decode cX8_hasPerson 0 = .ok (.iload_n 1, 1) := by decide +kernel
theorem dX8_hasPerson_1 : decode cX8_hasPerson 1 = .ok (.ifCond .lt 15, 3) := by decide +kernel
theorem dX8_hasPerson_4 : decode cX8_hasPerson 4 = .ok (.iload_n 1, 1) := by decide +kernel
theorem dX8_hasPerson_5 : decode cX8_hasPerson 5 = .ok (.aload_n 0, 1) := by decide +kernel
theorem dX8_hasPerson_6 : decode cX8_hasPerson 6 = .ok (.getfield 44, 3) := by decide +kernel
theorem dX8_hasPerson_9 : decode cX8_hasPerson 9 = .ok (.if_icmp .ge 7, 3) := by decide +kernel
theorem dX8_hasPerson_12 : decode cX8_hasPerson 12 = .ok (.iconst 1, 1) := by decide +kernel
theorem dX8_hasPerson_13 : decode cX8_hasPerson 13 = .ok (.goto 4, 3) := by decide +kernel
theorem dX8_hasPerson_16 : decode cX8_hasPerson 16 = .ok (.iconst 0, 1) := by decide +kernel
theorem dX8_hasPerson_17 : decode cX8_hasPerson 17 = .ok (.ireturn, 1) := by decide +kernel
theorem dX8_hasTwo_0 : decode cX8_hasTwo 0 = .ok (.iload_n 1, 1) := by decide +kernel
theorem dX8_hasTwo_1 : decode cX8_hasTwo 1 = .ok (.iload_n 2, 1) := by decide +kernel
theorem dX8_hasTwo_2 : decode cX8_hasTwo 2 = .ok (.if_icmp .eq 23, 3) := by decide +kernel
theorem dX8_hasTwo_5 : decode cX8_hasTwo 5 = .ok (.aload_n 0, 1) := by decide +kernel
theorem dX8_hasTwo_6 : decode cX8_hasTwo 6 = .ok (.iload_n 1, 1) := by decide +kernel
theorem dX8_hasTwo_7 : decode cX8_hasTwo 7 = .ok (.invokevirtual 74, 3) := by decide +kernel
theorem dX8_hasTwo_10 : decode cX8_hasTwo 10 = .ok (.ifCond .eq 15, 3) := by decide +kernel
theorem dX8_hasTwo_13 : decode cX8_hasTwo 13 = .ok (.aload_n 0, 1) := by decide +kernel
theorem dX8_hasTwo_14 : decode cX8_hasTwo 14 = .ok (.iload_n 2, 1) := by decide +kernel
theorem dX8_hasTwo_15 : decode cX8_hasTwo 15 = .ok (.invokevirtual 74, 3) := by decide +kernel
theorem dX8_hasTwo_18 : decode cX8_hasTwo 18 = .ok (.ifCond .eq 7, 3) := by decide +kernel
theorem dX8_hasTwo_21 : decode cX8_hasTwo 21 = .ok (.iconst 1, 1) := by decide +kernel
theorem dX8_hasTwo_22 : decode cX8_hasTwo 22 = .ok (.goto 4, 3) := by decide +kernel
theorem dX8_hasTwo_25 : decode cX8_hasTwo 25 = .ok (.iconst 0, 1) := by decide +kernel
theorem dX8_hasTwo_26 : decode cX8_hasTwo 26 = .ok (.ireturn, 1) := by decide +kernel
theorem dX8_hasFact_0 : decode cX8_hasFact 0 = .ok (.iload_n 1, 1) := by decide +kernel
theorem dX8_hasFact_1 : decode cX8_hasFact 1 = .ok (.ifCond .lt 15, 3) := by decide +kernel
theorem dX8_hasFact_4 : decode cX8_hasFact 4 = .ok (.iload_n 1, 1) := by decide +kernel
theorem dX8_hasFact_5 : decode cX8_hasFact 5 = .ok (.aload_n 0, 1) := by decide +kernel
theorem dX8_hasFact_6 : decode cX8_hasFact 6 = .ok (.getfield 37, 3) := by decide +kernel
theorem dX8_hasFact_9 : decode cX8_hasFact 9 = .ok (.if_icmp .ge 7, 3) := by decide +kernel
theorem dX8_hasFact_12 : decode cX8_hasFact 12 = .ok (.iconst 1, 1) := by decide +kernel
theorem dX8_hasFact_13 : decode cX8_hasFact 13 = .ok (.goto 4, 3) := by decide +kernel
theorem dX8_hasFact_16 : decode cX8_hasFact 16 = .ok (.iconst 0, 1) := by decide +kernel
theorem dX8_hasFact_17 : decode cX8_hasFact 17 = .ok (.ireturn, 1) := by decide +kernel
theorem dX8_hasStreet_0 : decode cX8_hasStreet 0 = .ok (.aload_n 0, 1) := by decide +kernel
theorem dX8_hasStreet_1 : decode cX8_hasStreet 1 = .ok (.iload_n 1, 1) := by decide +kernel
theorem dX8_hasStreet_2 : decode cX8_hasStreet 2 = .ok (.iload_n 2, 1) := by decide +kernel
theorem dX8_hasStreet_3 : decode cX8_hasStreet 3 = .ok (.invokevirtual 78, 3) := by decide +kernel
theorem dX8_hasStreet_6 : decode cX8_hasStreet 6 = .ok (.ifCond .eq 21, 3) := by decide +kernel
theorem dX8_hasStreet_9 : decode cX8_hasStreet 9 = .ok (.aload_n 0, 1) := by decide +kernel
theorem dX8_hasStreet_10 : decode cX8_hasStreet 10 = .ok (.getfield 24, 3) := by decide +kernel
theorem dX8_hasStreet_13 : decode cX8_hasStreet 13 = .ok (.iload_n 1, 1) := by decide +kernel
theorem dX8_hasStreet_14 : decode cX8_hasStreet 14 = .ok (.iaload, 1) := by decide +kernel
theorem dX8_hasStreet_15 : decode cX8_hasStreet 15 = .ok (.iload_n 2, 1) := by decide +kernel
theorem dX8_hasStreet_16 : decode cX8_hasStreet 16 = .ok (.invokestatic 82, 3) := by decide +kernel
theorem dX8_hasStreet_19 : decode cX8_hasStreet 19 = .ok (.iconst 1, 1) := by decide +kernel
theorem dX8_hasStreet_20 : decode cX8_hasStreet 20 = .ok (.if_icmp .ne 7, 3) := by decide +kernel
theorem dX8_hasStreet_23 : decode cX8_hasStreet 23 = .ok (.iconst 1, 1) := by decide +kernel
theorem dX8_hasStreet_24 : decode cX8_hasStreet 24 = .ok (.goto 4, 3) := by decide +kernel
theorem dX8_hasStreet_27 : decode cX8_hasStreet 27 = .ok (.iconst 0, 1) := by decide +kernel
theorem dX8_hasStreet_28 : decode cX8_hasStreet 28 = .ok (.ireturn, 1) := by decide +kernel
theorem dX8_addStreet_0 : decode cX8_addStreet 0 = .ok (.aload_n 0, 1) := by decide +kernel
theorem dX8_addStreet_1 : decode cX8_addStreet 1 = .ok (.getfield 47, 3) := by decide +kernel
theorem dX8_addStreet_4 : decode cX8_addStreet 4 = .ok (.bipush 10, 2) := by decide +kernel
theorem dX8_addStreet_6 : decode cX8_addStreet 6 = .ok (.if_icmp .ge 57, 3) := by decide +kernel
theorem dX8_addStreet_9 : decode cX8_addStreet 9 = .ok (.aload_n 0, 1) := by decide +kernel
theorem dX8_addStreet_10 : decode cX8_addStreet 10 = .ok (.getfield 18, 3) := by decide +kernel
theorem dX8_addStreet_13 : decode cX8_addStreet 13 = .ok (.aload_n 0, 1) := by decide +kernel
theorem dX8_addStreet_14 : decode cX8_addStreet 14 = .ok (.getfield 47, 3) := by decide +kernel
theorem dX8_addStreet_17 : decode cX8_addStreet 17 = .ok (.iload_n 1, 1) := by decide +kernel
theorem dX8_addStreet_18 : decode cX8_addStreet 18 = .ok (.iastore, 1) := by decide +kernel
theorem dX8_addStreet_19 : decode cX8_addStreet 19 = .ok (.aload_n 0, 1) := by decide +kernel
theorem dX8_addStreet_20 : decode cX8_addStreet 20 = .ok (.getfield 21, 3) := by decide +kernel
theorem dX8_addStreet_23 : decode cX8_addStreet 23 = .ok (.aload_n 0, 1) := by decide +kernel
theorem dX8_addStreet_24 : decode cX8_addStreet 24 = .ok (.getfield 47, 3) := by decide +kernel
theorem dX8_addStreet_27 : decode cX8_addStreet 27 = .ok (.iload_n 2, 1) := by decide +kernel
theorem dX8_addStreet_28 : decode cX8_addStreet 28 = .ok (.iastore, 1) := by decide +kernel
theorem dX8_addStreet_29 : decode cX8_addStreet 29 = .ok (.aload_n 0, 1) := by decide +kernel
theorem dX8_addStreet_30 : decode cX8_addStreet 30 = .ok (.dup, 1) := by decide +kernel
theorem dX8_addStreet_31 : decode cX8_addStreet 31 = .ok (.getfield 47, 3) := by decide +kernel
theorem dX8_addStreet_34 : decode cX8_addStreet 34 = .ok (.iconst 1, 1) := by decide +kernel
theorem dX8_addStreet_35 : decode cX8_addStreet 35 = .ok (.iadd, 1) := by decide +kernel
theorem dX8_addStreet_36 : decode cX8_addStreet 36 = .ok (.putfield 47, 3) := by decide +kernel
theorem dX8_addStreet_39 : decode cX8_addStreet 39 = .ok (.aload_n 0, 1) := by decide +kernel
theorem dX8_addStreet_40 : decode cX8_addStreet 40 = .ok (.getfield 24, 3) := by decide +kernel
theorem dX8_addStreet_43 : decode cX8_addStreet 43 = .ok (.iload_n 1, 1) := by decide +kernel
theorem dX8_addStreet_44 : decode cX8_addStreet 44 = .ok (.dup2, 1) := by decide +kernel
theorem dX8_addStreet_45 : decode cX8_addStreet 45 = .ok (.iaload, 1) := by decide +kernel
theorem dX8_addStreet_46 : decode cX8_addStreet 46 = .ok (.iconst 1, 1) := by decide +kernel
theorem dX8_addStreet_47 : decode cX8_addStreet 47 = .ok (.iload_n 2, 1) := by decide +kernel
theorem dX8_addStreet_48 : decode cX8_addStreet 48 = .ok (.ishl, 1) := by decide +kernel
theorem dX8_addStreet_49 : decode cX8_addStreet 49 = .ok (.ior, 1) := by decide +kernel
theorem dX8_addStreet_50 : decode cX8_addStreet 50 = .ok (.iastore, 1) := by decide +kernel
theorem dX8_addStreet_51 : decode cX8_addStreet 51 = .ok (.aload_n 0, 1) := by decide +kernel
theorem dX8_addStreet_52 : decode cX8_addStreet 52 = .ok (.getfield 24, 3) := by decide +kernel
theorem dX8_addStreet_55 : decode cX8_addStreet 55 = .ok (.iload_n 2, 1) := by decide +kernel
theorem dX8_addStreet_56 : decode cX8_addStreet 56 = .ok (.dup2, 1) := by decide +kernel
theorem dX8_addStreet_57 : decode cX8_addStreet 57 = .ok (.iaload, 1) := by decide +kernel
theorem dX8_addStreet_58 : decode cX8_addStreet 58 = .ok (.iconst 1, 1) := by decide +kernel
theorem dX8_addStreet_59 : decode cX8_addStreet 59 = .ok (.iload_n 1, 1) := by decide +kernel
theorem dX8_addStreet_60 : decode cX8_addStreet 60 = .ok (.ishl, 1) := by decide +kernel
theorem dX8_addStreet_61 : decode cX8_addStreet 61 = .ok (.ior, 1) := by decide +kernel
theorem dX8_addStreet_62 : decode cX8_addStreet 62 = .ok (.iastore, 1) := by decide +kernel
theorem dX8_addStreet_63 : decode cX8_addStreet 63 = .ok (.return_, 1) := by decide +kernel
theorem dX8_addIf_0 : decode cX8_addIf 0 = .ok (.aload_n 0, 1) := by decide +kernel
theorem dX8_addIf_1 : decode cX8_addIf 1 = .ok (.getfield 50, 3) := by decide +kernel
theorem dX8_addIf_4 : decode cX8_addIf 4 = .ok (.bipush 10, 2) := by decide +kernel
theorem dX8_addIf_6 : decode cX8_addIf 6 = .ok (.if_icmp .ge 68, 3) := by decide +kernel
theorem dX8_addIf_9 : decode cX8_addIf 9 = .ok (.aload_n 0, 1) := by decide +kernel
theorem dX8_addIf_10 : decode cX8_addIf 10 = .ok (.getfield 27, 3) := by decide +kernel
theorem dX8_addIf_13 : decode cX8_addIf 13 = .ok (.iconst 4, 1) := by decide +kernel
theorem dX8_addIf_14 : decode cX8_addIf 14 = .ok (.aload_n 0, 1) := by decide +kernel
theorem dX8_addIf_15 : decode cX8_addIf 15 = .ok (.getfield 50, 3) := by decide +kernel
theorem dX8_addIf_18 : decode cX8_addIf 18 = .ok (.imul, 1) := by decide +kernel
theorem dX8_addIf_19 : decode cX8_addIf 19 = .ok (.iload_n 1, 1) := by decide +kernel
theorem dX8_addIf_20 : decode cX8_addIf 20 = .ok (.iastore, 1) := by decide +kernel
theorem dX8_addIf_21 : decode cX8_addIf 21 = .ok (.aload_n 0, 1) := by decide +kernel
theorem dX8_addIf_22 : decode cX8_addIf 22 = .ok (.getfield 27, 3) := by decide +kernel
theorem dX8_addIf_25 : decode cX8_addIf 25 = .ok (.iconst 4, 1) := by decide +kernel
theorem dX8_addIf_26 : decode cX8_addIf 26 = .ok (.aload_n 0, 1) := by decide +kernel
theorem dX8_addIf_27 : decode cX8_addIf 27 = .ok (.getfield 50, 3) := by decide +kernel
theorem dX8_addIf_30 : decode cX8_addIf 30 = .ok (.imul, 1) := by decide +kernel
theorem dX8_addIf_31 : decode cX8_addIf 31 = .ok (.iconst 1, 1) := by decide +kernel
theorem dX8_addIf_32 : decode cX8_addIf 32 = .ok (.iadd, 1) := by decide +kernel
theorem dX8_addIf_33 : decode cX8_addIf 33 = .ok (.iload_n 2, 1) := by decide +kernel
theorem dX8_addIf_34 : decode cX8_addIf 34 = .ok (.iastore, 1) := by decide +kernel
theorem dX8_addIf_35 : decode cX8_addIf 35 = .ok (.aload_n 0, 1) := by decide +kernel
theorem dX8_addIf_36 : decode cX8_addIf 36 = .ok (.getfield 27, 3) := by decide +kernel
theorem dX8_addIf_39 : decode cX8_addIf 39 = .ok (.iconst 4, 1) := by decide +kernel
theorem dX8_addIf_40 : decode cX8_addIf 40 = .ok (.aload_n 0, 1) := by decide +kernel
theorem dX8_addIf_41 : decode cX8_addIf 41 = .ok (.getfield 50, 3) := by decide +kernel
theorem dX8_addIf_44 : decode cX8_addIf 44 = .ok (.imul, 1) := by decide +kernel
theorem dX8_addIf_45 : decode cX8_addIf 45 = .ok (.iconst 2, 1) := by decide +kernel
theorem dX8_addIf_46 : decode cX8_addIf 46 = .ok (.iadd, 1) := by decide +kernel
theorem dX8_addIf_47 : decode cX8_addIf 47 = .ok (.iload_n 3, 1) := by decide +kernel
theorem dX8_addIf_48 : decode cX8_addIf 48 = .ok (.iastore, 1) := by decide +kernel
theorem dX8_addIf_49 : decode cX8_addIf 49 = .ok (.aload_n 0, 1) := by decide +kernel
theorem dX8_addIf_50 : decode cX8_addIf 50 = .ok (.getfield 27, 3) := by decide +kernel
theorem dX8_addIf_53 : decode cX8_addIf 53 = .ok (.iconst 4, 1) := by decide +kernel
theorem dX8_addIf_54 : decode cX8_addIf 54 = .ok (.aload_n 0, 1) := by decide +kernel
theorem dX8_addIf_55 : decode cX8_addIf 55 = .ok (.getfield 50, 3) := by decide +kernel
theorem dX8_addIf_58 : decode cX8_addIf 58 = .ok (.imul, 1) := by decide +kernel
theorem dX8_addIf_59 : decode cX8_addIf 59 = .ok (.iconst 3, 1) := by decide +kernel
theorem dX8_addIf_60 : decode cX8_addIf 60 = .ok (.iadd, 1) := by decide +kernel
theorem dX8_addIf_61 : decode cX8_addIf 61 = .ok (.iload 4, 2) := by decide +kernel
theorem dX8_addIf_63 : decode cX8_addIf 63 = .ok (.iastore, 1) := by decide +kernel
theorem dX8_addIf_64 : decode cX8_addIf 64 = .ok (.aload_n 0, 1) := by decide +kernel
theorem dX8_addIf_65 : decode cX8_addIf 65 = .ok (.dup, 1) := by decide +kernel
theorem dX8_addIf_66 : decode cX8_addIf 66 = .ok (.getfield 50, 3) := by decide +kernel
theorem dX8_addIf_69 : decode cX8_addIf 69 = .ok (.iconst 1, 1) := by decide +kernel
theorem dX8_addIf_70 : decode cX8_addIf 70 = .ok (.iadd, 1) := by decide +kernel
theorem dX8_addIf_71 : decode cX8_addIf 71 = .ok (.putfield 50, 3) := by decide +kernel
theorem dX8_addIf_74 : decode cX8_addIf 74 = .ok (.return_, 1) := by decide +kernel
theorem dX8_addHarm_0 : decode cX8_addHarm 0 = .ok (.aload_n 0, 1) := by decide +kernel
theorem dX8_addHarm_1 : decode cX8_addHarm 1 = .ok (.getfield 53, 3) := by decide +kernel
theorem dX8_addHarm_4 : decode cX8_addHarm 4 = .ok (.bipush 10, 2) := by decide +kernel
theorem dX8_addHarm_6 : decode cX8_addHarm 6 = .ok (.if_icmp .ge 53, 3) := by decide +kernel
theorem dX8_addHarm_9 : decode cX8_addHarm 9 = .ok (.aload_n 0, 1) := by decide +kernel
theorem dX8_addHarm_10 : decode cX8_addHarm 10 = .ok (.getfield 30, 3) := by decide +kernel
theorem dX8_addHarm_13 : decode cX8_addHarm 13 = .ok (.iconst 3, 1) := by decide +kernel
theorem dX8_addHarm_14 : decode cX8_addHarm 14 = .ok (.aload_n 0, 1) := by decide +kernel
theorem dX8_addHarm_15 : decode cX8_addHarm 15 = .ok (.getfield 53, 3) := by decide +kernel
theorem dX8_addHarm_18 : decode cX8_addHarm 18 = .ok (.imul, 1) := by decide +kernel
theorem dX8_addHarm_19 : decode cX8_addHarm 19 = .ok (.iload_n 1, 1) := by decide +kernel
theorem dX8_addHarm_20 : decode cX8_addHarm 20 = .ok (.iastore, 1) := by decide +kernel
theorem dX8_addHarm_21 : decode cX8_addHarm 21 = .ok (.aload_n 0, 1) := by decide +kernel
theorem dX8_addHarm_22 : decode cX8_addHarm 22 = .ok (.getfield 30, 3) := by decide +kernel
theorem dX8_addHarm_25 : decode cX8_addHarm 25 = .ok (.iconst 3, 1) := by decide +kernel
theorem dX8_addHarm_26 : decode cX8_addHarm 26 = .ok (.aload_n 0, 1) := by decide +kernel
theorem dX8_addHarm_27 : decode cX8_addHarm 27 = .ok (.getfield 53, 3) := by decide +kernel
theorem dX8_addHarm_30 : decode cX8_addHarm 30 = .ok (.imul, 1) := by decide +kernel
theorem dX8_addHarm_31 : decode cX8_addHarm 31 = .ok (.iconst 1, 1) := by decide +kernel
theorem dX8_addHarm_32 : decode cX8_addHarm 32 = .ok (.iadd, 1) := by decide +kernel
theorem dX8_addHarm_33 : decode cX8_addHarm 33 = .ok (.iload_n 2, 1) := by decide +kernel
theorem dX8_addHarm_34 : decode cX8_addHarm 34 = .ok (.iastore, 1) := by decide +kernel
theorem dX8_addHarm_35 : decode cX8_addHarm 35 = .ok (.aload_n 0, 1) := by decide +kernel
theorem dX8_addHarm_36 : decode cX8_addHarm 36 = .ok (.getfield 30, 3) := by decide +kernel
theorem dX8_addHarm_39 : decode cX8_addHarm 39 = .ok (.iconst 3, 1) := by decide +kernel
theorem dX8_addHarm_40 : decode cX8_addHarm 40 = .ok (.aload_n 0, 1) := by decide +kernel
theorem dX8_addHarm_41 : decode cX8_addHarm 41 = .ok (.getfield 53, 3) := by decide +kernel
theorem dX8_addHarm_44 : decode cX8_addHarm 44 = .ok (.imul, 1) := by decide +kernel
theorem dX8_addHarm_45 : decode cX8_addHarm 45 = .ok (.iconst 2, 1) := by decide +kernel
theorem dX8_addHarm_46 : decode cX8_addHarm 46 = .ok (.iadd, 1) := by decide +kernel
theorem dX8_addHarm_47 : decode cX8_addHarm 47 = .ok (.iload_n 3, 1) := by decide +kernel
theorem dX8_addHarm_48 : decode cX8_addHarm 48 = .ok (.iastore, 1) := by decide +kernel
theorem dX8_addHarm_49 : decode cX8_addHarm 49 = .ok (.aload_n 0, 1) := by decide +kernel
theorem dX8_addHarm_50 : decode cX8_addHarm 50 = .ok (.dup, 1) := by decide +kernel
theorem dX8_addHarm_51 : decode cX8_addHarm 51 = .ok (.getfield 53, 3) := by decide +kernel
theorem dX8_addHarm_54 : decode cX8_addHarm 54 = .ok (.iconst 1, 1) := by decide +kernel
theorem dX8_addHarm_55 : decode cX8_addHarm 55 = .ok (.iadd, 1) := by decide +kernel
theorem dX8_addHarm_56 : decode cX8_addHarm 56 = .ok (.putfield 53, 3) := by decide +kernel
theorem dX8_addHarm_59 : decode cX8_addHarm 59 = .ok (.return_, 1) := by decide +kernel
theorem dX8_addWhatFollows_0 : decode cX8_addWhatFollows 0 = .ok (.iconst 0, 1) := by decide +kernel
theorem dX8_addWhatFollows_1 : decode cX8_addWhatFollows 1 = .ok (.istore_n 3, 1) := by decide +kernel
theorem dX8_addWhatFollows_2 : decode cX8_addWhatFollows 2 = .ok (.iload_n 3, 1) := by decide +kernel
theorem dX8_addWhatFollows_3 : decode cX8_addWhatFollows 3 = .ok (.bipush 8, 2) := by decide +kernel
theorem dX8_addWhatFollows_5 : decode cX8_addWhatFollows 5 = .ok (.if_icmp .ge 50, 3) := by decide +kernel
theorem dX8_addWhatFollows_8 : decode cX8_addWhatFollows 8 = .ok (.aload_n 0, 1) := by decide +kernel
theorem dX8_addWhatFollows_9 : decode cX8_addWhatFollows 9 = .ok (.aload_n 1, 1) := by decide +kernel
theorem dX8_addWhatFollows_10 : decode cX8_addWhatFollows 10 = .ok (.iload_n 2, 1) := by decide +kernel
theorem dX8_addWhatFollows_11 : decode cX8_addWhatFollows 11 = .ok (.invokevirtual 86, 3) := by decide +kernel
theorem dX8_addWhatFollows_14 : decode cX8_addWhatFollows 14 = .ok (.istore 4, 2) := by decide +kernel
theorem dX8_addWhatFollows_16 : decode cX8_addWhatFollows 16 = .ok (.iload 4, 2) := by decide +kernel
theorem dX8_addWhatFollows_18 : decode cX8_addWhatFollows 18 = .ok (.iconst (-1), 1) := by decide +kernel
theorem dX8_addWhatFollows_19 : decode cX8_addWhatFollows 19 = .ok (.if_icmp .ne 4, 3) := by decide +kernel
theorem dX8_addWhatFollows_22 : decode cX8_addWhatFollows 22 = .ok (.return_, 1) := by decide +kernel
theorem dX8_addWhatFollows_23 : decode cX8_addWhatFollows 23 = .ok (.aload_n 1, 1) := by decide +kernel
theorem dX8_addWhatFollows_24 : decode cX8_addWhatFollows 24 = .ok (.iload_n 2, 1) := by decide +kernel
theorem dX8_addWhatFollows_25 : decode cX8_addWhatFollows 25 = .ok (.aload_n 0, 1) := by decide +kernel
theorem dX8_addWhatFollows_26 : decode cX8_addWhatFollows 26 = .ok (.getfield 27, 3) := by decide +kernel
theorem dX8_addWhatFollows_29 : decode cX8_addWhatFollows 29 = .ok (.iconst 4, 1) := by decide +kernel
theorem dX8_addWhatFollows_30 : decode cX8_addWhatFollows 30 = .ok (.iload 4, 2) := by decide +kernel
theorem dX8_addWhatFollows_32 : decode cX8_addWhatFollows 32 = .ok (.imul, 1) := by decide +kernel
theorem dX8_addWhatFollows_33 : decode cX8_addWhatFollows 33 = .ok (.iconst 2, 1) := by decide +kernel
theorem dX8_addWhatFollows_34 : decode cX8_addWhatFollows 34 = .ok (.iadd, 1) := by decide +kernel
theorem dX8_addWhatFollows_35 : decode cX8_addWhatFollows 35 = .ok (.iaload, 1) := by decide +kernel
theorem dX8_addWhatFollows_36 : decode cX8_addWhatFollows 36 = .ok (.iadd, 1) := by decide +kernel
theorem dX8_addWhatFollows_37 : decode cX8_addWhatFollows 37 = .ok (.aload_n 0, 1) := by decide +kernel
theorem dX8_addWhatFollows_38 : decode cX8_addWhatFollows 38 = .ok (.getfield 27, 3) := by decide +kernel
theorem dX8_addWhatFollows_41 : decode cX8_addWhatFollows 41 = .ok (.iconst 4, 1) := by decide +kernel
theorem dX8_addWhatFollows_42 : decode cX8_addWhatFollows 42 = .ok (.iload 4, 2) := by decide +kernel
theorem dX8_addWhatFollows_44 : decode cX8_addWhatFollows 44 = .ok (.imul, 1) := by decide +kernel
theorem dX8_addWhatFollows_45 : decode cX8_addWhatFollows 45 = .ok (.iconst 3, 1) := by decide +kernel
theorem dX8_addWhatFollows_46 : decode cX8_addWhatFollows 46 = .ok (.iadd, 1) := by decide +kernel
theorem dX8_addWhatFollows_47 : decode cX8_addWhatFollows 47 = .ok (.iaload, 1) := by decide +kernel
theorem dX8_addWhatFollows_48 : decode cX8_addWhatFollows 48 = .ok (.iastore, 1) := by decide +kernel
theorem dX8_addWhatFollows_49 : decode cX8_addWhatFollows 49 = .ok (.iinc 3 1, 3) := by decide +kernel
theorem dX8_addWhatFollows_52 : decode cX8_addWhatFollows 52 = .ok (.goto (-50), 3) := by decide +kernel
theorem dX8_addWhatFollows_55 : decode cX8_addWhatFollows 55 = .ok (.return_, 1) := by decide +kernel
theorem dX8_firstFollowing_0 : decode cX8_firstFollowing 0 = .ok (.iconst 0, 1) := by decide +kernel
theorem dX8_firstFollowing_1 : decode cX8_firstFollowing 1 = .ok (.istore_n 3, 1) := by decide +kernel
theorem dX8_firstFollowing_2 : decode cX8_firstFollowing 2 = .ok (.iload_n 3, 1) := by decide +kernel
theorem dX8_firstFollowing_3 : decode cX8_firstFollowing 3 = .ok (.aload_n 0, 1) := by decide +kernel
theorem dX8_firstFollowing_4 : decode cX8_firstFollowing 4 = .ok (.getfield 50, 3) := by decide +kernel
theorem dX8_firstFollowing_7 : decode cX8_firstFollowing 7 = .ok (.if_icmp .ge 66, 3) := by decide +kernel
theorem dX8_firstFollowing_10 : decode cX8_firstFollowing 10 = .ok (.aload_n 1, 1) := by decide +kernel
theorem dX8_firstFollowing_11 : decode cX8_firstFollowing 11 = .ok (.iload_n 2, 1) := by decide +kernel
theorem dX8_firstFollowing_12 : decode cX8_firstFollowing 12 = .ok (.aload_n 0, 1) := by decide +kernel
theorem dX8_firstFollowing_13 : decode cX8_firstFollowing 13 = .ok (.getfield 27, 3) := by decide +kernel
theorem dX8_firstFollowing_16 : decode cX8_firstFollowing 16 = .ok (.iconst 4, 1) := by decide +kernel
theorem dX8_firstFollowing_17 : decode cX8_firstFollowing 17 = .ok (.iload_n 3, 1) := by decide +kernel
theorem dX8_firstFollowing_18 : decode cX8_firstFollowing 18 = .ok (.imul, 1) := by decide +kernel
theorem dX8_firstFollowing_19 : decode cX8_firstFollowing 19 = .ok (.iaload, 1) := by decide +kernel
theorem dX8_firstFollowing_20 : decode cX8_firstFollowing 20 = .ok (.iadd, 1) := by decide +kernel
theorem dX8_firstFollowing_21 : decode cX8_firstFollowing 21 = .ok (.iaload, 1) := by decide +kernel
theorem dX8_firstFollowing_22 : decode cX8_firstFollowing 22 = .ok (.aload_n 0, 1) := by decide +kernel
theorem dX8_firstFollowing_23 : decode cX8_firstFollowing 23 = .ok (.getfield 27, 3) := by decide +kernel
theorem dX8_firstFollowing_26 : decode cX8_firstFollowing 26 = .ok (.iconst 4, 1) := by decide +kernel
theorem dX8_firstFollowing_27 : decode cX8_firstFollowing 27 = .ok (.iload_n 3, 1) := by decide +kernel
theorem dX8_firstFollowing_28 : decode cX8_firstFollowing 28 = .ok (.imul, 1) := by decide +kernel
theorem dX8_firstFollowing_29 : decode cX8_firstFollowing 29 = .ok (.iconst 1, 1) := by decide +kernel
theorem dX8_firstFollowing_30 : decode cX8_firstFollowing 30 = .ok (.iadd, 1) := by decide +kernel
theorem dX8_firstFollowing_31 : decode cX8_firstFollowing 31 = .ok (.iaload, 1) := by decide +kernel
theorem dX8_firstFollowing_32 : decode cX8_firstFollowing 32 = .ok (.if_icmp .ne 7, 3) := by decide +kernel
theorem dX8_firstFollowing_35 : decode cX8_firstFollowing 35 = .ok (.iconst 1, 1) := by decide +kernel
theorem dX8_firstFollowing_36 : decode cX8_firstFollowing 36 = .ok (.goto 4, 3) := by decide +kernel
theorem dX8_firstFollowing_39 : decode cX8_firstFollowing 39 = .ok (.iconst 0, 1) := by decide +kernel
theorem dX8_firstFollowing_40 : decode cX8_firstFollowing 40 = .ok (.istore 4, 2) := by decide +kernel
theorem dX8_firstFollowing_42 : decode cX8_firstFollowing 42 = .ok (.iload 4, 2) := by decide +kernel
theorem dX8_firstFollowing_44 : decode cX8_firstFollowing 44 = .ok (.ifCond .eq 23, 3) := by decide +kernel
theorem dX8_firstFollowing_47 : decode cX8_firstFollowing 47 = .ok (.aload_n 1, 1) := by decide +kernel
theorem dX8_firstFollowing_48 : decode cX8_firstFollowing 48 = .ok (.iload_n 2, 1) := by decide +kernel
theorem dX8_firstFollowing_49 : decode cX8_firstFollowing 49 = .ok (.aload_n 0, 1) := by decide +kernel
theorem dX8_firstFollowing_50 : decode cX8_firstFollowing 50 = .ok (.getfield 27, 3) := by decide +kernel
theorem dX8_firstFollowing_53 : decode cX8_firstFollowing 53 = .ok (.iconst 4, 1) := by decide +kernel
theorem dX8_firstFollowing_54 : decode cX8_firstFollowing 54 = .ok (.iload_n 3, 1) := by decide +kernel
theorem dX8_firstFollowing_55 : decode cX8_firstFollowing 55 = .ok (.imul, 1) := by decide +kernel
theorem dX8_firstFollowing_56 : decode cX8_firstFollowing 56 = .ok (.iconst 2, 1) := by decide +kernel
theorem dX8_firstFollowing_57 : decode cX8_firstFollowing 57 = .ok (.iadd, 1) := by decide +kernel
theorem dX8_firstFollowing_58 : decode cX8_firstFollowing 58 = .ok (.iaload, 1) := by decide +kernel
theorem dX8_firstFollowing_59 : decode cX8_firstFollowing 59 = .ok (.iadd, 1) := by decide +kernel
theorem dX8_firstFollowing_60 : decode cX8_firstFollowing 60 = .ok (.iaload, 1) := by decide +kernel
theorem dX8_firstFollowing_61 : decode cX8_firstFollowing 61 = .ok (.iconst 2, 1) := by decide +kernel
theorem dX8_firstFollowing_62 : decode cX8_firstFollowing 62 = .ok (.if_icmp .ne 5, 3) := by decide +kernel
theorem dX8_firstFollowing_65 : decode cX8_firstFollowing 65 = .ok (.iload_n 3, 1) := by decide +kernel
theorem dX8_firstFollowing_66 : decode cX8_firstFollowing 66 = .ok (.ireturn, 1) := by decide +kernel
theorem dX8_firstFollowing_67 : decode cX8_firstFollowing 67 = .ok (.iinc 3 1, 3) := by decide +kernel
theorem dX8_firstFollowing_70 : decode cX8_firstFollowing 70 = .ok (.goto (-68), 3) := by decide +kernel
theorem dX8_firstFollowing_73 : decode cX8_firstFollowing 73 = .ok (.iconst (-1), 1) := by decide +kernel
theorem dX8_firstFollowing_74 : decode cX8_firstFollowing 74 = .ok (.ireturn, 1) := by decide +kernel
theorem dX8_contradictionsOf_0 : decode cX8_contradictionsOf 0 = .ok (.iconst 0, 1) := by decide +kernel
theorem dX8_contradictionsOf_1 : decode cX8_contradictionsOf 1 = .ok (.istore_n 3, 1) := by decide +kernel
theorem dX8_contradictionsOf_2 : decode cX8_contradictionsOf 2 = .ok (.iconst 0, 1) := by decide +kernel
theorem dX8_contradictionsOf_3 : decode cX8_contradictionsOf 3 = .ok (.istore 4, 2) := by decide +kernel
theorem dX8_contradictionsOf_5 : decode cX8_contradictionsOf 5 = .ok (.iload 4, 2) := by decide +kernel
theorem dX8_contradictionsOf_7 : decode cX8_contradictionsOf 7 = .ok (.aload_n 0, 1) := by decide +kernel
theorem dX8_contradictionsOf_8 : decode cX8_contradictionsOf 8 = .ok (.getfield 50, 3) := by decide +kernel
theorem dX8_contradictionsOf_11 : decode cX8_contradictionsOf 11 = .ok (.if_icmp .ge 80, 3) := by decide +kernel
theorem dX8_contradictionsOf_14 : decode cX8_contradictionsOf 14 = .ok (.aload_n 1, 1) := by decide +kernel
theorem dX8_contradictionsOf_15 : decode cX8_contradictionsOf 15 = .ok (.iload_n 2, 1) := by decide +kernel
theorem dX8_contradictionsOf_16 : decode cX8_contradictionsOf 16 = .ok (.aload_n 0, 1) := by decide +kernel
theorem dX8_contradictionsOf_17 : decode cX8_contradictionsOf 17 = .ok (.getfield 27, 3) := by decide +kernel
theorem dX8_contradictionsOf_20 : decode cX8_contradictionsOf 20 = .ok (.iconst 4, 1) := by decide +kernel
theorem dX8_contradictionsOf_21 : decode cX8_contradictionsOf 21 = .ok (.iload 4, 2) := by decide +kernel
theorem dX8_contradictionsOf_23 : decode cX8_contradictionsOf 23 = .ok (.imul, 1) := by decide +kernel
theorem dX8_contradictionsOf_24 : decode cX8_contradictionsOf 24 = .ok (.iaload, 1) := by decide +kernel
theorem dX8_contradictionsOf_25 : decode cX8_contradictionsOf 25 = .ok (.iadd, 1) := by decide +kernel
theorem dX8_contradictionsOf_26 : decode cX8_contradictionsOf 26 = .ok (.iaload, 1) := by decide +kernel
theorem dX8_contradictionsOf_27 : decode cX8_contradictionsOf 27 = .ok (.aload_n 0, 1) := by decide +kernel
theorem dX8_contradictionsOf_28 : decode cX8_contradictionsOf 28 = .ok (.getfield 27, 3) := by decide +kernel
theorem dX8_contradictionsOf_31 : decode cX8_contradictionsOf 31 = .ok (.iconst 4, 1) := by decide +kernel
theorem dX8_contradictionsOf_32 : decode cX8_contradictionsOf 32 = .ok (.iload 4, 2) := by decide +kernel
theorem dX8_contradictionsOf_34 : decode cX8_contradictionsOf 34 = .ok (.imul, 1) := by decide +kernel
theorem dX8_contradictionsOf_35 : decode cX8_contradictionsOf 35 = .ok (.iconst 1, 1) := by decide +kernel
theorem dX8_contradictionsOf_36 : decode cX8_contradictionsOf 36 = .ok (.iadd, 1) := by decide +kernel
theorem dX8_contradictionsOf_37 : decode cX8_contradictionsOf 37 = .ok (.iaload, 1) := by decide +kernel
theorem dX8_contradictionsOf_38 : decode cX8_contradictionsOf 38 = .ok (.if_icmp .ne 7, 3) := by decide +kernel
theorem dX8_contradictionsOf_41 : decode cX8_contradictionsOf 41 = .ok (.iconst 1, 1) := by decide +kernel
theorem dX8_contradictionsOf_42 : decode cX8_contradictionsOf 42 = .ok (.goto 4, 3) := by decide +kernel
theorem dX8_contradictionsOf_45 : decode cX8_contradictionsOf 45 = .ok (.iconst 0, 1) := by decide +kernel
theorem dX8_contradictionsOf_46 : decode cX8_contradictionsOf 46 = .ok (.istore 5, 2) := by decide +kernel
theorem dX8_contradictionsOf_48 : decode cX8_contradictionsOf 48 = .ok (.iload 5, 2) := by decide +kernel
theorem dX8_contradictionsOf_50 : decode cX8_contradictionsOf 50 = .ok (.ifCond .eq 35, 3) := by decide +kernel
theorem dX8_contradictionsOf_53 : decode cX8_contradictionsOf 53 = .ok (.aload_n 1, 1) := by decide +kernel
theorem dX8_contradictionsOf_54 : decode cX8_contradictionsOf 54 = .ok (.iload_n 2, 1) := by decide +kernel
theorem dX8_contradictionsOf_55 : decode cX8_contradictionsOf 55 = .ok (.aload_n 0, 1) := by decide +kernel
theorem dX8_contradictionsOf_56 : decode cX8_contradictionsOf 56 = .ok (.getfield 27, 3) := by decide +kernel
theorem dX8_contradictionsOf_59 : decode cX8_contradictionsOf 59 = .ok (.iconst 4, 1) := by decide +kernel
theorem dX8_contradictionsOf_60 : decode cX8_contradictionsOf 60 = .ok (.iload 4, 2) := by decide +kernel
theorem dX8_contradictionsOf_62 : decode cX8_contradictionsOf 62 = .ok (.imul, 1) := by decide +kernel
theorem dX8_contradictionsOf_63 : decode cX8_contradictionsOf 63 = .ok (.iconst 2, 1) := by decide +kernel
theorem dX8_contradictionsOf_64 : decode cX8_contradictionsOf 64 = .ok (.iadd, 1) := by decide +kernel
theorem dX8_contradictionsOf_65 : decode cX8_contradictionsOf 65 = .ok (.iaload, 1) := by decide +kernel
theorem dX8_contradictionsOf_66 : decode cX8_contradictionsOf 66 = .ok (.iadd, 1) := by decide +kernel
theorem dX8_contradictionsOf_67 : decode cX8_contradictionsOf 67 = .ok (.iaload, 1) := by decide +kernel
theorem dX8_contradictionsOf_68 : decode cX8_contradictionsOf 68 = .ok (.aload_n 0, 1) := by decide +kernel
theorem dX8_contradictionsOf_69 : decode cX8_contradictionsOf 69 = .ok (.getfield 27, 3) := by decide +kernel
theorem dX8_contradictionsOf_72 : decode cX8_contradictionsOf 72 = .ok (.iconst 4, 1) := by decide +kernel
theorem dX8_contradictionsOf_73 : decode cX8_contradictionsOf 73 = .ok (.iload 4, 2) := by decide +kernel
theorem dX8_contradictionsOf_75 : decode cX8_contradictionsOf 75 = .ok (.imul, 1) := by decide +kernel
theorem dX8_contradictionsOf_76 : decode cX8_contradictionsOf 76 = .ok (.iconst 3, 1) := by decide +kernel
theorem dX8_contradictionsOf_77 : decode cX8_contradictionsOf 77 = .ok (.iadd, 1) := by decide +kernel
theorem dX8_contradictionsOf_78 : decode cX8_contradictionsOf 78 = .ok (.iaload, 1) := by decide +kernel
theorem dX8_contradictionsOf_79 : decode cX8_contradictionsOf 79 = .ok (.if_icmp .eq 6, 3) := by decide +kernel
theorem dX8_contradictionsOf_82 : decode cX8_contradictionsOf 82 = .ok (.iinc 3 1, 3) := by decide +kernel
theorem dX8_contradictionsOf_85 : decode cX8_contradictionsOf 85 = .ok (.iinc 4 1, 3) := by decide +kernel
theorem dX8_contradictionsOf_88 : decode cX8_contradictionsOf 88 = .ok (.goto (-83), 3) := by decide +kernel
theorem dX8_contradictionsOf_91 : decode cX8_contradictionsOf 91 = .ok (.iload_n 3, 1) := by decide +kernel
theorem dX8_contradictionsOf_92 : decode cX8_contradictionsOf 92 = .ok (.ireturn, 1) := by decide +kernel
theorem dX8_harmOf_0 : decode cX8_harmOf 0 = .ok (.iconst 0, 1) := by decide +kernel
theorem dX8_harmOf_1 : decode cX8_harmOf 1 = .ok (.istore_n 3, 1) := by decide +kernel
theorem dX8_harmOf_2 : decode cX8_harmOf 2 = .ok (.iconst 0, 1) := by decide +kernel
theorem dX8_harmOf_3 : decode cX8_harmOf 3 = .ok (.istore 4, 2) := by decide +kernel
theorem dX8_harmOf_5 : decode cX8_harmOf 5 = .ok (.iload 4, 2) := by decide +kernel
theorem dX8_harmOf_7 : decode cX8_harmOf 7 = .ok (.aload_n 0, 1) := by decide +kernel
theorem dX8_harmOf_8 : decode cX8_harmOf 8 = .ok (.getfield 53, 3) := by decide +kernel
theorem dX8_harmOf_11 : decode cX8_harmOf 11 = .ok (.if_icmp .ge 50, 3) := by decide +kernel
theorem dX8_harmOf_14 : decode cX8_harmOf 14 = .ok (.aload_n 1, 1) := by decide +kernel
theorem dX8_harmOf_15 : decode cX8_harmOf 15 = .ok (.iload_n 2, 1) := by decide +kernel
theorem dX8_harmOf_16 : decode cX8_harmOf 16 = .ok (.aload_n 0, 1) := by decide +kernel
theorem dX8_harmOf_17 : decode cX8_harmOf 17 = .ok (.getfield 30, 3) := by decide +kernel
theorem dX8_harmOf_20 : decode cX8_harmOf 20 = .ok (.iconst 3, 1) := by decide +kernel
theorem dX8_harmOf_21 : decode cX8_harmOf 21 = .ok (.iload 4, 2) := by decide +kernel
theorem dX8_harmOf_23 : decode cX8_harmOf 23 = .ok (.imul, 1) := by decide +kernel
theorem dX8_harmOf_24 : decode cX8_harmOf 24 = .ok (.iaload, 1) := by decide +kernel
theorem dX8_harmOf_25 : decode cX8_harmOf 25 = .ok (.iadd, 1) := by decide +kernel
theorem dX8_harmOf_26 : decode cX8_harmOf 26 = .ok (.iaload, 1) := by decide +kernel
theorem dX8_harmOf_27 : decode cX8_harmOf 27 = .ok (.aload_n 0, 1) := by decide +kernel
theorem dX8_harmOf_28 : decode cX8_harmOf 28 = .ok (.getfield 30, 3) := by decide +kernel
theorem dX8_harmOf_31 : decode cX8_harmOf 31 = .ok (.iconst 3, 1) := by decide +kernel
theorem dX8_harmOf_32 : decode cX8_harmOf 32 = .ok (.iload 4, 2) := by decide +kernel
theorem dX8_harmOf_34 : decode cX8_harmOf 34 = .ok (.imul, 1) := by decide +kernel
theorem dX8_harmOf_35 : decode cX8_harmOf 35 = .ok (.iconst 1, 1) := by decide +kernel
theorem dX8_harmOf_36 : decode cX8_harmOf 36 = .ok (.iadd, 1) := by decide +kernel
theorem dX8_harmOf_37 : decode cX8_harmOf 37 = .ok (.iaload, 1) := by decide +kernel
theorem dX8_harmOf_38 : decode cX8_harmOf 38 = .ok (.if_icmp .ne 17, 3) := by decide +kernel
theorem dX8_harmOf_41 : decode cX8_harmOf 41 = .ok (.iload_n 3, 1) := by decide +kernel
theorem dX8_harmOf_42 : decode cX8_harmOf 42 = .ok (.aload_n 0, 1) := by decide +kernel
theorem dX8_harmOf_43 : decode cX8_harmOf 43 = .ok (.getfield 30, 3) := by decide +kernel
theorem dX8_harmOf_46 : decode cX8_harmOf 46 = .ok (.iconst 3, 1) := by decide +kernel
theorem dX8_harmOf_47 : decode cX8_harmOf 47 = .ok (.iload 4, 2) := by decide +kernel
theorem dX8_harmOf_49 : decode cX8_harmOf 49 = .ok (.imul, 1) := by decide +kernel
theorem dX8_harmOf_50 : decode cX8_harmOf 50 = .ok (.iconst 2, 1) := by decide +kernel
theorem dX8_harmOf_51 : decode cX8_harmOf 51 = .ok (.iadd, 1) := by decide +kernel
theorem dX8_harmOf_52 : decode cX8_harmOf 52 = .ok (.iaload, 1) := by decide +kernel
theorem dX8_harmOf_53 : decode cX8_harmOf 53 = .ok (.iadd, 1) := by decide +kernel
theorem dX8_harmOf_54 : decode cX8_harmOf 54 = .ok (.istore_n 3, 1) := by decide +kernel
theorem dX8_harmOf_55 : decode cX8_harmOf 55 = .ok (.iinc 4 1, 3) := by decide +kernel
theorem dX8_harmOf_58 : decode cX8_harmOf 58 = .ok (.goto (-53), 3) := by decide +kernel
theorem dX8_harmOf_61 : decode cX8_harmOf 61 = .ok (.iload_n 3, 1) := by decide +kernel
theorem dX8_harmOf_62 : decode cX8_harmOf 62 = .ok (.ireturn, 1) := by decide +kernel
theorem dX8_harmOfFact_0 : decode cX8_harmOfFact 0 = .ok (.iconst 0, 1) := by decide +kernel
theorem dX8_harmOfFact_1 : decode cX8_harmOfFact 1 = .ok (.istore_n 3, 1) := by decide +kernel
theorem dX8_harmOfFact_2 : decode cX8_harmOfFact 2 = .ok (.iconst 0, 1) := by decide +kernel
theorem dX8_harmOfFact_3 : decode cX8_harmOfFact 3 = .ok (.istore 4, 2) := by decide +kernel
theorem dX8_harmOfFact_5 : decode cX8_harmOfFact 5 = .ok (.iload 4, 2) := by decide +kernel
theorem dX8_harmOfFact_7 : decode cX8_harmOfFact 7 = .ok (.aload_n 0, 1) := by decide +kernel
theorem dX8_harmOfFact_8 : decode cX8_harmOfFact 8 = .ok (.getfield 53, 3) := by decide +kernel
theorem dX8_harmOfFact_11 : decode cX8_harmOfFact 11 = .ok (.if_icmp .ge 51, 3) := by decide +kernel
theorem dX8_harmOfFact_14 : decode cX8_harmOfFact 14 = .ok (.aload_n 0, 1) := by decide +kernel
theorem dX8_harmOfFact_15 : decode cX8_harmOfFact 15 = .ok (.getfield 30, 3) := by decide +kernel
theorem dX8_harmOfFact_18 : decode cX8_harmOfFact 18 = .ok (.iconst 3, 1) := by decide +kernel
theorem dX8_harmOfFact_19 : decode cX8_harmOfFact 19 = .ok (.iload 4, 2) := by decide +kernel
theorem dX8_harmOfFact_21 : decode cX8_harmOfFact 21 = .ok (.imul, 1) := by decide +kernel
theorem dX8_harmOfFact_22 : decode cX8_harmOfFact 22 = .ok (.iaload, 1) := by decide +kernel
theorem dX8_harmOfFact_23 : decode cX8_harmOfFact 23 = .ok (.iload_n 1, 1) := by decide +kernel
theorem dX8_harmOfFact_24 : decode cX8_harmOfFact 24 = .ok (.if_icmp .ne 32, 3) := by decide +kernel
theorem dX8_harmOfFact_27 : decode cX8_harmOfFact 27 = .ok (.aload_n 0, 1) := by decide +kernel
theorem dX8_harmOfFact_28 : decode cX8_harmOfFact 28 = .ok (.getfield 30, 3) := by decide +kernel
theorem dX8_harmOfFact_31 : decode cX8_harmOfFact 31 = .ok (.iconst 3, 1) := by decide +kernel
theorem dX8_harmOfFact_32 : decode cX8_harmOfFact 32 = .ok (.iload 4, 2) := by decide +kernel
theorem dX8_harmOfFact_34 : decode cX8_harmOfFact 34 = .ok (.imul, 1) := by decide +kernel
theorem dX8_harmOfFact_35 : decode cX8_harmOfFact 35 = .ok (.iconst 1, 1) := by decide +kernel
theorem dX8_harmOfFact_36 : decode cX8_harmOfFact 36 = .ok (.iadd, 1) := by decide +kernel
theorem dX8_harmOfFact_37 : decode cX8_harmOfFact 37 = .ok (.iaload, 1) := by decide +kernel
theorem dX8_harmOfFact_38 : decode cX8_harmOfFact 38 = .ok (.iload_n 2, 1) := by decide +kernel
theorem dX8_harmOfFact_39 : decode cX8_harmOfFact 39 = .ok (.if_icmp .ne 17, 3) := by decide +kernel
theorem dX8_harmOfFact_42 : decode cX8_harmOfFact 42 = .ok (.iload_n 3, 1) := by decide +kernel
theorem dX8_harmOfFact_43 : decode cX8_harmOfFact 43 = .ok (.aload_n 0, 1) := by decide +kernel
theorem dX8_harmOfFact_44 : decode cX8_harmOfFact 44 = .ok (.getfield 30, 3) := by decide +kernel
theorem dX8_harmOfFact_47 : decode cX8_harmOfFact 47 = .ok (.iconst 3, 1) := by decide +kernel
theorem dX8_harmOfFact_48 : decode cX8_harmOfFact 48 = .ok (.iload 4, 2) := by decide +kernel
theorem dX8_harmOfFact_50 : decode cX8_harmOfFact 50 = .ok (.imul, 1) := by decide +kernel
theorem dX8_harmOfFact_51 : decode cX8_harmOfFact 51 = .ok (.iconst 2, 1) := by decide +kernel
theorem dX8_harmOfFact_52 : decode cX8_harmOfFact 52 = .ok (.iadd, 1) := by decide +kernel
theorem dX8_harmOfFact_53 : decode cX8_harmOfFact 53 = .ok (.iaload, 1) := by decide +kernel
theorem dX8_harmOfFact_54 : decode cX8_harmOfFact 54 = .ok (.iadd, 1) := by decide +kernel
theorem dX8_harmOfFact_55 : decode cX8_harmOfFact 55 = .ok (.istore_n 3, 1) := by decide +kernel
theorem dX8_harmOfFact_56 : decode cX8_harmOfFact 56 = .ok (.iinc 4 1, 3) := by decide +kernel
theorem dX8_harmOfFact_59 : decode cX8_harmOfFact 59 = .ok (.goto (-54), 3) := by decide +kernel
theorem dX8_harmOfFact_62 : decode cX8_harmOfFact 62 = .ok (.iload_n 3, 1) := by decide +kernel
theorem dX8_harmOfFact_63 : decode cX8_harmOfFact 63 = .ok (.ireturn, 1) := by decide +kernel
theorem dX8_reachesAll_0 : decode cX8_reachesAll 0 = .ok (.iconst 0, 1) := by decide +kernel
theorem dX8_reachesAll_1 : decode cX8_reachesAll 1 = .ok (.istore_n 2, 1) := by decide +kernel
theorem dX8_reachesAll_2 : decode cX8_reachesAll 2 = .ok (.iload_n 2, 1) := by decide +kernel
theorem dX8_reachesAll_3 : decode cX8_reachesAll 3 = .ok (.aload_n 0, 1) := by decide +kernel
theorem dX8_reachesAll_4 : decode cX8_reachesAll 4 = .ok (.getfield 44, 3) := by decide +kernel
theorem dX8_reachesAll_7 : decode cX8_reachesAll 7 = .ok (.if_icmp .ge 22, 3) := by decide +kernel
theorem dX8_reachesAll_10 : decode cX8_reachesAll 10 = .ok (.aload_n 0, 1) := by decide +kernel
theorem dX8_reachesAll_11 : decode cX8_reachesAll 11 = .ok (.getfield 24, 3) := by decide +kernel
theorem dX8_reachesAll_14 : decode cX8_reachesAll 14 = .ok (.iload_n 2, 1) := by decide +kernel
theorem dX8_reachesAll_15 : decode cX8_reachesAll 15 = .ok (.iaload, 1) := by decide +kernel
theorem dX8_reachesAll_16 : decode cX8_reachesAll 16 = .ok (.iload_n 1, 1) := by decide +kernel
theorem dX8_reachesAll_17 : decode cX8_reachesAll 17 = .ok (.iand, 1) := by decide +kernel
theorem dX8_reachesAll_18 : decode cX8_reachesAll 18 = .ok (.ifCond .ne 5, 3) := by decide +kernel
theorem dX8_reachesAll_21 : decode cX8_reachesAll 21 = .ok (.iconst 0, 1) := by decide +kernel
theorem dX8_reachesAll_22 : decode cX8_reachesAll 22 = .ok (.ireturn, 1) := by decide +kernel
theorem dX8_reachesAll_23 : decode cX8_reachesAll 23 = .ok (.iinc 2 1, 3) := by decide +kernel
theorem dX8_reachesAll_26 : decode cX8_reachesAll 26 = .ok (.goto (-24), 3) := by decide +kernel
theorem dX8_reachesAll_29 : decode cX8_reachesAll 29 = .ok (.iconst 1, 1) := by decide +kernel
theorem dX8_reachesAll_30 : decode cX8_reachesAll 30 = .ok (.ireturn, 1) := by decide +kernel
theorem dX8_distance_0 : decode cX8_distance 0 = .ok (.iconst 1, 1) := by decide +kernel
theorem dX8_distance_1 : decode cX8_distance 1 = .ok (.iload_n 1, 1) := by decide +kernel
theorem dX8_distance_2 : decode cX8_distance 2 = .ok (.ishl, 1) := by decide +kernel
theorem dX8_distance_3 : decode cX8_distance 3 = .ok (.istore 4, 2) := by decide +kernel
theorem dX8_distance_5 : decode cX8_distance 5 = .ok (.iconst 0, 1) := by decide +kernel
theorem dX8_distance_6 : decode cX8_distance 6 = .ok (.istore 5, 2) := by decide +kernel
theorem dX8_distance_8 : decode cX8_distance 8 = .ok (.iload 5, 2) := by decide +kernel
theorem dX8_distance_10 : decode cX8_distance 10 = .ok (.bipush 7, 2) := by decide +kernel
theorem dX8_distance_12 : decode cX8_distance 12 = .ok (.if_icmp .ge 31, 3) := by decide +kernel
theorem dX8_distance_15 : decode cX8_distance 15 = .ok (.iload 4, 2) := by decide +kernel
theorem dX8_distance_17 : decode cX8_distance 17 = .ok (.iload_n 2, 1) := by decide +kernel
theorem dX8_distance_18 : decode cX8_distance 18 = .ok (.invokestatic 82, 3) := by decide +kernel
theorem dX8_distance_21 : decode cX8_distance 21 = .ok (.iconst 1, 1) := by decide +kernel
theorem dX8_distance_22 : decode cX8_distance 22 = .ok (.if_icmp .ne 6, 3) := by decide +kernel
theorem dX8_distance_25 : decode cX8_distance 25 = .ok (.iload 5, 2) := by decide +kernel
theorem dX8_distance_27 : decode cX8_distance 27 = .ok (.ireturn, 1) := by decide +kernel
theorem dX8_distance_28 : decode cX8_distance 28 = .ok (.aload_n 0, 1) := by decide +kernel
theorem dX8_distance_29 : decode cX8_distance 29 = .ok (.iload 4, 2) := by decide +kernel
theorem dX8_distance_31 : decode cX8_distance 31 = .ok (.iload_n 3, 1) := by decide +kernel
theorem dX8_distance_32 : decode cX8_distance 32 = .ok (.invokevirtual 90, 3) := by decide +kernel
theorem dX8_distance_35 : decode cX8_distance 35 = .ok (.istore 4, 2) := by decide +kernel
theorem dX8_distance_37 : decode cX8_distance 37 = .ok (.iinc 5 1, 3) := by decide +kernel
theorem dX8_distance_40 : decode cX8_distance 40 = .ok (.goto (-32), 3) := by decide +kernel
theorem dX8_distance_43 : decode cX8_distance 43 = .ok (.bipush (-2), 2) := by decide +kernel
theorem dX8_distance_45 : decode cX8_distance 45 = .ok (.ireturn, 1) := by decide +kernel
theorem dX8_spread_0 : decode cX8_spread 0 = .ok (.iload_n 1, 1) := by decide +kernel
theorem dX8_spread_1 : decode cX8_spread 1 = .ok (.istore_n 3, 1) := by decide +kernel
theorem dX8_spread_2 : decode cX8_spread 2 = .ok (.iconst 0, 1) := by decide +kernel
theorem dX8_spread_3 : decode cX8_spread 3 = .ok (.istore 4, 2) := by decide +kernel
theorem dX8_spread_5 : decode cX8_spread 5 = .ok (.iload 4, 2) := by decide +kernel
theorem dX8_spread_7 : decode cX8_spread 7 = .ok (.aload_n 0, 1) := by decide +kernel
theorem dX8_spread_8 : decode cX8_spread 8 = .ok (.getfield 47, 3) := by decide +kernel
theorem dX8_spread_11 : decode cX8_spread 11 = .ok (.if_icmp .ge 55, 3) := by decide +kernel
theorem dX8_spread_14 : decode cX8_spread 14 = .ok (.iload_n 2, 1) := by decide +kernel
theorem dX8_spread_15 : decode cX8_spread 15 = .ok (.iload 4, 2) := by decide +kernel
theorem dX8_spread_17 : decode cX8_spread 17 = .ok (.invokestatic 82, 3) := by decide +kernel
theorem dX8_spread_20 : decode cX8_spread 20 = .ok (.ifCond .ne 40, 3) := by decide +kernel
theorem dX8_spread_23 : decode cX8_spread 23 = .ok (.iconst 1, 1) := by decide +kernel
theorem dX8_spread_24 : decode cX8_spread 24 = .ok (.aload_n 0, 1) := by decide +kernel
theorem dX8_spread_25 : decode cX8_spread 25 = .ok (.getfield 18, 3) := by decide +kernel
theorem dX8_spread_28 : decode cX8_spread 28 = .ok (.iload 4, 2) := by decide +kernel
theorem dX8_spread_30 : decode cX8_spread 30 = .ok (.iaload, 1) := by decide +kernel
theorem dX8_spread_31 : decode cX8_spread 31 = .ok (.ishl, 1) := by decide +kernel
theorem dX8_spread_32 : decode cX8_spread 32 = .ok (.iconst 1, 1) := by decide +kernel
theorem dX8_spread_33 : decode cX8_spread 33 = .ok (.aload_n 0, 1) := by decide +kernel
theorem dX8_spread_34 : decode cX8_spread 34 = .ok (.getfield 21, 3) := by decide +kernel
theorem dX8_spread_37 : decode cX8_spread 37 = .ok (.iload 4, 2) := by decide +kernel
theorem dX8_spread_39 : decode cX8_spread 39 = .ok (.iaload, 1) := by decide +kernel
theorem dX8_spread_40 : decode cX8_spread 40 = .ok (.ishl, 1) := by decide +kernel
theorem dX8_spread_41 : decode cX8_spread 41 = .ok (.ior, 1) := by decide +kernel
theorem dX8_spread_42 : decode cX8_spread 42 = .ok (.istore 5, 2) := by decide +kernel
theorem dX8_spread_44 : decode cX8_spread 44 = .ok (.iload_n 3, 1) := by decide +kernel
theorem dX8_spread_45 : decode cX8_spread 45 = .ok (.iload_n 1, 1) := by decide +kernel
theorem dX8_spread_46 : decode cX8_spread 46 = .ok (.iload 5, 2) := by decide +kernel
theorem dX8_spread_48 : decode cX8_spread 48 = .ok (.iand, 1) := by decide +kernel
theorem dX8_spread_49 : decode cX8_spread 49 = .ok (.ifCond .eq 8, 3) := by decide +kernel
theorem dX8_spread_52 : decode cX8_spread 52 = .ok (.iload 5, 2) := by decide +kernel
theorem dX8_spread_54 : decode cX8_spread 54 = .ok (.goto 4, 3) := by decide +kernel
theorem dX8_spread_57 : decode cX8_spread 57 = .ok (.iconst 0, 1) := by decide +kernel
theorem dX8_spread_58 : decode cX8_spread 58 = .ok (.ior, 1) := by decide +kernel
theorem dX8_spread_59 : decode cX8_spread 59 = .ok (.istore_n 3, 1) := by decide +kernel
theorem dX8_spread_60 : decode cX8_spread 60 = .ok (.iinc 4 1, 3) := by decide +kernel
theorem dX8_spread_63 : decode cX8_spread 63 = .ok (.goto (-58), 3) := by decide +kernel
theorem dX8_spread_66 : decode cX8_spread 66 = .ok (.iload_n 3, 1) := by decide +kernel
theorem dX8_spread_67 : decode cX8_spread 67 = .ok (.ireturn, 1) := by decide +kernel
theorem dX9_init_0 : decode cX9_init 0 = .ok (.aload_n 0, 1) := by decide +kernel
theorem dX9_init_1 : decode cX9_init 1 = .ok (.aload_n 1, 1) := by decide +kernel
theorem dX9_init_2 : decode cX9_init 2 = .ok (.invokespecial 3, 3) := by decide +kernel
theorem dX9_init_5 : decode cX9_init 5 = .ok (.aload_n 0, 1) := by decide +kernel
theorem dX9_init_6 : decode cX9_init 6 = .ok (.aload_n 2, 1) := by decide +kernel
theorem dX9_init_7 : decode cX9_init 7 = .ok (.putfield 9, 3) := by decide +kernel
theorem dX9_init_10 : decode cX9_init 10 = .ok (.return_, 1) := by decide +kernel
theorem dX9_begin_0 : decode cX9_begin 0 = .ok (.aload_n 0, 1) := by decide +kernel
theorem dX9_begin_1 : decode cX9_begin 1 = .ok (.aload_n 1, 1) := by decide +kernel
theorem dX9_begin_2 : decode cX9_begin 2 = .ok (.putfield 9, 3) := by decide +kernel
theorem dX9_begin_5 : decode cX9_begin 5 = .ok (.aload_n 0, 1) := by decide +kernel
theorem dX9_begin_6 : decode cX9_begin 6 = .ok (.getfield 9, 3) := by decide +kernel
theorem dX9_begin_9 : decode cX9_begin 9 = .ok (.invokevirtual 15, 3) := by decide +kernel
theorem dX9_begin_12 : decode cX9_begin 12 = .ok (.return_, 1) := by decide +kernel
theorem dX9_readClause_0 : decode cX9_readClause 0 = .ok (.aload_n 0, 1) := by decide +kernel
theorem dX9_readClause_1 : decode cX9_readClause 1 = .ok (.getfield 21, 3) := by decide +kernel
theorem dX9_readClause_4 : decode cX9_readClause 4 = .ok (.invokevirtual 25, 3) := by decide +kernel
theorem dX9_readClause_7 : decode cX9_readClause 7 = .ok (.istore_n 2, 1) := by decide +kernel
theorem dX9_readClause_8 : decode cX9_readClause 8 = .ok (.iload_n 2, 1) := by decide +kernel
theorem dX9_readClause_9 : decode cX9_readClause 9 = .ok (.ifCond .lt 9, 3) := by decide +kernel
theorem dX9_readClause_12 : decode cX9_readClause 12 = .ok (.iload_n 2, 1) := by decide +kernel
theorem dX9_readClause_13 : decode cX9_readClause 13 = .ok (.bipush 7, 2) := by decide +kernel
theorem dX9_readClause_15 : decode cX9_readClause 15 = .ok (.if_icmp .le 14, 3) := by decide +kernel
theorem dX9_readClause_18 : decode cX9_readClause 18 = .ok (.aload_n 0, 1) := by decide +kernel
theorem dX9_readClause_19 : decode cX9_readClause 19 = .ok (.getfield 21, 3) := by decide +kernel
theorem dX9_readClause_22 : decode cX9_readClause 22 = .ok (.iconst 0, 1) := by decide +kernel
theorem dX9_readClause_23 : decode cX9_readClause 23 = .ok (.invokevirtual 31, 3) := by decide +kernel
theorem dX9_readClause_26 : decode cX9_readClause 26 = .ok (.goto 41, 3) := by decide +kernel
theorem dX9_readClause_29 : decode cX9_readClause 29 = .ok (.iload_n 1, 1) := by decide +kernel
theorem dX9_readClause_30 : decode cX9_readClause 30 = .ok (.bipush 40, 2) := by decide +kernel
theorem dX9_readClause_32 : decode cX9_readClause 32 = .ok (.if_icmp .ge 12, 3) := by decide +kernel
theorem dX9_readClause_35 : decode cX9_readClause 35 = .ok (.aload_n 0, 1) := by decide +kernel
theorem dX9_readClause_36 : decode cX9_readClause 36 = .ok (.iload_n 2, 1) := by decide +kernel
theorem dX9_readClause_37 : decode cX9_readClause 37 = .ok (.iload_n 1, 1) := by decide +kernel
theorem dX9_readClause_38 : decode cX9_readClause 38 = .ok (.invokevirtual 35, 3) := by decide +kernel
theorem dX9_readClause_41 : decode cX9_readClause 41 = .ok (.ifCond .eq 14, 3) := by decide +kernel
theorem dX9_readClause_44 : decode cX9_readClause 44 = .ok (.aload_n 0, 1) := by decide +kernel
theorem dX9_readClause_45 : decode cX9_readClause 45 = .ok (.getfield 21, 3) := by decide +kernel
theorem dX9_readClause_48 : decode cX9_readClause 48 = .ok (.iconst 4, 1) := by decide +kernel
theorem dX9_readClause_49 : decode cX9_readClause 49 = .ok (.invokevirtual 31, 3) := by decide +kernel
theorem dX9_readClause_52 : decode cX9_readClause 52 = .ok (.goto 15, 3) := by decide +kernel
theorem dX9_readClause_55 : decode cX9_readClause 55 = .ok (.aload_n 0, 1) := by decide +kernel
theorem dX9_readClause_56 : decode cX9_readClause 56 = .ok (.getfield 21, 3) := by decide +kernel
theorem dX9_readClause_59 : decode cX9_readClause 59 = .ok (.invokevirtual 39, 3) := by decide +kernel
theorem dX9_readClause_62 : decode cX9_readClause 62 = .ok (.aload_n 0, 1) := by decide +kernel
theorem dX9_readClause_63 : decode cX9_readClause 63 = .ok (.iload_n 2, 1) := by decide +kernel
theorem dX9_readClause_64 : decode cX9_readClause 64 = .ok (.invokevirtual 42, 3) := by decide +kernel
theorem dX9_readClause_67 : decode cX9_readClause 67 = .ok (.return_, 1) := by decide +kernel
theorem dX9_isOneTooMany_0 : decode cX9_isOneTooMany 0 = .ok (.iload_n 2, 1) := by decide +kernel
theorem dX9_isOneTooMany_1 : decode cX9_isOneTooMany 1 = .ok (.ifCond .ne 13, 3) := by decide +kernel
theorem dX9_isOneTooMany_4 : decode cX9_isOneTooMany 4 = .ok (.iload_n 1, 1) := by decide +kernel
theorem dX9_isOneTooMany_5 : decode cX9_isOneTooMany 5 = .ok (.ifCond .eq 7, 3) := by decide +kernel
theorem dX9_isOneTooMany_8 : decode cX9_isOneTooMany 8 = .ok (.iconst 1, 1) := by decide +kernel
theorem dX9_isOneTooMany_9 : decode cX9_isOneTooMany 9 = .ok (.goto 4, 3) := by decide +kernel
theorem dX9_isOneTooMany_12 : decode cX9_isOneTooMany 12 = .ok (.iconst 0, 1) := by decide +kernel
theorem dX9_isOneTooMany_13 : decode cX9_isOneTooMany 13 = .ok (.ireturn, 1) := by decide +kernel
theorem dX9_isOneTooMany_14 : decode cX9_isOneTooMany 14 = .ok (.iload_n 1, 1) := by decide +kernel
theorem dX9_isOneTooMany_15 : decode cX9_isOneTooMany 15 = .ok (.tableswitch 127 0 7 #[45, 47, 127, 65, 83, 101, 127, 119], 45) := by decide +kernel
theorem dX9_isOneTooMany_60 : decode cX9_isOneTooMany 60 = .ok (.iconst 1, 1) := by decide +kernel
theorem dX9_isOneTooMany_61 : decode cX9_isOneTooMany 61 = .ok (.ireturn, 1) := by decide +kernel
theorem dX9_isOneTooMany_62 : decode cX9_isOneTooMany 62 = .ok (.aload_n 0, 1) := by decide +kernel
theorem dX9_isOneTooMany_63 : decode cX9_isOneTooMany 63 = .ok (.getfield 9, 3) := by decide +kernel
theorem dX9_isOneTooMany_66 : decode cX9_isOneTooMany 66 = .ok (.getfield 45, 3) := by decide +kernel
theorem dX9_isOneTooMany_69 : decode cX9_isOneTooMany 69 = .ok (.bipush 7, 2) := by decide +kernel
theorem dX9_isOneTooMany_71 : decode cX9_isOneTooMany 71 = .ok (.if_icmp .lt 7, 3) := by decide +kernel
theorem dX9_isOneTooMany_74 : decode cX9_isOneTooMany 74 = .ok (.iconst 1, 1) := by decide +kernel
theorem dX9_isOneTooMany_75 : decode cX9_isOneTooMany 75 = .ok (.goto 4, 3) := by decide +kernel
theorem dX9_isOneTooMany_78 : decode cX9_isOneTooMany 78 = .ok (.iconst 0, 1) := by decide +kernel
theorem dX9_isOneTooMany_79 : decode cX9_isOneTooMany 79 = .ok (.ireturn, 1) := by decide +kernel
theorem dX9_isOneTooMany_80 : decode cX9_isOneTooMany 80 = .ok (.aload_n 0, 1) := by decide +kernel
theorem dX9_isOneTooMany_81 : decode cX9_isOneTooMany 81 = .ok (.getfield 9, 3) := by decide +kernel
theorem dX9_isOneTooMany_84 : decode cX9_isOneTooMany 84 = .ok (.getfield 49, 3) := by decide +kernel
theorem dX9_isOneTooMany_87 : decode cX9_isOneTooMany 87 = .ok (.bipush 10, 2) := by decide +kernel
theorem dX9_isOneTooMany_89 : decode cX9_isOneTooMany 89 = .ok (.if_icmp .lt 7, 3) := by decide +kernel
theorem dX9_isOneTooMany_92 : decode cX9_isOneTooMany 92 = .ok (.iconst 1, 1) := by decide +kernel
theorem dX9_isOneTooMany_93 : decode cX9_isOneTooMany 93 = .ok (.goto 4, 3) := by decide +kernel
theorem dX9_isOneTooMany_96 : decode cX9_isOneTooMany 96 = .ok (.iconst 0, 1) := by decide +kernel
theorem dX9_isOneTooMany_97 : decode cX9_isOneTooMany 97 = .ok (.ireturn, 1) := by decide +kernel
theorem dX9_isOneTooMany_98 : decode cX9_isOneTooMany 98 = .ok (.aload_n 0, 1) := by decide +kernel
theorem dX9_isOneTooMany_99 : decode cX9_isOneTooMany 99 = .ok (.getfield 9, 3) := by decide +kernel
theorem dX9_isOneTooMany_102 : decode cX9_isOneTooMany 102 = .ok (.getfield 52, 3) := by decide +kernel
theorem dX9_isOneTooMany_105 : decode cX9_isOneTooMany 105 = .ok (.bipush 10, 2) := by decide +kernel
theorem dX9_isOneTooMany_107 : decode cX9_isOneTooMany 107 = .ok (.if_icmp .lt 7, 3) := by decide +kernel
theorem dX9_isOneTooMany_110 : decode cX9_isOneTooMany 110 = .ok (.iconst 1, 1) := by decide +kernel
theorem dX9_isOneTooMany_111 : decode cX9_isOneTooMany 111 = .ok (.goto 4, 3) := by decide +kernel
theorem dX9_isOneTooMany_114 : decode cX9_isOneTooMany 114 = .ok (.iconst 0, 1) := by decide +kernel
theorem dX9_isOneTooMany_115 : decode cX9_isOneTooMany 115 = .ok (.ireturn, 1) := by decide +kernel
theorem dX9_isOneTooMany_116 : decode cX9_isOneTooMany 116 = .ok (.aload_n 0, 1) := by decide +kernel
theorem dX9_isOneTooMany_117 : decode cX9_isOneTooMany 117 = .ok (.getfield 9, 3) := by decide +kernel
theorem dX9_isOneTooMany_120 : decode cX9_isOneTooMany 120 = .ok (.getfield 55, 3) := by decide +kernel
theorem dX9_isOneTooMany_123 : decode cX9_isOneTooMany 123 = .ok (.bipush 10, 2) := by decide +kernel
theorem dX9_isOneTooMany_125 : decode cX9_isOneTooMany 125 = .ok (.if_icmp .lt 7, 3) := by decide +kernel
theorem dX9_isOneTooMany_128 : decode cX9_isOneTooMany 128 = .ok (.iconst 1, 1) := by decide +kernel
theorem dX9_isOneTooMany_129 : decode cX9_isOneTooMany 129 = .ok (.goto 4, 3) := by decide +kernel
theorem dX9_isOneTooMany_132 : decode cX9_isOneTooMany 132 = .ok (.iconst 0, 1) := by decide +kernel
theorem dX9_isOneTooMany_133 : decode cX9_isOneTooMany 133 = .ok (.ireturn, 1) := by decide +kernel
theorem dX9_isOneTooMany_134 : decode cX9_isOneTooMany 134 = .ok (.aload_n 0, 1) := by decide +kernel
theorem dX9_isOneTooMany_135 : decode cX9_isOneTooMany 135 = .ok (.getfield 9, 3) := by decide +kernel
theorem dX9_isOneTooMany_138 : decode cX9_isOneTooMany 138 = .ok (.getfield 58, 3) := by decide +kernel
theorem dX9_isOneTooMany_141 : decode cX9_isOneTooMany 141 = .ok (.ireturn, 1) := by decide +kernel
theorem dX9_isOneTooMany_142 : decode cX9_isOneTooMany 142 = .ok (.iconst 0, 1) := by decide +kernel
theorem dX9_isOneTooMany_143 : decode cX9_isOneTooMany 143 = .ok (.ireturn, 1) := by decide +kernel
theorem dX9_readBehind_0 : decode cX9_readBehind 0 = .ok (.iload_n 1, 1) := by decide +kernel
theorem dX9_readBehind_1 : decode cX9_readBehind 1 = .ok (.tableswitch 92 0 6 #[43, 50, 57, 64, 71, 78, 85], 43) := by decide +kernel
theorem dX9_readBehind_44 : decode cX9_readBehind 44 = .ok (.aload_n 0, 1) := by decide +kernel
theorem dX9_readBehind_45 : decode cX9_readBehind 45 = .ok (.invokevirtual 62, 3) := by decide +kernel
theorem dX9_readBehind_48 : decode cX9_readBehind 48 = .ok (.goto 53, 3) := by decide +kernel
theorem dX9_readBehind_51 : decode cX9_readBehind 51 = .ok (.aload_n 0, 1) := by decide +kernel
theorem dX9_readBehind_52 : decode cX9_readBehind 52 = .ok (.invokevirtual 65, 3) := by decide +kernel
theorem dX9_readBehind_55 : decode cX9_readBehind 55 = .ok (.goto 46, 3) := by decide +kernel
theorem dX9_readBehind_58 : decode cX9_readBehind 58 = .ok (.aload_n 0, 1) := by decide +kernel
theorem dX9_readBehind_59 : decode cX9_readBehind 59 = .ok (.invokevirtual 68, 3) := by decide +kernel
theorem dX9_readBehind_62 : decode cX9_readBehind 62 = .ok (.goto 39, 3) := by decide +kernel
theorem dX9_readBehind_65 : decode cX9_readBehind 65 = .ok (.aload_n 0, 1) := by decide +kernel
theorem dX9_readBehind_66 : decode cX9_readBehind 66 = .ok (.invokevirtual 71, 3) := by decide +kernel
theorem dX9_readBehind_69 : decode cX9_readBehind 69 = .ok (.goto 32, 3) := by decide +kernel
theorem dX9_readBehind_72 : decode cX9_readBehind 72 = .ok (.aload_n 0, 1) := by decide +kernel
theorem dX9_readBehind_73 : decode cX9_readBehind 73 = .ok (.invokevirtual 74, 3) := by decide +kernel
theorem dX9_readBehind_76 : decode cX9_readBehind 76 = .ok (.goto 25, 3) := by decide +kernel
theorem dX9_readBehind_79 : decode cX9_readBehind 79 = .ok (.aload_n 0, 1) := by decide +kernel
theorem dX9_readBehind_80 : decode cX9_readBehind 80 = .ok (.invokevirtual 77, 3) := by decide +kernel
theorem dX9_readBehind_83 : decode cX9_readBehind 83 = .ok (.goto 18, 3) := by decide +kernel
theorem dX9_readBehind_86 : decode cX9_readBehind 86 = .ok (.aload_n 0, 1) := by decide +kernel
theorem dX9_readBehind_87 : decode cX9_readBehind 87 = .ok (.invokevirtual 80, 3) := by decide +kernel
theorem dX9_readBehind_90 : decode cX9_readBehind 90 = .ok (.goto 11, 3) := by decide +kernel
theorem dX9_readBehind_93 : decode cX9_readBehind 93 = .ok (.aload_n 0, 1) := by decide +kernel
theorem dX9_readBehind_94 : decode cX9_readBehind 94 = .ok (.getfield 9, 3) := by decide +kernel
theorem dX9_readBehind_97 : decode cX9_readBehind 97 = .ok (.iconst 1, 1) := by decide +kernel
theorem dX9_readBehind_98 : decode cX9_readBehind 98 = .ok (.putfield 58, 3) := by decide +kernel
theorem dX9_readBehind_101 : decode cX9_readBehind 101 = .ok (.return_, 1) := by decide +kernel
theorem dX9_readFacts_0 : decode cX9_readFacts 0 = .ok (.aload_n 0, 1) := by decide +kernel
theorem dX9_readFacts_1 : decode cX9_readFacts 1 = .ok (.getfield 21, 3) := by decide +kernel
theorem dX9_readFacts_4 : decode cX9_readFacts 4 = .ok (.iconst 1, 1) := by decide +kernel
theorem dX9_readFacts_5 : decode cX9_readFacts 5 = .ok (.bipush 8, 2) := by decide +kernel
theorem dX9_readFacts_7 : decode cX9_readFacts 7 = .ok (.invokevirtual 83, 3) := by decide +kernel
theorem dX9_readFacts_10 : decode cX9_readFacts 10 = .ok (.istore_n 1, 1) := by decide +kernel
theorem dX9_readFacts_11 : decode cX9_readFacts 11 = .ok (.aload_n 0, 1) := by decide +kernel
theorem dX9_readFacts_12 : decode cX9_readFacts 12 = .ok (.getfield 21, 3) := by decide +kernel
theorem dX9_readFacts_15 : decode cX9_readFacts 15 = .ok (.iconst 0, 1) := by decide +kernel
theorem dX9_readFacts_16 : decode cX9_readFacts 16 = .ok (.iconst 1, 1) := by decide +kernel
theorem dX9_readFacts_17 : decode cX9_readFacts 17 = .ok (.iload_n 1, 1) := by decide +kernel
theorem dX9_readFacts_18 : decode cX9_readFacts 18 = .ok (.ishl, 1) := by decide +kernel
theorem dX9_readFacts_19 : decode cX9_readFacts 19 = .ok (.iconst 1, 1) := by decide +kernel
theorem dX9_readFacts_20 : decode cX9_readFacts 20 = .ok (.isub, 1) := by decide +kernel
theorem dX9_readFacts_21 : decode cX9_readFacts 21 = .ok (.invokevirtual 83, 3) := by decide +kernel
theorem dX9_readFacts_24 : decode cX9_readFacts 24 = .ok (.istore_n 2, 1) := by decide +kernel
theorem dX9_readFacts_25 : decode cX9_readFacts 25 = .ok (.aload_n 0, 1) := by decide +kernel
theorem dX9_readFacts_26 : decode cX9_readFacts 26 = .ok (.getfield 9, 3) := by decide +kernel
theorem dX9_readFacts_29 : decode cX9_readFacts 29 = .ok (.iload_n 1, 1) := by decide +kernel
theorem dX9_readFacts_30 : decode cX9_readFacts 30 = .ok (.putfield 87, 3) := by decide +kernel
theorem dX9_readFacts_33 : decode cX9_readFacts 33 = .ok (.aload_n 0, 1) := by decide +kernel
theorem dX9_readFacts_34 : decode cX9_readFacts 34 = .ok (.getfield 9, 3) := by decide +kernel
theorem dX9_readFacts_37 : decode cX9_readFacts 37 = .ok (.iload_n 2, 1) := by decide +kernel
theorem dX9_readFacts_38 : decode cX9_readFacts 38 = .ok (.putfield 90, 3) := by decide +kernel
theorem dX9_readFacts_41 : decode cX9_readFacts 41 = .ok (.return_, 1) := by decide +kernel
theorem dX9_readPerson_0 : decode cX9_readPerson 0 = .ok (.aload_n 0, 1) := by decide +kernel
theorem dX9_readPerson_1 : decode cX9_readPerson 1 = .ok (.getfield 21, 3) := by decide +kernel
theorem dX9_readPerson_4 : decode cX9_readPerson 4 = .ok (.iconst 0, 1) := by decide +kernel
theorem dX9_readPerson_5 : decode cX9_readPerson 5 = .ok (.iconst 1, 1) := by decide +kernel
theorem dX9_readPerson_6 : decode cX9_readPerson 6 = .ok (.aload_n 0, 1) := by decide +kernel
theorem dX9_readPerson_7 : decode cX9_readPerson 7 = .ok (.getfield 9, 3) := by decide +kernel
theorem dX9_readPerson_10 : decode cX9_readPerson 10 = .ok (.getfield 87, 3) := by decide +kernel
theorem dX9_readPerson_13 : decode cX9_readPerson 13 = .ok (.ishl, 1) := by decide +kernel
theorem dX9_readPerson_14 : decode cX9_readPerson 14 = .ok (.iconst 1, 1) := by decide +kernel
theorem dX9_readPerson_15 : decode cX9_readPerson 15 = .ok (.isub, 1) := by decide +kernel
theorem dX9_readPerson_16 : decode cX9_readPerson 16 = .ok (.invokevirtual 83, 3) := by decide +kernel
theorem dX9_readPerson_19 : decode cX9_readPerson 19 = .ok (.istore_n 1, 1) := by decide +kernel
theorem dX9_readPerson_20 : decode cX9_readPerson 20 = .ok (.aload_n 0, 1) := by decide +kernel
theorem dX9_readPerson_21 : decode cX9_readPerson 21 = .ok (.getfield 21, 3) := by decide +kernel
theorem dX9_readPerson_24 : decode cX9_readPerson 24 = .ok (.invokevirtual 93, 3) := by decide +kernel
theorem dX9_readPerson_27 : decode cX9_readPerson 27 = .ok (.ifCond .eq 32, 3) := by decide +kernel
theorem dX9_readPerson_30 : decode cX9_readPerson 30 = .ok (.aload_n 0, 1) := by decide +kernel
theorem dX9_readPerson_31 : decode cX9_readPerson 31 = .ok (.getfield 9, 3) := by decide +kernel
theorem dX9_readPerson_34 : decode cX9_readPerson 34 = .ok (.getfield 97, 3) := by decide +kernel
theorem dX9_readPerson_37 : decode cX9_readPerson 37 = .ok (.aload_n 0, 1) := by decide +kernel
theorem dX9_readPerson_38 : decode cX9_readPerson 38 = .ok (.getfield 9, 3) := by decide +kernel
theorem dX9_readPerson_41 : decode cX9_readPerson 41 = .ok (.getfield 45, 3) := by decide +kernel
theorem dX9_readPerson_44 : decode cX9_readPerson 44 = .ok (.iload_n 1, 1) := by decide +kernel
theorem dX9_readPerson_45 : decode cX9_readPerson 45 = .ok (.iastore, 1) := by decide +kernel
theorem dX9_readPerson_46 : decode cX9_readPerson 46 = .ok (.aload_n 0, 1) := by decide +kernel
theorem dX9_readPerson_47 : decode cX9_readPerson 47 = .ok (.getfield 9, 3) := by decide +kernel
theorem dX9_readPerson_50 : decode cX9_readPerson 50 = .ok (.dup, 1) := by decide +kernel
theorem dX9_readPerson_51 : decode cX9_readPerson 51 = .ok (.getfield 45, 3) := by decide +kernel
theorem dX9_readPerson_54 : decode cX9_readPerson 54 = .ok (.iconst 1, 1) := by decide +kernel
theorem dX9_readPerson_55 : decode cX9_readPerson 55 = .ok (.iadd, 1) := by decide +kernel
theorem dX9_readPerson_56 : decode cX9_readPerson 56 = .ok (.putfield 45, 3) := by decide +kernel
theorem dX9_readPerson_59 : decode cX9_readPerson 59 = .ok (.return_, 1) := by decide +kernel
theorem dX9_readTrust_0 : decode cX9_readTrust 0 = .ok (.aload_n 0, 1) := by decide +kernel
theorem dX9_readTrust_1 : decode cX9_readTrust 1 = .ok (.getfield 21, 3) := by decide +kernel
theorem dX9_readTrust_4 : decode cX9_readTrust 4 = .ok (.iconst 0, 1) := by decide +kernel
theorem dX9_readTrust_5 : decode cX9_readTrust 5 = .ok (.aload_n 0, 1) := by decide +kernel
theorem dX9_readTrust_6 : decode cX9_readTrust 6 = .ok (.getfield 9, 3) := by decide +kernel
theorem dX9_readTrust_9 : decode cX9_readTrust 9 = .ok (.getfield 45, 3) := by decide +kernel
theorem dX9_readTrust_12 : decode cX9_readTrust 12 = .ok (.iconst 1, 1) := by decide +kernel
theorem dX9_readTrust_13 : decode cX9_readTrust 13 = .ok (.isub, 1) := by decide +kernel
theorem dX9_readTrust_14 : decode cX9_readTrust 14 = .ok (.invokevirtual 83, 3) := by decide +kernel
theorem dX9_readTrust_17 : decode cX9_readTrust 17 = .ok (.istore_n 1, 1) := by decide +kernel
theorem dX9_readTrust_18 : decode cX9_readTrust 18 = .ok (.aload_n 0, 1) := by decide +kernel
theorem dX9_readTrust_19 : decode cX9_readTrust 19 = .ok (.getfield 21, 3) := by decide +kernel
theorem dX9_readTrust_22 : decode cX9_readTrust 22 = .ok (.iconst 0, 1) := by decide +kernel
theorem dX9_readTrust_23 : decode cX9_readTrust 23 = .ok (.aload_n 0, 1) := by decide +kernel
theorem dX9_readTrust_24 : decode cX9_readTrust 24 = .ok (.getfield 9, 3) := by decide +kernel
theorem dX9_readTrust_27 : decode cX9_readTrust 27 = .ok (.getfield 45, 3) := by decide +kernel
theorem dX9_readTrust_30 : decode cX9_readTrust 30 = .ok (.iconst 1, 1) := by decide +kernel
theorem dX9_readTrust_31 : decode cX9_readTrust 31 = .ok (.isub, 1) := by decide +kernel
theorem dX9_readTrust_32 : decode cX9_readTrust 32 = .ok (.invokevirtual 83, 3) := by decide +kernel
theorem dX9_readTrust_35 : decode cX9_readTrust 35 = .ok (.istore_n 2, 1) := by decide +kernel
theorem dX9_readTrust_36 : decode cX9_readTrust 36 = .ok (.iload_n 1, 1) := by decide +kernel
theorem dX9_readTrust_37 : decode cX9_readTrust 37 = .ok (.iload_n 2, 1) := by decide +kernel
theorem dX9_readTrust_38 : decode cX9_readTrust 38 = .ok (.if_icmp .ne 10, 3) := by decide +kernel
theorem dX9_readTrust_41 : decode cX9_readTrust 41 = .ok (.aload_n 0, 1) := by decide +kernel
theorem dX9_readTrust_42 : decode cX9_readTrust 42 = .ok (.getfield 21, 3) := by decide +kernel
theorem dX9_readTrust_45 : decode cX9_readTrust 45 = .ok (.invokevirtual 101, 3) := by decide +kernel
theorem dX9_readTrust_48 : decode cX9_readTrust 48 = .ok (.aload_n 0, 1) := by decide +kernel
theorem dX9_readTrust_49 : decode cX9_readTrust 49 = .ok (.getfield 21, 3) := by decide +kernel
theorem dX9_readTrust_52 : decode cX9_readTrust 52 = .ok (.iconst 0, 1) := by decide +kernel
theorem dX9_readTrust_53 : decode cX9_readTrust 53 = .ok (.bipush 9, 2) := by decide +kernel
theorem dX9_readTrust_55 : decode cX9_readTrust 55 = .ok (.invokevirtual 83, 3) := by decide +kernel
theorem dX9_readTrust_58 : decode cX9_readTrust 58 = .ok (.istore_n 3, 1) := by decide +kernel
theorem dX9_readTrust_59 : decode cX9_readTrust 59 = .ok (.aload_n 0, 1) := by decide +kernel
theorem dX9_readTrust_60 : decode cX9_readTrust 60 = .ok (.getfield 21, 3) := by decide +kernel
theorem dX9_readTrust_63 : decode cX9_readTrust 63 = .ok (.invokevirtual 93, 3) := by decide +kernel
theorem dX9_readTrust_66 : decode cX9_readTrust 66 = .ok (.ifCond .eq 18, 3) := by decide +kernel
theorem dX9_readTrust_69 : decode cX9_readTrust 69 = .ok (.aload_n 0, 1) := by decide +kernel
theorem dX9_readTrust_70 : decode cX9_readTrust 70 = .ok (.getfield 9, 3) := by decide +kernel
theorem dX9_readTrust_73 : decode cX9_readTrust 73 = .ok (.getfield 104, 3) := by decide +kernel
theorem dX9_readTrust_76 : decode cX9_readTrust 76 = .ok (.iload_n 1, 1) := by decide +kernel
theorem dX9_readTrust_77 : decode cX9_readTrust 77 = .ok (.bipush 7, 2) := by decide +kernel
theorem dX9_readTrust_79 : decode cX9_readTrust 79 = .ok (.imul, 1) := by decide +kernel
theorem dX9_readTrust_80 : decode cX9_readTrust 80 = .ok (.iload_n 2, 1) := by decide +kernel
theorem dX9_readTrust_81 : decode cX9_readTrust 81 = .ok (.iadd, 1) := by decide +kernel
theorem dX9_readTrust_82 : decode cX9_readTrust 82 = .ok (.iload_n 3, 1) := by decide +kernel
theorem dX9_readTrust_83 : decode cX9_readTrust 83 = .ok (.iastore, 1) := by decide +kernel
theorem dX9_readTrust_84 : decode cX9_readTrust 84 = .ok (.return_, 1) := by decide +kernel
theorem dX9_readStreet_0 : decode cX9_readStreet 0 = .ok (.aload_n 0, 1) := by decide +kernel
theorem dX9_readStreet_1 : decode cX9_readStreet 1 = .ok (.getfield 21, 3) := by decide +kernel
theorem dX9_readStreet_4 : decode cX9_readStreet 4 = .ok (.iconst 0, 1) := by decide +kernel
theorem dX9_readStreet_5 : decode cX9_readStreet 5 = .ok (.aload_n 0, 1) := by decide +kernel
theorem dX9_readStreet_6 : decode cX9_readStreet 6 = .ok (.getfield 9, 3) := by decide +kernel
theorem dX9_readStreet_9 : decode cX9_readStreet 9 = .ok (.getfield 45, 3) := by decide +kernel
theorem dX9_readStreet_12 : decode cX9_readStreet 12 = .ok (.iconst 1, 1) := by decide +kernel
theorem dX9_readStreet_13 : decode cX9_readStreet 13 = .ok (.isub, 1) := by decide +kernel
theorem dX9_readStreet_14 : decode cX9_readStreet 14 = .ok (.invokevirtual 83, 3) := by decide +kernel
theorem dX9_readStreet_17 : decode cX9_readStreet 17 = .ok (.istore_n 1, 1) := by decide +kernel
theorem dX9_readStreet_18 : decode cX9_readStreet 18 = .ok (.aload_n 0, 1) := by decide +kernel
theorem dX9_readStreet_19 : decode cX9_readStreet 19 = .ok (.getfield 21, 3) := by decide +kernel
theorem dX9_readStreet_22 : decode cX9_readStreet 22 = .ok (.iconst 0, 1) := by decide +kernel
theorem dX9_readStreet_23 : decode cX9_readStreet 23 = .ok (.aload_n 0, 1) := by decide +kernel
theorem dX9_readStreet_24 : decode cX9_readStreet 24 = .ok (.getfield 9, 3) := by decide +kernel
theorem dX9_readStreet_27 : decode cX9_readStreet 27 = .ok (.getfield 45, 3) := by decide +kernel
theorem dX9_readStreet_30 : decode cX9_readStreet 30 = .ok (.iconst 1, 1) := by decide +kernel
theorem dX9_readStreet_31 : decode cX9_readStreet 31 = .ok (.isub, 1) := by decide +kernel
theorem dX9_readStreet_32 : decode cX9_readStreet 32 = .ok (.invokevirtual 83, 3) := by decide +kernel
theorem dX9_readStreet_35 : decode cX9_readStreet 35 = .ok (.istore_n 2, 1) := by decide +kernel
theorem dX9_readStreet_36 : decode cX9_readStreet 36 = .ok (.iload_n 1, 1) := by decide +kernel
theorem dX9_readStreet_37 : decode cX9_readStreet 37 = .ok (.iload_n 2, 1) := by decide +kernel
theorem dX9_readStreet_38 : decode cX9_readStreet 38 = .ok (.if_icmp .eq 15, 3) := by decide +kernel
theorem dX9_readStreet_41 : decode cX9_readStreet 41 = .ok (.aload_n 0, 1) := by decide +kernel
theorem dX9_readStreet_42 : decode cX9_readStreet 42 = .ok (.getfield 9, 3) := by decide +kernel
theorem dX9_readStreet_45 : decode cX9_readStreet 45 = .ok (.iload_n 1, 1) := by decide +kernel
theorem dX9_readStreet_46 : decode cX9_readStreet 46 = .ok (.iload_n 2, 1) := by decide +kernel
theorem dX9_readStreet_47 : decode cX9_readStreet 47 = .ok (.invokevirtual 107, 3) := by decide +kernel
theorem dX9_readStreet_50 : decode cX9_readStreet 50 = .ok (.ifCond .eq 10, 3) := by decide +kernel
theorem dX9_readStreet_53 : decode cX9_readStreet 53 = .ok (.aload_n 0, 1) := by decide +kernel
theorem dX9_readStreet_54 : decode cX9_readStreet 54 = .ok (.getfield 21, 3) := by decide +kernel
theorem dX9_readStreet_57 : decode cX9_readStreet 57 = .ok (.invokevirtual 101, 3) := by decide +kernel
theorem dX9_readStreet_60 : decode cX9_readStreet 60 = .ok (.aload_n 0, 1) := by decide +kernel
theorem dX9_readStreet_61 : decode cX9_readStreet 61 = .ok (.getfield 21, 3) := by decide +kernel
theorem dX9_readStreet_64 : decode cX9_readStreet 64 = .ok (.invokevirtual 93, 3) := by decide +kernel
theorem dX9_readStreet_67 : decode cX9_readStreet 67 = .ok (.ifCond .eq 12, 3) := by decide +kernel
theorem dX9_readStreet_70 : decode cX9_readStreet 70 = .ok (.aload_n 0, 1) := by decide +kernel
theorem dX9_readStreet_71 : decode cX9_readStreet 71 = .ok (.getfield 9, 3) := by decide +kernel
theorem dX9_readStreet_74 : decode cX9_readStreet 74 = .ok (.iload_n 1, 1) := by decide +kernel
theorem dX9_readStreet_75 : decode cX9_readStreet 75 = .ok (.iload_n 2, 1) := by decide +kernel
theorem dX9_readStreet_76 : decode cX9_readStreet 76 = .ok (.invokevirtual 110, 3) := by decide +kernel
theorem dX9_readStreet_79 : decode cX9_readStreet 79 = .ok (.return_, 1) := by decide +kernel
theorem dX9_readIf_0 : decode cX9_readIf 0 = .ok (.aload_n 0, 1) := by decide +kernel
theorem dX9_readIf_1 : decode cX9_readIf 1 = .ok (.getfield 21, 3) := by decide +kernel
theorem dX9_readIf_4 : decode cX9_readIf 4 = .ok (.iconst 0, 1) := by decide +kernel
theorem dX9_readIf_5 : decode cX9_readIf 5 = .ok (.aload_n 0, 1) := by decide +kernel
theorem dX9_readIf_6 : decode cX9_readIf 6 = .ok (.getfield 9, 3) := by decide +kernel
theorem dX9_readIf_9 : decode cX9_readIf 9 = .ok (.getfield 87, 3) := by decide +kernel
theorem dX9_readIf_12 : decode cX9_readIf 12 = .ok (.iconst 1, 1) := by decide +kernel
theorem dX9_readIf_13 : decode cX9_readIf 13 = .ok (.isub, 1) := by decide +kernel
theorem dX9_readIf_14 : decode cX9_readIf 14 = .ok (.invokevirtual 83, 3) := by decide +kernel
theorem dX9_readIf_17 : decode cX9_readIf 17 = .ok (.istore_n 1, 1) := by decide +kernel
theorem dX9_readIf_18 : decode cX9_readIf 18 = .ok (.aload_n 0, 1) := by decide +kernel
theorem dX9_readIf_19 : decode cX9_readIf 19 = .ok (.getfield 21, 3) := by decide +kernel
theorem dX9_readIf_22 : decode cX9_readIf 22 = .ok (.iconst 0, 1) := by decide +kernel
theorem dX9_readIf_23 : decode cX9_readIf 23 = .ok (.iconst 1, 1) := by decide +kernel
theorem dX9_readIf_24 : decode cX9_readIf 24 = .ok (.invokevirtual 83, 3) := by decide +kernel
theorem dX9_readIf_27 : decode cX9_readIf 27 = .ok (.istore_n 2, 1) := by decide +kernel
theorem dX9_readIf_28 : decode cX9_readIf 28 = .ok (.aload_n 0, 1) := by decide +kernel
theorem dX9_readIf_29 : decode cX9_readIf 29 = .ok (.getfield 21, 3) := by decide +kernel
theorem dX9_readIf_32 : decode cX9_readIf 32 = .ok (.iconst 0, 1) := by decide +kernel
theorem dX9_readIf_33 : decode cX9_readIf 33 = .ok (.aload_n 0, 1) := by decide +kernel
theorem dX9_readIf_34 : decode cX9_readIf 34 = .ok (.getfield 9, 3) := by decide +kernel
theorem dX9_readIf_37 : decode cX9_readIf 37 = .ok (.getfield 87, 3) := by decide +kernel
theorem dX9_readIf_40 : decode cX9_readIf 40 = .ok (.iconst 1, 1) := by decide +kernel
theorem dX9_readIf_41 : decode cX9_readIf 41 = .ok (.isub, 1) := by decide +kernel
theorem dX9_readIf_42 : decode cX9_readIf 42 = .ok (.invokevirtual 83, 3) := by decide +kernel
theorem dX9_readIf_45 : decode cX9_readIf 45 = .ok (.istore_n 3, 1) := by decide +kernel
theorem dX9_readIf_46 : decode cX9_readIf 46 = .ok (.iload_n 1, 1) := by decide +kernel
theorem dX9_readIf_47 : decode cX9_readIf 47 = .ok (.iload_n 3, 1) := by decide +kernel
theorem dX9_readIf_48 : decode cX9_readIf 48 = .ok (.if_icmp .ne 10, 3) := by decide +kernel
theorem dX9_readIf_51 : decode cX9_readIf 51 = .ok (.aload_n 0, 1) := by decide +kernel
theorem dX9_readIf_52 : decode cX9_readIf 52 = .ok (.getfield 21, 3) := by decide +kernel
theorem dX9_readIf_55 : decode cX9_readIf 55 = .ok (.invokevirtual 101, 3) := by decide +kernel
theorem dX9_readIf_58 : decode cX9_readIf 58 = .ok (.aload_n 0, 1) := by decide +kernel
theorem dX9_readIf_59 : decode cX9_readIf 59 = .ok (.getfield 21, 3) := by decide +kernel
theorem dX9_readIf_62 : decode cX9_readIf 62 = .ok (.iconst 0, 1) := by decide +kernel
theorem dX9_readIf_63 : decode cX9_readIf 63 = .ok (.iconst 1, 1) := by decide +kernel
theorem dX9_readIf_64 : decode cX9_readIf 64 = .ok (.invokevirtual 83, 3) := by decide +kernel
theorem dX9_readIf_67 : decode cX9_readIf 67 = .ok (.istore 4, 2) := by decide +kernel
theorem dX9_readIf_69 : decode cX9_readIf 69 = .ok (.aload_n 0, 1) := by decide +kernel
theorem dX9_readIf_70 : decode cX9_readIf 70 = .ok (.getfield 21, 3) := by decide +kernel
theorem dX9_readIf_73 : decode cX9_readIf 73 = .ok (.invokevirtual 93, 3) := by decide +kernel
theorem dX9_readIf_76 : decode cX9_readIf 76 = .ok (.ifCond .eq 15, 3) := by decide +kernel
theorem dX9_readIf_79 : decode cX9_readIf 79 = .ok (.aload_n 0, 1) := by decide +kernel
theorem dX9_readIf_80 : decode cX9_readIf 80 = .ok (.getfield 9, 3) := by decide +kernel
theorem dX9_readIf_83 : decode cX9_readIf 83 = .ok (.iload_n 1, 1) := by decide +kernel
theorem dX9_readIf_84 : decode cX9_readIf 84 = .ok (.iload_n 2, 1) := by decide +kernel
theorem dX9_readIf_85 : decode cX9_readIf 85 = .ok (.iload_n 3, 1) := by decide +kernel
theorem dX9_readIf_86 : decode cX9_readIf 86 = .ok (.iload 4, 2) := by decide +kernel
theorem dX9_readIf_88 : decode cX9_readIf 88 = .ok (.invokevirtual 114, 3) := by decide +kernel
theorem dX9_readIf_91 : decode cX9_readIf 91 = .ok (.return_, 1) := by decide +kernel
theorem dX9_readHarm_0 : decode cX9_readHarm 0 = .ok (.aload_n 0, 1) := by decide +kernel
theorem dX9_readHarm_1 : decode cX9_readHarm 1 = .ok (.getfield 21, 3) := by decide +kernel
theorem dX9_readHarm_4 : decode cX9_readHarm 4 = .ok (.iconst 0, 1) := by decide +kernel
theorem dX9_readHarm_5 : decode cX9_readHarm 5 = .ok (.aload_n 0, 1) := by decide +kernel
theorem dX9_readHarm_6 : decode cX9_readHarm 6 = .ok (.getfield 9, 3) := by decide +kernel
theorem dX9_readHarm_9 : decode cX9_readHarm 9 = .ok (.getfield 87, 3) := by decide +kernel
theorem dX9_readHarm_12 : decode cX9_readHarm 12 = .ok (.iconst 1, 1) := by decide +kernel
theorem dX9_readHarm_13 : decode cX9_readHarm 13 = .ok (.isub, 1) := by decide +kernel
theorem dX9_readHarm_14 : decode cX9_readHarm 14 = .ok (.invokevirtual 83, 3) := by decide +kernel
theorem dX9_readHarm_17 : decode cX9_readHarm 17 = .ok (.istore_n 1, 1) := by decide +kernel
theorem dX9_readHarm_18 : decode cX9_readHarm 18 = .ok (.aload_n 0, 1) := by decide +kernel
theorem dX9_readHarm_19 : decode cX9_readHarm 19 = .ok (.getfield 21, 3) := by decide +kernel
theorem dX9_readHarm_22 : decode cX9_readHarm 22 = .ok (.iconst 0, 1) := by decide +kernel
theorem dX9_readHarm_23 : decode cX9_readHarm 23 = .ok (.iconst 1, 1) := by decide +kernel
theorem dX9_readHarm_24 : decode cX9_readHarm 24 = .ok (.invokevirtual 83, 3) := by decide +kernel
theorem dX9_readHarm_27 : decode cX9_readHarm 27 = .ok (.istore_n 2, 1) := by decide +kernel
theorem dX9_readHarm_28 : decode cX9_readHarm 28 = .ok (.aload_n 0, 1) := by decide +kernel
theorem dX9_readHarm_29 : decode cX9_readHarm 29 = .ok (.getfield 21, 3) := by decide +kernel
theorem dX9_readHarm_32 : decode cX9_readHarm 32 = .ok (.iconst 1, 1) := by decide +kernel
theorem dX9_readHarm_33 : decode cX9_readHarm 33 = .ok (.bipush 99, 2) := by decide +kernel
theorem dX9_readHarm_35 : decode cX9_readHarm 35 = .ok (.invokevirtual 83, 3) := by decide +kernel
theorem dX9_readHarm_38 : decode cX9_readHarm 38 = .ok (.istore_n 3, 1) := by decide +kernel
theorem dX9_readHarm_39 : decode cX9_readHarm 39 = .ok (.aload_n 0, 1) := by decide +kernel
theorem dX9_readHarm_40 : decode cX9_readHarm 40 = .ok (.getfield 21, 3) := by decide +kernel
theorem dX9_readHarm_43 : decode cX9_readHarm 43 = .ok (.invokevirtual 93, 3) := by decide +kernel
theorem dX9_readHarm_46 : decode cX9_readHarm 46 = .ok (.ifCond .eq 13, 3) := by decide +kernel
theorem dX9_readHarm_49 : decode cX9_readHarm 49 = .ok (.aload_n 0, 1) := by decide +kernel
theorem dX9_readHarm_50 : decode cX9_readHarm 50 = .ok (.getfield 9, 3) := by decide +kernel
theorem dX9_readHarm_53 : decode cX9_readHarm 53 = .ok (.iload_n 1, 1) := by decide +kernel
theorem dX9_readHarm_54 : decode cX9_readHarm 54 = .ok (.iload_n 2, 1) := by decide +kernel
theorem dX9_readHarm_55 : decode cX9_readHarm 55 = .ok (.iload_n 3, 1) := by decide +kernel
theorem dX9_readHarm_56 : decode cX9_readHarm 56 = .ok (.invokevirtual 118, 3) := by decide +kernel
theorem dX9_readHarm_59 : decode cX9_readHarm 59 = .ok (.return_, 1) := by decide +kernel
theorem dX9_readChild_0 : decode cX9_readChild 0 = .ok (.aload_n 0, 1) := by decide +kernel
theorem dX9_readChild_1 : decode cX9_readChild 1 = .ok (.getfield 21, 3) := by decide +kernel
theorem dX9_readChild_4 : decode cX9_readChild 4 = .ok (.iconst 0, 1) := by decide +kernel
theorem dX9_readChild_5 : decode cX9_readChild 5 = .ok (.aload_n 0, 1) := by decide +kernel
theorem dX9_readChild_6 : decode cX9_readChild 6 = .ok (.getfield 9, 3) := by decide +kernel
theorem dX9_readChild_9 : decode cX9_readChild 9 = .ok (.getfield 45, 3) := by decide +kernel
theorem dX9_readChild_12 : decode cX9_readChild 12 = .ok (.iconst 1, 1) := by decide +kernel
theorem dX9_readChild_13 : decode cX9_readChild 13 = .ok (.isub, 1) := by decide +kernel
theorem dX9_readChild_14 : decode cX9_readChild 14 = .ok (.invokevirtual 83, 3) := by decide +kernel
theorem dX9_readChild_17 : decode cX9_readChild 17 = .ok (.istore_n 1, 1) := by decide +kernel
theorem dX9_readChild_18 : decode cX9_readChild 18 = .ok (.aload_n 0, 1) := by decide +kernel
theorem dX9_readChild_19 : decode cX9_readChild 19 = .ok (.getfield 21, 3) := by decide +kernel
theorem dX9_readChild_22 : decode cX9_readChild 22 = .ok (.invokevirtual 93, 3) := by decide +kernel
theorem dX9_readChild_25 : decode cX9_readChild 25 = .ok (.ifCond .eq 18, 3) := by decide +kernel
theorem dX9_readChild_28 : decode cX9_readChild 28 = .ok (.aload_n 0, 1) := by decide +kernel
theorem dX9_readChild_29 : decode cX9_readChild 29 = .ok (.getfield 9, 3) := by decide +kernel
theorem dX9_readChild_32 : decode cX9_readChild 32 = .ok (.dup, 1) := by decide +kernel
theorem dX9_readChild_33 : decode cX9_readChild 33 = .ok (.getfield 122, 3) := by decide +kernel
theorem dX9_readChild_36 : decode cX9_readChild 36 = .ok (.iconst 1, 1) := by decide +kernel
theorem dX9_readChild_37 : decode cX9_readChild 37 = .ok (.iload_n 1, 1) := by decide +kernel
theorem dX9_readChild_38 : decode cX9_readChild 38 = .ok (.ishl, 1) := by decide +kernel
theorem dX9_readChild_39 : decode cX9_readChild 39 = .ok (.ior, 1) := by decide +kernel
theorem dX9_readChild_40 : decode cX9_readChild 40 = .ok (.putfield 122, 3) := by decide +kernel
theorem dX9_readChild_43 : decode cX9_readChild 43 = .ok (.return_, 1) := by decide +kernel
theorem dX10_init_0 : decode cX10_init 0 = .ok (.aload_n 0, 1) := by decide +kernel
theorem dX10_init_1 : decode cX10_init 1 = .ok (.invokespecial 3, 3) := by decide +kernel
theorem dX10_init_4 : decode cX10_init 4 = .ok (.aload_n 0, 1) := by decide +kernel
theorem dX10_init_5 : decode cX10_init 5 = .ok (.bipush 8, 2) := by decide +kernel
theorem dX10_init_7 : decode cX10_init 7 = .ok (.newarray .int, 2) := by decide +kernel
theorem dX10_init_9 : decode cX10_init 9 = .ok (.putfield 9, 3) := by decide +kernel
theorem dX10_init_12 : decode cX10_init 12 = .ok (.return_, 1) := by decide +kernel
theorem dX10_weigh_0 : decode cX10_weigh 0 = .ok (.iconst 1, 1) := by decide +kernel
theorem dX10_weigh_1 : decode cX10_weigh 1 = .ok (.aload_n 1, 1) := by decide +kernel
theorem dX10_weigh_2 : decode cX10_weigh 2 = .ok (.getfield 15, 3) := by decide +kernel
theorem dX10_weigh_5 : decode cX10_weigh 5 = .ok (.getfield 21, 3) := by decide +kernel
theorem dX10_weigh_8 : decode cX10_weigh 8 = .ok (.ishl, 1) := by decide +kernel
theorem dX10_weigh_9 : decode cX10_weigh 9 = .ok (.iconst 1, 1) := by decide +kernel
theorem dX10_weigh_10 : decode cX10_weigh 10 = .ok (.isub, 1) := by decide +kernel
theorem dX10_weigh_11 : decode cX10_weigh 11 = .ok (.istore_n 2, 1) := by decide +kernel
theorem dX10_weigh_12 : decode cX10_weigh 12 = .ok (.aload_n 0, 1) := by decide +kernel
theorem dX10_weigh_13 : decode cX10_weigh 13 = .ok (.iconst 0, 1) := by decide +kernel
theorem dX10_weigh_14 : decode cX10_weigh 14 = .ok (.putfield 27, 3) := by decide +kernel
theorem dX10_weigh_17 : decode cX10_weigh 17 = .ok (.aload_n 0, 1) := by decide +kernel
theorem dX10_weigh_18 : decode cX10_weigh 18 = .ok (.iload_n 2, 1) := by decide +kernel
theorem dX10_weigh_19 : decode cX10_weigh 19 = .ok (.putfield 30, 3) := by decide +kernel
theorem dX10_weigh_22 : decode cX10_weigh 22 = .ok (.aload_n 0, 1) := by decide +kernel
theorem dX10_weigh_23 : decode cX10_weigh 23 = .ok (.iload_n 2, 1) := by decide +kernel
theorem dX10_weigh_24 : decode cX10_weigh 24 = .ok (.putfield 33, 3) := by decide +kernel
theorem dX10_weigh_27 : decode cX10_weigh 27 = .ok (.aload_n 0, 1) := by decide +kernel
theorem dX10_weigh_28 : decode cX10_weigh 28 = .ok (.bipush 127, 2) := by decide +kernel
theorem dX10_weigh_30 : decode cX10_weigh 30 = .ok (.putfield 36, 3) := by decide +kernel
theorem dX10_weigh_33 : decode cX10_weigh 33 = .ok (.aload_n 0, 1) := by decide +kernel
theorem dX10_weigh_34 : decode cX10_weigh 34 = .ok (.aload_n 0, 1) := by decide +kernel
theorem dX10_weigh_35 : decode cX10_weigh 35 = .ok (.getfield 36, 3) := by decide +kernel
theorem dX10_weigh_38 : decode cX10_weigh 38 = .ok (.putfield 39, 3) := by decide +kernel
theorem dX10_weigh_41 : decode cX10_weigh 41 = .ok (.aload_n 0, 1) := by decide +kernel
theorem dX10_weigh_42 : decode cX10_weigh 42 = .ok (.getfield 9, 3) := by decide +kernel
theorem dX10_weigh_45 : decode cX10_weigh 45 = .ok (.iconst 0, 1) := by decide +kernel
theorem dX10_weigh_46 : decode cX10_weigh 46 = .ok (.invokestatic 42, 3) := by decide +kernel
theorem dX10_weigh_49 : decode cX10_weigh 49 = .ok (.iconst 0, 1) := by decide +kernel
theorem dX10_weigh_50 : decode cX10_weigh 50 = .ok (.istore_n 3, 1) := by decide +kernel
theorem dX10_weigh_51 : decode cX10_weigh 51 = .ok (.iload_n 3, 1) := by decide +kernel
theorem dX10_weigh_52 : decode cX10_weigh 52 = .ok (.iload_n 2, 1) := by decide +kernel
theorem dX10_weigh_53 : decode cX10_weigh 53 = .ok (.if_icmp .gt 15, 3) := by decide +kernel
theorem dX10_weigh_56 : decode cX10_weigh 56 = .ok (.aload_n 0, 1) := by decide +kernel
theorem dX10_weigh_57 : decode cX10_weigh 57 = .ok (.aload_n 1, 1) := by decide +kernel
theorem dX10_weigh_58 : decode cX10_weigh 58 = .ok (.iload_n 3, 1) := by decide +kernel
theorem dX10_weigh_59 : decode cX10_weigh 59 = .ok (.invokevirtual 48, 3) := by decide +kernel
theorem dX10_weigh_62 : decode cX10_weigh 62 = .ok (.iinc 3 1, 3) := by decide +kernel
theorem dX10_weigh_65 : decode cX10_weigh 65 = .ok (.goto (-14), 3) := by decide +kernel
theorem dX10_weigh_68 : decode cX10_weigh 68 = .ok (.return_, 1) := by decide +kernel
theorem dX10_weighWay_0 : decode cX10_weighWay 0 = .ok (.iconst 0, 1) := by decide +kernel
theorem dX10_weighWay_1 : decode cX10_weighWay 1 = .ok (.istore_n 3, 1) := by decide +kernel
theorem dX10_weighWay_2 : decode cX10_weighWay 2 = .ok (.iconst 0, 1) := by decide +kernel
theorem dX10_weighWay_3 : decode cX10_weighWay 3 = .ok (.istore 4, 2) := by decide +kernel
theorem dX10_weighWay_5 : decode cX10_weighWay 5 = .ok (.iconst 0, 1) := by decide +kernel
theorem dX10_weighWay_6 : decode cX10_weighWay 6 = .ok (.istore 5, 2) := by decide +kernel
theorem dX10_weighWay_8 : decode cX10_weighWay 8 = .ok (.iload 5, 2) := by decide +kernel
theorem dX10_weighWay_10 : decode cX10_weighWay 10 = .ok (.aload_n 1, 1) := by decide +kernel
theorem dX10_weighWay_11 : decode cX10_weighWay 11 = .ok (.getfield 52, 3) := by decide +kernel
theorem dX10_weighWay_14 : decode cX10_weighWay 14 = .ok (.if_icmp .ge 66, 3) := by decide +kernel
theorem dX10_weighWay_17 : decode cX10_weighWay 17 = .ok (.iconst 1, 1) := by decide +kernel
theorem dX10_weighWay_18 : decode cX10_weighWay 18 = .ok (.aload_n 1, 1) := by decide +kernel
theorem dX10_weighWay_19 : decode cX10_weighWay 19 = .ok (.getfield 55, 3) := by decide +kernel
theorem dX10_weighWay_22 : decode cX10_weighWay 22 = .ok (.iconst 3, 1) := by decide +kernel
theorem dX10_weighWay_23 : decode cX10_weighWay 23 = .ok (.iload 5, 2) := by decide +kernel
theorem dX10_weighWay_25 : decode cX10_weighWay 25 = .ok (.imul, 1) := by decide +kernel
theorem dX10_weighWay_26 : decode cX10_weighWay 26 = .ok (.iaload, 1) := by decide +kernel
theorem dX10_weighWay_27 : decode cX10_weighWay 27 = .ok (.ishl, 1) := by decide +kernel
theorem dX10_weighWay_28 : decode cX10_weighWay 28 = .ok (.istore 6, 2) := by decide +kernel
theorem dX10_weighWay_30 : decode cX10_weighWay 30 = .ok (.iload_n 2, 1) := by decide +kernel
theorem dX10_weighWay_31 : decode cX10_weighWay 31 = .ok (.aload_n 1, 1) := by decide +kernel
theorem dX10_weighWay_32 : decode cX10_weighWay 32 = .ok (.getfield 55, 3) := by decide +kernel
theorem dX10_weighWay_35 : decode cX10_weighWay 35 = .ok (.iconst 3, 1) := by decide +kernel
theorem dX10_weighWay_36 : decode cX10_weighWay 36 = .ok (.iload 5, 2) := by decide +kernel
theorem dX10_weighWay_38 : decode cX10_weighWay 38 = .ok (.imul, 1) := by decide +kernel
theorem dX10_weighWay_39 : decode cX10_weighWay 39 = .ok (.iconst 1, 1) := by decide +kernel
theorem dX10_weighWay_40 : decode cX10_weighWay 40 = .ok (.iadd, 1) := by decide +kernel
theorem dX10_weighWay_41 : decode cX10_weighWay 41 = .ok (.iaload, 1) := by decide +kernel
theorem dX10_weighWay_42 : decode cX10_weighWay 42 = .ok (.invokestatic 58, 3) := by decide +kernel
theorem dX10_weighWay_45 : decode cX10_weighWay 45 = .ok (.aload_n 1, 1) := by decide +kernel
theorem dX10_weighWay_46 : decode cX10_weighWay 46 = .ok (.getfield 55, 3) := by decide +kernel
theorem dX10_weighWay_49 : decode cX10_weighWay 49 = .ok (.iconst 3, 1) := by decide +kernel
theorem dX10_weighWay_50 : decode cX10_weighWay 50 = .ok (.iload 5, 2) := by decide +kernel
theorem dX10_weighWay_52 : decode cX10_weighWay 52 = .ok (.imul, 1) := by decide +kernel
theorem dX10_weighWay_53 : decode cX10_weighWay 53 = .ok (.iconst 2, 1) := by decide +kernel
theorem dX10_weighWay_54 : decode cX10_weighWay 54 = .ok (.iadd, 1) := by decide +kernel
theorem dX10_weighWay_55 : decode cX10_weighWay 55 = .ok (.iaload, 1) := by decide +kernel
theorem dX10_weighWay_56 : decode cX10_weighWay 56 = .ok (.if_icmp .ne 13, 3) := by decide +kernel
theorem dX10_weighWay_59 : decode cX10_weighWay 59 = .ok (.iload 4, 2) := by decide +kernel
theorem dX10_weighWay_61 : decode cX10_weighWay 61 = .ok (.iload 6, 2) := by decide +kernel
theorem dX10_weighWay_63 : decode cX10_weighWay 63 = .ok (.ior, 1) := by decide +kernel
theorem dX10_weighWay_64 : decode cX10_weighWay 64 = .ok (.istore 4, 2) := by decide +kernel
theorem dX10_weighWay_66 : decode cX10_weighWay 66 = .ok (.goto 8, 3) := by decide +kernel
theorem dX10_weighWay_69 : decode cX10_weighWay 69 = .ok (.iload_n 3, 1) := by decide +kernel
theorem dX10_weighWay_70 : decode cX10_weighWay 70 = .ok (.iload 6, 2) := by decide +kernel
theorem dX10_weighWay_72 : decode cX10_weighWay 72 = .ok (.ior, 1) := by decide +kernel
theorem dX10_weighWay_73 : decode cX10_weighWay 73 = .ok (.istore_n 3, 1) := by decide +kernel
theorem dX10_weighWay_74 : decode cX10_weighWay 74 = .ok (.iinc 5 1, 3) := by decide +kernel
theorem dX10_weighWay_77 : decode cX10_weighWay 77 = .ok (.goto (-69), 3) := by decide +kernel
theorem dX10_weighWay_80 : decode cX10_weighWay 80 = .ok (.iload_n 3, 1) := by decide +kernel
theorem dX10_weighWay_81 : decode cX10_weighWay 81 = .ok (.iload 4, 2) := by decide +kernel
theorem dX10_weighWay_83 : decode cX10_weighWay 83 = .ok (.iand, 1) := by decide +kernel
theorem dX10_weighWay_84 : decode cX10_weighWay 84 = .ok (.ifCond .ne 11, 3) := by decide +kernel
theorem dX10_weighWay_87 : decode cX10_weighWay 87 = .ok (.aload_n 0, 1) := by decide +kernel
theorem dX10_weighWay_88 : decode cX10_weighWay 88 = .ok (.iload_n 2, 1) := by decide +kernel
theorem dX10_weighWay_89 : decode cX10_weighWay 89 = .ok (.iload_n 3, 1) := by decide +kernel
theorem dX10_weighWay_90 : decode cX10_weighWay 90 = .ok (.iload 4, 2) := by decide +kernel
theorem dX10_weighWay_92 : decode cX10_weighWay 92 = .ok (.invokevirtual 62, 3) := by decide +kernel
theorem dX10_weighWay_95 : decode cX10_weighWay 95 = .ok (.return_, 1) := by decide +kernel
theorem dX10_addWay_0 : decode cX10_addWay 0 = .ok (.aload_n 0, 1) := by decide +kernel
theorem dX10_addWay_1 : decode cX10_addWay 1 = .ok (.dup, 1) := by decide +kernel
theorem dX10_addWay_2 : decode cX10_addWay 2 = .ok (.getfield 27, 3) := by decide +kernel
theorem dX10_addWay_5 : decode cX10_addWay 5 = .ok (.iconst 1, 1) := by decide +kernel
theorem dX10_addWay_6 : decode cX10_addWay 6 = .ok (.iadd, 1) := by decide +kernel
theorem dX10_addWay_7 : decode cX10_addWay 7 = .ok (.putfield 27, 3) := by decide +kernel
theorem dX10_addWay_10 : decode cX10_addWay 10 = .ok (.aload_n 0, 1) := by decide +kernel
theorem dX10_addWay_11 : decode cX10_addWay 11 = .ok (.dup, 1) := by decide +kernel
theorem dX10_addWay_12 : decode cX10_addWay 12 = .ok (.getfield 30, 3) := by decide +kernel
theorem dX10_addWay_15 : decode cX10_addWay 15 = .ok (.iload_n 1, 1) := by decide +kernel
theorem dX10_addWay_16 : decode cX10_addWay 16 = .ok (.iand, 1) := by decide +kernel
theorem dX10_addWay_17 : decode cX10_addWay 17 = .ok (.putfield 30, 3) := by decide +kernel
theorem dX10_addWay_20 : decode cX10_addWay 20 = .ok (.aload_n 0, 1) := by decide +kernel
theorem dX10_addWay_21 : decode cX10_addWay 21 = .ok (.dup, 1) := by decide +kernel
theorem dX10_addWay_22 : decode cX10_addWay 22 = .ok (.getfield 33, 3) := by decide +kernel
theorem dX10_addWay_25 : decode cX10_addWay 25 = .ok (.iload_n 1, 1) := by decide +kernel
theorem dX10_addWay_26 : decode cX10_addWay 26 = .ok (.iconst (-1), 1) := by decide +kernel
theorem dX10_addWay_27 : decode cX10_addWay 27 = .ok (.ixor, 1) := by decide +kernel
theorem dX10_addWay_28 : decode cX10_addWay 28 = .ok (.iand, 1) := by decide +kernel
theorem dX10_addWay_29 : decode cX10_addWay 29 = .ok (.putfield 33, 3) := by decide +kernel
theorem dX10_addWay_32 : decode cX10_addWay 32 = .ok (.aload_n 0, 1) := by decide +kernel
theorem dX10_addWay_33 : decode cX10_addWay 33 = .ok (.dup, 1) := by decide +kernel
theorem dX10_addWay_34 : decode cX10_addWay 34 = .ok (.getfield 36, 3) := by decide +kernel
theorem dX10_addWay_37 : decode cX10_addWay 37 = .ok (.iload_n 2, 1) := by decide +kernel
theorem dX10_addWay_38 : decode cX10_addWay 38 = .ok (.iand, 1) := by decide +kernel
theorem dX10_addWay_39 : decode cX10_addWay 39 = .ok (.putfield 36, 3) := by decide +kernel
theorem dX10_addWay_42 : decode cX10_addWay 42 = .ok (.aload_n 0, 1) := by decide +kernel
theorem dX10_addWay_43 : decode cX10_addWay 43 = .ok (.dup, 1) := by decide +kernel
theorem dX10_addWay_44 : decode cX10_addWay 44 = .ok (.getfield 39, 3) := by decide +kernel
theorem dX10_addWay_47 : decode cX10_addWay 47 = .ok (.iload_n 3, 1) := by decide +kernel
theorem dX10_addWay_48 : decode cX10_addWay 48 = .ok (.iand, 1) := by decide +kernel
theorem dX10_addWay_49 : decode cX10_addWay 49 = .ok (.putfield 39, 3) := by decide +kernel
theorem dX10_addWay_52 : decode cX10_addWay 52 = .ok (.iconst 0, 1) := by decide +kernel
theorem dX10_addWay_53 : decode cX10_addWay 53 = .ok (.istore 4, 2) := by decide +kernel
theorem dX10_addWay_55 : decode cX10_addWay 55 = .ok (.iload 4, 2) := by decide +kernel
theorem dX10_addWay_57 : decode cX10_addWay 57 = .ok (.bipush 8, 2) := by decide +kernel
theorem dX10_addWay_59 : decode cX10_addWay 59 = .ok (.if_icmp .ge 25, 3) := by decide +kernel
theorem dX10_addWay_62 : decode cX10_addWay 62 = .ok (.aload_n 0, 1) := by decide +kernel
theorem dX10_addWay_63 : decode cX10_addWay 63 = .ok (.getfield 9, 3) := by decide +kernel
theorem dX10_addWay_66 : decode cX10_addWay 66 = .ok (.iload 4, 2) := by decide +kernel
theorem dX10_addWay_68 : decode cX10_addWay 68 = .ok (.dup2, 1) := by decide +kernel
theorem dX10_addWay_69 : decode cX10_addWay 69 = .ok (.iaload, 1) := by decide +kernel
theorem dX10_addWay_70 : decode cX10_addWay 70 = .ok (.iload_n 1, 1) := by decide +kernel
theorem dX10_addWay_71 : decode cX10_addWay 71 = .ok (.iload 4, 2) := by decide +kernel
theorem dX10_addWay_73 : decode cX10_addWay 73 = .ok (.invokestatic 58, 3) := by decide +kernel
theorem dX10_addWay_76 : decode cX10_addWay 76 = .ok (.iadd, 1) := by decide +kernel
theorem dX10_addWay_77 : decode cX10_addWay 77 = .ok (.iastore, 1) := by decide +kernel
theorem dX10_addWay_78 : decode cX10_addWay 78 = .ok (.iinc 4 1, 3) := by decide +kernel
theorem dX10_addWay_81 : decode cX10_addWay 81 = .ok (.goto (-26), 3) := by decide +kernel
theorem dX10_addWay_84 : decode cX10_addWay 84 = .ok (.return_, 1) := by decide +kernel
theorem dX10_mostAgreeing_0 : decode cX10_mostAgreeing 0 = .ok (.aload_n 0, 1) := by decide +kernel
theorem dX10_mostAgreeing_1 : decode cX10_mostAgreeing 1 = .ok (.getfield 9, 3) := by decide +kernel
theorem dX10_mostAgreeing_4 : decode cX10_mostAgreeing 4 = .ok (.iload_n 1, 1) := by decide +kernel
theorem dX10_mostAgreeing_5 : decode cX10_mostAgreeing 5 = .ok (.iaload, 1) := by decide +kernel
theorem dX10_mostAgreeing_6 : decode cX10_mostAgreeing 6 = .ok (.aload_n 0, 1) := by decide +kernel
theorem dX10_mostAgreeing_7 : decode cX10_mostAgreeing 7 = .ok (.getfield 27, 3) := by decide +kernel
theorem dX10_mostAgreeing_10 : decode cX10_mostAgreeing 10 = .ok (.aload_n 0, 1) := by decide +kernel
theorem dX10_mostAgreeing_11 : decode cX10_mostAgreeing 11 = .ok (.getfield 9, 3) := by decide +kernel
theorem dX10_mostAgreeing_14 : decode cX10_mostAgreeing 14 = .ok (.iload_n 1, 1) := by decide +kernel
theorem dX10_mostAgreeing_15 : decode cX10_mostAgreeing 15 = .ok (.iaload, 1) := by decide +kernel
theorem dX10_mostAgreeing_16 : decode cX10_mostAgreeing 16 = .ok (.isub, 1) := by decide +kernel
theorem dX10_mostAgreeing_17 : decode cX10_mostAgreeing 17 = .ok (.invokestatic 66, 3) := by decide +kernel
theorem dX10_mostAgreeing_20 : decode cX10_mostAgreeing 20 = .ok (.ireturn, 1) := by decide +kernel
theorem dX11_init_0 : decode cX11_init 0 = .ok (.aload_n 0, 1) := by decide +kernel
theorem dX11_init_1 : decode cX11_init 1 = .ok (.invokespecial 1, 3) := by decide +kernel
theorem dX11_init_4 : decode cX11_init 4 = .ok (.aload_n 0, 1) := by decide +kernel
theorem dX11_init_5 : decode cX11_init 5 = .ok (.sipush 400, 3) := by decide +kernel
theorem dX11_init_8 : decode cX11_init 8 = .ok (.newarray .byte, 2) := by decide +kernel
theorem dX11_init_10 : decode cX11_init 10 = .ok (.putfield 9, 3) := by decide +kernel
theorem dX11_init_13 : decode cX11_init 13 = .ok (.aload_n 0, 1) := by decide +kernel
theorem dX11_init_14 : decode cX11_init 14 = .ok (.new 13, 3) := by decide +kernel
theorem dX11_init_17 : decode cX11_init 17 = .ok (.dup, 1) := by decide +kernel
theorem dX11_init_18 : decode cX11_init 18 = .ok (.invokespecial 15, 3) := by decide +kernel
theorem dX11_init_21 : decode cX11_init 21 = .ok (.putfield 16, 3) := by decide +kernel
theorem dX11_init_24 : decode cX11_init 24 = .ok (.aload_n 0, 1) := by decide +kernel
theorem dX11_init_25 : decode cX11_init 25 = .ok (.new 20, 3) := by decide +kernel
theorem dX11_init_28 : decode cX11_init 28 = .ok (.dup, 1) := by decide +kernel
theorem dX11_init_29 : decode cX11_init 29 = .ok (.invokespecial 22, 3) := by decide +kernel
theorem dX11_init_32 : decode cX11_init 32 = .ok (.putfield 23, 3) := by decide +kernel
theorem dX11_init_35 : decode cX11_init 35 = .ok (.aload_n 0, 1) := by decide +kernel
theorem dX11_init_36 : decode cX11_init 36 = .ok (.bipush 6, 2) := by decide +kernel
theorem dX11_init_38 : decode cX11_init 38 = .ok (.anewarray 27, 3) := by decide +kernel
theorem dX11_init_41 : decode cX11_init 41 = .ok (.putfield 29, 3) := by decide +kernel
theorem dX11_init_44 : decode cX11_init 44 = .ok (.aload_n 0, 1) := by decide +kernel
theorem dX11_init_45 : decode cX11_init 45 = .ok (.new 33, 3) := by decide +kernel
theorem dX11_init_48 : decode cX11_init 48 = .ok (.dup, 1) := by decide +kernel
theorem dX11_init_49 : decode cX11_init 49 = .ok (.invokespecial 35, 3) := by decide +kernel
theorem dX11_init_52 : decode cX11_init 52 = .ok (.putfield 36, 3) := by decide +kernel
theorem dX11_init_55 : decode cX11_init 55 = .ok (.aload_n 0, 1) := by decide +kernel
theorem dX11_init_56 : decode cX11_init 56 = .ok (.iconst 4, 1) := by decide +kernel
theorem dX11_init_57 : decode cX11_init 57 = .ok (.anewarray 33, 3) := by decide +kernel
theorem dX11_init_60 : decode cX11_init 60 = .ok (.putfield 40, 3) := by decide +kernel
theorem dX11_init_63 : decode cX11_init 63 = .ok (.aload_n 0, 1) := by decide +kernel
theorem dX11_init_64 : decode cX11_init 64 = .ok (.iconst 4, 1) := by decide +kernel
theorem dX11_init_65 : decode cX11_init 65 = .ok (.newarray .boolean, 2) := by decide +kernel
theorem dX11_init_67 : decode cX11_init 67 = .ok (.putfield 44, 3) := by decide +kernel
theorem dX11_init_70 : decode cX11_init 70 = .ok (.aload_n 0, 1) := by decide +kernel
theorem dX11_init_71 : decode cX11_init 71 = .ok (.new 48, 3) := by decide +kernel
theorem dX11_init_74 : decode cX11_init 74 = .ok (.dup, 1) := by decide +kernel
theorem dX11_init_75 : decode cX11_init 75 = .ok (.invokespecial 50, 3) := by decide +kernel
theorem dX11_init_78 : decode cX11_init 78 = .ok (.putfield 51, 3) := by decide +kernel
theorem dX11_init_81 : decode cX11_init 81 = .ok (.aload_n 0, 1) := by decide +kernel
theorem dX11_init_82 : decode cX11_init 82 = .ok (.new 55, 3) := by decide +kernel
theorem dX11_init_85 : decode cX11_init 85 = .ok (.dup, 1) := by decide +kernel
theorem dX11_init_86 : decode cX11_init 86 = .ok (.aload_n 0, 1) := by decide +kernel
theorem dX11_init_87 : decode cX11_init 87 = .ok (.getfield 36, 3) := by decide +kernel
theorem dX11_init_90 : decode cX11_init 90 = .ok (.getfield 57, 3) := by decide +kernel
theorem dX11_init_93 : decode cX11_init 93 = .ok (.aload_n 0, 1) := by decide +kernel
theorem dX11_init_94 : decode cX11_init 94 = .ok (.getfield 36, 3) := by decide +kernel
theorem dX11_init_97 : decode cX11_init 97 = .ok (.getfield 60, 3) := by decide +kernel
theorem dX11_init_100 : decode cX11_init 100 = .ok (.invokespecial 64, 3) := by decide +kernel
theorem dX11_init_103 : decode cX11_init 103 = .ok (.putfield 67, 3) := by decide +kernel
theorem dX11_init_106 : decode cX11_init 106 = .ok (.aload_n 0, 1) := by decide +kernel
theorem dX11_init_107 : decode cX11_init 107 = .ok (.new 71, 3) := by decide +kernel
theorem dX11_init_110 : decode cX11_init 110 = .ok (.dup, 1) := by decide +kernel
theorem dX11_init_111 : decode cX11_init 111 = .ok (.invokespecial 73, 3) := by decide +kernel
theorem dX11_init_114 : decode cX11_init 114 = .ok (.putfield 74, 3) := by decide +kernel
theorem dX11_init_117 : decode cX11_init 117 = .ok (.aload_n 0, 1) := by decide +kernel
theorem dX11_init_118 : decode cX11_init 118 = .ok (.new 78, 3) := by decide +kernel
theorem dX11_init_121 : decode cX11_init 121 = .ok (.dup, 1) := by decide +kernel
theorem dX11_init_122 : decode cX11_init 122 = .ok (.invokespecial 80, 3) := by decide +kernel
theorem dX11_init_125 : decode cX11_init 125 = .ok (.putfield 81, 3) := by decide +kernel
theorem dX11_init_128 : decode cX11_init 128 = .ok (.aload_n 0, 1) := by decide +kernel
theorem dX11_init_129 : decode cX11_init 129 = .ok (.bipush 8, 2) := by decide +kernel
theorem dX11_init_131 : decode cX11_init 131 = .ok (.newarray .int, 2) := by decide +kernel
theorem dX11_init_133 : decode cX11_init 133 = .ok (.putfield 84, 3) := by decide +kernel
theorem dX11_init_136 : decode cX11_init 136 = .ok (.bipush 64, 2) := by decide +kernel
theorem dX11_init_138 : decode cX11_init 138 = .ok (.newarray .long, 2) := by decide +kernel
theorem dX11_init_140 : decode cX11_init 140 = .ok (.astore_n 1, 1) := by decide +kernel
theorem dX11_init_141 : decode cX11_init 141 = .ok (.iconst 0, 1) := by decide +kernel
theorem dX11_init_142 : decode cX11_init 142 = .ok (.istore_n 2, 1) := by decide +kernel
theorem dX11_init_143 : decode cX11_init 143 = .ok (.iload_n 2, 1) := by decide +kernel
theorem dX11_init_144 : decode cX11_init 144 = .ok (.bipush 6, 2) := by decide +kernel
theorem dX11_init_146 : decode cX11_init 146 = .ok (.if_icmp .ge 23, 3) := by decide +kernel
theorem dX11_init_149 : decode cX11_init 149 = .ok (.aload_n 0, 1) := by decide +kernel
theorem dX11_init_150 : decode cX11_init 150 = .ok (.getfield 29, 3) := by decide +kernel
theorem dX11_init_153 : decode cX11_init 153 = .ok (.iload_n 2, 1) := by decide +kernel
theorem dX11_init_154 : decode cX11_init 154 = .ok (.new 27, 3) := by decide +kernel
theorem dX11_init_157 : decode cX11_init 157 = .ok (.dup, 1) := by decide +kernel
theorem dX11_init_158 : decode cX11_init 158 = .ok (.aload_n 1, 1) := by decide +kernel
theorem dX11_init_159 : decode cX11_init 159 = .ok (.invokespecial 88, 3) := by decide +kernel
theorem dX11_init_162 : decode cX11_init 162 = .ok (.aastore, 1) := by decide +kernel
theorem dX11_init_163 : decode cX11_init 163 = .ok (.iinc 2 1, 3) := by decide +kernel
theorem dX11_init_166 : decode cX11_init 166 = .ok (.goto (-23), 3) := by decide +kernel
theorem dX11_init_169 : decode cX11_init 169 = .ok (.iconst 0, 1) := by decide +kernel
theorem dX11_init_170 : decode cX11_init 170 = .ok (.istore_n 2, 1) := by decide +kernel
theorem dX11_init_171 : decode cX11_init 171 = .ok (.iload_n 2, 1) := by decide +kernel
theorem dX11_init_172 : decode cX11_init 172 = .ok (.iconst 4, 1) := by decide +kernel
theorem dX11_init_173 : decode cX11_init 173 = .ok (.if_icmp .ge 22, 3) := by decide +kernel
theorem dX11_init_176 : decode cX11_init 176 = .ok (.aload_n 0, 1) := by decide +kernel
theorem dX11_init_177 : decode cX11_init 177 = .ok (.getfield 40, 3) := by decide +kernel
theorem dX11_init_180 : decode cX11_init 180 = .ok (.iload_n 2, 1) := by decide +kernel
theorem dX11_init_181 : decode cX11_init 181 = .ok (.new 33, 3) := by decide +kernel
theorem dX11_init_184 : decode cX11_init 184 = .ok (.dup, 1) := by decide +kernel
theorem dX11_init_185 : decode cX11_init 185 = .ok (.invokespecial 35, 3) := by decide +kernel
theorem dX11_init_188 : decode cX11_init 188 = .ok (.aastore, 1) := by decide +kernel
theorem dX11_init_189 : decode cX11_init 189 = .ok (.iinc 2 1, 3) := by decide +kernel
theorem dX11_init_192 : decode cX11_init 192 = .ok (.goto (-21), 3) := by decide +kernel
theorem dX11_init_195 : decode cX11_init 195 = .ok (.aload_n 0, 1) := by decide +kernel
theorem dX11_init_196 : decode cX11_init 196 = .ok (.new 91, 3) := by decide +kernel
theorem dX11_init_199 : decode cX11_init 199 = .ok (.dup, 1) := by decide +kernel
theorem dX11_init_200 : decode cX11_init 200 = .ok (.aload_n 0, 1) := by decide +kernel
theorem dX11_init_201 : decode cX11_init 201 = .ok (.getfield 16, 3) := by decide +kernel
theorem dX11_init_204 : decode cX11_init 204 = .ok (.aload_n 0, 1) := by decide +kernel
theorem dX11_init_205 : decode cX11_init 205 = .ok (.getfield 23, 3) := by decide +kernel
theorem dX11_init_208 : decode cX11_init 208 = .ok (.invokespecial 93, 3) := by decide +kernel
theorem dX11_init_211 : decode cX11_init 211 = .ok (.putfield 96, 3) := by decide +kernel
theorem dX11_init_214 : decode cX11_init 214 = .ok (.aload_n 0, 1) := by decide +kernel
theorem dX11_init_215 : decode cX11_init 215 = .ok (.new 100, 3) := by decide +kernel
theorem dX11_init_218 : decode cX11_init 218 = .ok (.dup, 1) := by decide +kernel
theorem dX11_init_219 : decode cX11_init 219 = .ok (.aload_n 0, 1) := by decide +kernel
theorem dX11_init_220 : decode cX11_init 220 = .ok (.getfield 16, 3) := by decide +kernel
theorem dX11_init_223 : decode cX11_init 223 = .ok (.aload_n 0, 1) := by decide +kernel
theorem dX11_init_224 : decode cX11_init 224 = .ok (.getfield 29, 3) := by decide +kernel
theorem dX11_init_227 : decode cX11_init 227 = .ok (.iconst 0, 1) := by decide +kernel
theorem dX11_init_228 : decode cX11_init 228 = .ok (.aaload, 1) := by decide +kernel
theorem dX11_init_229 : decode cX11_init 229 = .ok (.invokespecial 102, 3) := by decide +kernel
theorem dX11_init_232 : decode cX11_init 232 = .ok (.putfield 105, 3) := by decide +kernel
theorem dX11_init_235 : decode cX11_init 235 = .ok (.return_, 1) := by decide +kernel
theorem dX11_feed_0 : decode cX11_feed 0 = .ok (.aload_n 0, 1) := by decide +kernel
theorem dX11_feed_1 : decode cX11_feed 1 = .ok (.getfield 109, 3) := by decide +kernel
theorem dX11_feed_4 : decode cX11_feed 4 = .ok (.bipush 20, 2) := by decide +kernel
theorem dX11_feed_6 : decode cX11_feed 6 = .ok (.iadd, 1) := by decide +kernel
theorem dX11_feed_7 : decode cX11_feed 7 = .ok (.sipush 400, 3) := by decide +kernel
theorem dX11_feed_10 : decode cX11_feed 10 = .ok (.if_icmp .le 5, 3) := by decide +kernel
theorem dX11_feed_13 : decode cX11_feed 13 = .ok (.iconst (-1), 1) := by decide +kernel
theorem dX11_feed_14 : decode cX11_feed 14 = .ok (.ireturn, 1) := by decide +kernel
theorem dX11_feed_15 : decode cX11_feed 15 = .ok (.aload_n 0, 1) := by decide +kernel
theorem dX11_feed_16 : decode cX11_feed 16 = .ok (.iload_n 1, 1) := by decide +kernel
theorem dX11_feed_17 : decode cX11_feed 17 = .ok (.invokevirtual 113, 3) := by decide +kernel
theorem dX11_feed_20 : decode cX11_feed 20 = .ok (.aload_n 0, 1) := by decide +kernel
theorem dX11_feed_21 : decode cX11_feed 21 = .ok (.iload_n 2, 1) := by decide +kernel
theorem dX11_feed_22 : decode cX11_feed 22 = .ok (.invokevirtual 113, 3) := by decide +kernel
theorem dX11_feed_25 : decode cX11_feed 25 = .ok (.aload_n 0, 1) := by decide +kernel
theorem dX11_feed_26 : decode cX11_feed 26 = .ok (.iload_n 3, 1) := by decide +kernel
theorem dX11_feed_27 : decode cX11_feed 27 = .ok (.invokevirtual 113, 3) := by decide +kernel
theorem dX11_feed_30 : decode cX11_feed 30 = .ok (.aload_n 0, 1) := by decide +kernel
theorem dX11_feed_31 : decode cX11_feed 31 = .ok (.iload 4, 2) := by decide +kernel
theorem dX11_feed_33 : decode cX11_feed 33 = .ok (.invokevirtual 113, 3) := by decide +kernel
theorem dX11_feed_36 : decode cX11_feed 36 = .ok (.aload_n 0, 1) := by decide +kernel
theorem dX11_feed_37 : decode cX11_feed 37 = .ok (.iload 5, 2) := by decide +kernel
theorem dX11_feed_39 : decode cX11_feed 39 = .ok (.invokevirtual 113, 3) := by decide +kernel
theorem dX11_feed_42 : decode cX11_feed 42 = .ok (.aload_n 0, 1) := by decide +kernel
theorem dX11_feed_43 : decode cX11_feed 43 = .ok (.getfield 109, 3) := by decide +kernel
theorem dX11_feed_46 : decode cX11_feed 46 = .ok (.ireturn, 1) := by decide +kernel
theorem dX11_addBytes_0 : decode cX11_addBytes 0 = .ok (.bipush 24, 2) := by decide +kernel
theorem dX11_addBytes_2 : decode cX11_addBytes 2 = .ok (.istore_n 2, 1) := by decide +kernel
theorem dX11_addBytes_3 : decode cX11_addBytes 3 = .ok (.iload_n 2, 1) := by decide +kernel
theorem dX11_addBytes_4 : decode cX11_addBytes 4 = .ok (.ifCond .lt 42, 3) := by decide +kernel
theorem dX11_addBytes_7 : decode cX11_addBytes 7 = .ok (.aload_n 0, 1) := by decide +kernel
theorem dX11_addBytes_8 : decode cX11_addBytes 8 = .ok (.getfield 109, 3) := by decide +kernel
theorem dX11_addBytes_11 : decode cX11_addBytes 11 = .ok (.sipush 400, 3) := by decide +kernel
theorem dX11_addBytes_14 : decode cX11_addBytes 14 = .ok (.if_icmp .ge 26, 3) := by decide +kernel
theorem dX11_addBytes_17 : decode cX11_addBytes 17 = .ok (.aload_n 0, 1) := by decide +kernel
theorem dX11_addBytes_18 : decode cX11_addBytes 18 = .ok (.getfield 9, 3) := by decide +kernel
theorem dX11_addBytes_21 : decode cX11_addBytes 21 = .ok (.aload_n 0, 1) := by decide +kernel
theorem dX11_addBytes_22 : decode cX11_addBytes 22 = .ok (.getfield 109, 3) := by decide +kernel
theorem dX11_addBytes_25 : decode cX11_addBytes 25 = .ok (.iload_n 1, 1) := by decide +kernel
theorem dX11_addBytes_26 : decode cX11_addBytes 26 = .ok (.iload_n 2, 1) := by decide +kernel
theorem dX11_addBytes_27 : decode cX11_addBytes 27 = .ok (.ishr, 1) := by decide +kernel
theorem dX11_addBytes_28 : decode cX11_addBytes 28 = .ok (.i2b, 1) := by decide +kernel
theorem dX11_addBytes_29 : decode cX11_addBytes 29 = .ok (.bastore, 1) := by decide +kernel
theorem dX11_addBytes_30 : decode cX11_addBytes 30 = .ok (.aload_n 0, 1) := by decide +kernel
theorem dX11_addBytes_31 : decode cX11_addBytes 31 = .ok (.dup, 1) := by decide +kernel
theorem dX11_addBytes_32 : decode cX11_addBytes 32 = .ok (.getfield 109, 3) := by decide +kernel
theorem dX11_addBytes_35 : decode cX11_addBytes 35 = .ok (.iconst 1, 1) := by decide +kernel
theorem dX11_addBytes_36 : decode cX11_addBytes 36 = .ok (.iadd, 1) := by decide +kernel
theorem dX11_addBytes_37 : decode cX11_addBytes 37 = .ok (.putfield 109, 3) := by decide +kernel
theorem dX11_addBytes_40 : decode cX11_addBytes 40 = .ok (.iinc 2 (-8), 3) := by decide +kernel
theorem dX11_addBytes_43 : decode cX11_addBytes 43 = .ok (.goto (-40), 3) := by decide +kernel
theorem dX11_addBytes_46 : decode cX11_addBytes 46 = .ok (.return_, 1) := by decide +kernel
theorem dX11_end_0 : decode cX11_end 0 = .ok (.iload_n 1, 1) := by decide +kernel
theorem dX11_end_1 : decode cX11_end 1 = .ok (.ifCond .lt 11, 3) := by decide +kernel
theorem dX11_end_4 : decode cX11_end 4 = .ok (.iload_n 1, 1) := by decide +kernel
theorem dX11_end_5 : decode cX11_end 5 = .ok (.aload_n 0, 1) := by decide +kernel
theorem dX11_end_6 : decode cX11_end 6 = .ok (.getfield 109, 3) := by decide +kernel
theorem dX11_end_9 : decode cX11_end 9 = .ok (.if_icmp .le 5, 3) := by decide +kernel
theorem dX11_end_12 : decode cX11_end 12 = .ok (.iconst (-1), 1) := by decide +kernel
theorem dX11_end_13 : decode cX11_end 13 = .ok (.ireturn, 1) := by decide +kernel
theorem dX11_end_14 : decode cX11_end 14 = .ok (.aload_n 0, 1) := by decide +kernel
theorem dX11_end_15 : decode cX11_end 15 = .ok (.iload_n 1, 1) := by decide +kernel
theorem dX11_end_16 : decode cX11_end 16 = .ok (.putfield 109, 3) := by decide +kernel
theorem dX11_end_19 : decode cX11_end 19 = .ok (.iload_n 1, 1) := by decide +kernel
theorem dX11_end_20 : decode cX11_end 20 = .ok (.ireturn, 1) := by decide +kernel
theorem dX11_town_0 : decode cX11_town 0 = .ok (.aload_n 0, 1) := by decide +kernel
theorem dX11_town_1 : decode cX11_town 1 = .ok (.getfield 16, 3) := by decide +kernel
theorem dX11_town_4 : decode cX11_town 4 = .ok (.aload_n 0, 1) := by decide +kernel
theorem dX11_town_5 : decode cX11_town 5 = .ok (.getfield 9, 3) := by decide +kernel
theorem dX11_town_8 : decode cX11_town 8 = .ok (.aload_n 0, 1) := by decide +kernel
theorem dX11_town_9 : decode cX11_town 9 = .ok (.getfield 109, 3) := by decide +kernel
theorem dX11_town_12 : decode cX11_town 12 = .ok (.invokevirtual 117, 3) := by decide +kernel
theorem dX11_town_15 : decode cX11_town 15 = .ok (.aload_n 0, 1) := by decide +kernel
theorem dX11_town_16 : decode cX11_town 16 = .ok (.iconst 0, 1) := by decide +kernel
theorem dX11_town_17 : decode cX11_town 17 = .ok (.putfield 109, 3) := by decide +kernel
theorem dX11_town_20 : decode cX11_town 20 = .ok (.aload_n 0, 1) := by decide +kernel
theorem dX11_town_21 : decode cX11_town 21 = .ok (.getfield 96, 3) := by decide +kernel
theorem dX11_town_24 : decode cX11_town 24 = .ok (.aload_n 0, 1) := by decide +kernel
theorem dX11_town_25 : decode cX11_town 25 = .ok (.getfield 23, 3) := by decide +kernel
theorem dX11_town_28 : decode cX11_town 28 = .ok (.invokevirtual 121, 3) := by decide +kernel
theorem dX11_town_31 : decode cX11_town 31 = .ok (.aload_n 0, 1) := by decide +kernel
theorem dX11_town_32 : decode cX11_town 32 = .ok (.getfield 96, 3) := by decide +kernel
theorem dX11_town_35 : decode cX11_town 35 = .ok (.bipush 40, 2) := by decide +kernel
theorem dX11_town_37 : decode cX11_town 37 = .ok (.invokevirtual 125, 3) := by decide +kernel
theorem dX11_town_40 : decode cX11_town 40 = .ok (.istore_n 1, 1) := by decide +kernel
theorem dX11_town_41 : decode cX11_town 41 = .ok (.iload_n 1, 1) := by decide +kernel
theorem dX11_town_42 : decode cX11_town 42 = .ok (.ifCond .eq 8, 3) := by decide +kernel
theorem dX11_town_45 : decode cX11_town 45 = .ok (.bipush (-2), 2) := by decide +kernel
theorem dX11_town_47 : decode cX11_town 47 = .ok (.iload_n 1, 1) := by decide +kernel
theorem dX11_town_48 : decode cX11_town 48 = .ok (.isub, 1) := by decide +kernel
theorem dX11_town_49 : decode cX11_town 49 = .ok (.ireturn, 1) := by decide +kernel
theorem dX11_town_50 : decode cX11_town 50 = .ok (.aload_n 0, 1) := by decide +kernel
theorem dX11_town_51 : decode cX11_town 51 = .ok (.getfield 36, 3) := by decide +kernel
theorem dX11_town_54 : decode cX11_town 54 = .ok (.aload_n 0, 1) := by decide +kernel
theorem dX11_town_55 : decode cX11_town 55 = .ok (.getfield 23, 3) := by decide +kernel
theorem dX11_town_58 : decode cX11_town 58 = .ok (.invokevirtual 129, 3) := by decide +kernel
theorem dX11_town_61 : decode cX11_town 61 = .ok (.aload_n 0, 1) := by decide +kernel
theorem dX11_town_62 : decode cX11_town 62 = .ok (.getfield 51, 3) := by decide +kernel
theorem dX11_town_65 : decode cX11_town 65 = .ok (.invokevirtual 132, 3) := by decide +kernel
theorem dX11_town_68 : decode cX11_town 68 = .ok (.aload_n 0, 1) := by decide +kernel
theorem dX11_town_69 : decode cX11_town 69 = .ok (.getfield 36, 3) := by decide +kernel
theorem dX11_town_72 : decode cX11_town 72 = .ok (.getfield 57, 3) := by decide +kernel
theorem dX11_town_75 : decode cX11_town 75 = .ok (.getfield 135, 3) := by decide +kernel
theorem dX11_town_78 : decode cX11_town 78 = .ok (.ireturn, 1) := by decide +kernel
theorem dX11_rule_0 : decode cX11_rule 0 = .ok (.aload_n 0, 1) := by decide +kernel
theorem dX11_rule_1 : decode cX11_rule 1 = .ok (.getfield 138, 3) := by decide +kernel
theorem dX11_rule_4 : decode cX11_rule 4 = .ok (.bipush 6, 2) := by decide +kernel
theorem dX11_rule_6 : decode cX11_rule 6 = .ok (.if_icmp .lt 5, 3) := by decide +kernel
theorem dX11_rule_9 : decode cX11_rule 9 = .ok (.iconst (-1), 1) := by decide +kernel
theorem dX11_rule_10 : decode cX11_rule 10 = .ok (.ireturn, 1) := by decide +kernel
theorem dX11_rule_11 : decode cX11_rule 11 = .ok (.aload_n 0, 1) := by decide +kernel
theorem dX11_rule_12 : decode cX11_rule 12 = .ok (.getfield 16, 3) := by decide +kernel
theorem dX11_rule_15 : decode cX11_rule 15 = .ok (.aload_n 0, 1) := by decide +kernel
theorem dX11_rule_16 : decode cX11_rule 16 = .ok (.getfield 9, 3) := by decide +kernel
theorem dX11_rule_19 : decode cX11_rule 19 = .ok (.aload_n 0, 1) := by decide +kernel
theorem dX11_rule_20 : decode cX11_rule 20 = .ok (.getfield 109, 3) := by decide +kernel
theorem dX11_rule_23 : decode cX11_rule 23 = .ok (.invokevirtual 117, 3) := by decide +kernel
theorem dX11_rule_26 : decode cX11_rule 26 = .ok (.aload_n 0, 1) := by decide +kernel
theorem dX11_rule_27 : decode cX11_rule 27 = .ok (.iconst 0, 1) := by decide +kernel
theorem dX11_rule_28 : decode cX11_rule 28 = .ok (.putfield 109, 3) := by decide +kernel
theorem dX11_rule_31 : decode cX11_rule 31 = .ok (.aload_n 0, 1) := by decide +kernel
theorem dX11_rule_32 : decode cX11_rule 32 = .ok (.getfield 105, 3) := by decide +kernel
theorem dX11_rule_35 : decode cX11_rule 35 = .ok (.aload_n 0, 1) := by decide +kernel
theorem dX11_rule_36 : decode cX11_rule 36 = .ok (.getfield 29, 3) := by decide +kernel
theorem dX11_rule_39 : decode cX11_rule 39 = .ok (.aload_n 0, 1) := by decide +kernel
theorem dX11_rule_40 : decode cX11_rule 40 = .ok (.getfield 138, 3) := by decide +kernel
theorem dX11_rule_43 : decode cX11_rule 43 = .ok (.aaload, 1) := by decide +kernel
theorem dX11_rule_44 : decode cX11_rule 44 = .ok (.invokevirtual 141, 3) := by decide +kernel
theorem dX11_rule_47 : decode cX11_rule 47 = .ok (.aload_n 0, 1) := by decide +kernel
theorem dX11_rule_48 : decode cX11_rule 48 = .ok (.getfield 105, 3) := by decide +kernel
theorem dX11_rule_51 : decode cX11_rule 51 = .ok (.bipush 12, 2) := by decide +kernel
theorem dX11_rule_53 : decode cX11_rule 53 = .ok (.invokevirtual 144, 3) := by decide +kernel
theorem dX11_rule_56 : decode cX11_rule 56 = .ok (.istore_n 1, 1) := by decide +kernel
theorem dX11_rule_57 : decode cX11_rule 57 = .ok (.iload_n 1, 1) := by decide +kernel
theorem dX11_rule_58 : decode cX11_rule 58 = .ok (.ifCond .eq 8, 3) := by decide +kernel
theorem dX11_rule_61 : decode cX11_rule 61 = .ok (.bipush (-2), 2) := by decide +kernel
theorem dX11_rule_63 : decode cX11_rule 63 = .ok (.iload_n 1, 1) := by decide +kernel
theorem dX11_rule_64 : decode cX11_rule 64 = .ok (.isub, 1) := by decide +kernel
theorem dX11_rule_65 : decode cX11_rule 65 = .ok (.ireturn, 1) := by decide +kernel
theorem dX11_rule_66 : decode cX11_rule 66 = .ok (.aload_n 0, 1) := by decide +kernel
theorem dX11_rule_67 : decode cX11_rule 67 = .ok (.dup, 1) := by decide +kernel
theorem dX11_rule_68 : decode cX11_rule 68 = .ok (.getfield 138, 3) := by decide +kernel
theorem dX11_rule_71 : decode cX11_rule 71 = .ok (.iconst 1, 1) := by decide +kernel
theorem dX11_rule_72 : decode cX11_rule 72 = .ok (.iadd, 1) := by decide +kernel
theorem dX11_rule_73 : decode cX11_rule 73 = .ok (.putfield 138, 3) := by decide +kernel
theorem dX11_rule_76 : decode cX11_rule 76 = .ok (.aload_n 0, 1) := by decide +kernel
theorem dX11_rule_77 : decode cX11_rule 77 = .ok (.getfield 138, 3) := by decide +kernel
theorem dX11_rule_80 : decode cX11_rule 80 = .ok (.iconst 1, 1) := by decide +kernel
theorem dX11_rule_81 : decode cX11_rule 81 = .ok (.isub, 1) := by decide +kernel
theorem dX11_rule_82 : decode cX11_rule 82 = .ok (.ireturn, 1) := by decide +kernel
theorem dX11_charter_0 : decode cX11_charter 0 = .ok (.iload_n 1, 1) := by decide +kernel
theorem dX11_charter_1 : decode cX11_charter 1 = .ok (.iconst (-1), 1) := by decide +kernel
theorem dX11_charter_2 : decode cX11_charter 2 = .ok (.if_icmp .eq 14, 3) := by decide +kernel
theorem dX11_charter_5 : decode cX11_charter 5 = .ok (.aload_n 0, 1) := by decide +kernel
theorem dX11_charter_6 : decode cX11_charter 6 = .ok (.iload_n 1, 1) := by decide +kernel
theorem dX11_charter_7 : decode cX11_charter 7 = .ok (.invokevirtual 145, 3) := by decide +kernel
theorem dX11_charter_10 : decode cX11_charter 10 = .ok (.ifCond .ne 6, 3) := by decide +kernel
theorem dX11_charter_13 : decode cX11_charter 13 = .ok (.bipush (-2), 2) := by decide +kernel
theorem dX11_charter_15 : decode cX11_charter 15 = .ok (.ireturn, 1) := by decide +kernel
theorem dX11_charter_16 : decode cX11_charter 16 = .ok (.aload_n 0, 1) := by decide +kernel
theorem dX11_charter_17 : decode cX11_charter 17 = .ok (.getfield 36, 3) := by decide +kernel
theorem dX11_charter_20 : decode cX11_charter 20 = .ok (.getfield 149, 3) := by decide +kernel
theorem dX11_charter_23 : decode cX11_charter 23 = .ok (.istore_n 2, 1) := by decide +kernel
theorem dX11_charter_24 : decode cX11_charter 24 = .ok (.aload_n 0, 1) := by decide +kernel
theorem dX11_charter_25 : decode cX11_charter 25 = .ok (.getfield 36, 3) := by decide +kernel
theorem dX11_charter_28 : decode cX11_charter 28 = .ok (.iload_n 1, 1) := by decide +kernel
theorem dX11_charter_29 : decode cX11_charter 29 = .ok (.putfield 149, 3) := by decide +kernel
theorem dX11_charter_32 : decode cX11_charter 32 = .ok (.iload_n 2, 1) := by decide +kernel
theorem dX11_charter_33 : decode cX11_charter 33 = .ok (.ireturn, 1) := by decide +kernel
theorem dX11_holds_0 : decode cX11_holds 0 = .ok (.aload_n 0, 1) := by decide +kernel
theorem dX11_holds_1 : decode cX11_holds 1 = .ok (.getfield 36, 3) := by decide +kernel
theorem dX11_holds_4 : decode cX11_holds 4 = .ok (.getfield 57, 3) := by decide +kernel
theorem dX11_holds_7 : decode cX11_holds 7 = .ok (.iload_n 1, 1) := by decide +kernel
theorem dX11_holds_8 : decode cX11_holds 8 = .ok (.invokevirtual 152, 3) := by decide +kernel
theorem dX11_holds_11 : decode cX11_holds 11 = .ok (.ifCond .eq 17, 3) := by decide +kernel
theorem dX11_holds_14 : decode cX11_holds 14 = .ok (.aload_n 0, 1) := by decide +kernel
theorem dX11_holds_15 : decode cX11_holds 15 = .ok (.getfield 36, 3) := by decide +kernel
theorem dX11_holds_18 : decode cX11_holds 18 = .ok (.getfield 57, 3) := by decide +kernel
theorem dX11_holds_21 : decode cX11_holds 21 = .ok (.iload_n 2, 1) := by decide +kernel
theorem dX11_holds_22 : decode cX11_holds 22 = .ok (.invokevirtual 155, 3) := by decide +kernel
theorem dX11_holds_25 : decode cX11_holds 25 = .ok (.ifCond .ne 5, 3) := by decide +kernel
theorem dX11_holds_28 : decode cX11_holds 28 = .ok (.iconst (-1), 1) := by decide +kernel
theorem dX11_holds_29 : decode cX11_holds 29 = .ok (.ireturn, 1) := by decide +kernel
theorem dX11_holds_30 : decode cX11_holds 30 = .ok (.iload_n 1, 1) := by decide +kernel
theorem dX11_holds_31 : decode cX11_holds 31 = .ok (.bipush 8, 2) := by decide +kernel
theorem dX11_holds_33 : decode cX11_holds 33 = .ok (.imul, 1) := by decide +kernel
theorem dX11_holds_34 : decode cX11_holds 34 = .ok (.iload_n 2, 1) := by decide +kernel
theorem dX11_holds_35 : decode cX11_holds 35 = .ok (.iadd, 1) := by decide +kernel
theorem dX11_holds_36 : decode cX11_holds 36 = .ok (.istore 4, 2) := by decide +kernel
theorem dX11_holds_38 : decode cX11_holds 38 = .ok (.iload_n 3, 1) := by decide +kernel
theorem dX11_holds_39 : decode cX11_holds 39 = .ok (.tableswitch 67 0 2 #[25, 39, 53], 25) := by decide +kernel
theorem dX11_holds_64 : decode cX11_holds 64 = .ok (.aload_n 0, 1) := by decide +kernel
theorem dX11_holds_65 : decode cX11_holds 65 = .ok (.getfield 36, 3) := by decide +kernel
theorem dX11_holds_68 : decode cX11_holds 68 = .ok (.getfield 60, 3) := by decide +kernel
theorem dX11_holds_71 : decode cX11_holds 71 = .ok (.getfield 158, 3) := by decide +kernel
theorem dX11_holds_74 : decode cX11_holds 74 = .ok (.iload 4, 2) := by decide +kernel
theorem dX11_holds_76 : decode cX11_holds 76 = .ok (.iaload, 1) := by decide +kernel
theorem dX11_holds_77 : decode cX11_holds 77 = .ok (.ireturn, 1) := by decide +kernel
theorem dX11_holds_78 : decode cX11_holds 78 = .ok (.aload_n 0, 1) := by decide +kernel
theorem dX11_holds_79 : decode cX11_holds 79 = .ok (.getfield 36, 3) := by decide +kernel
theorem dX11_holds_82 : decode cX11_holds 82 = .ok (.getfield 60, 3) := by decide +kernel
theorem dX11_holds_85 : decode cX11_holds 85 = .ok (.getfield 161, 3) := by decide +kernel
theorem dX11_holds_88 : decode cX11_holds 88 = .ok (.iload 4, 2) := by decide +kernel
theorem dX11_holds_90 : decode cX11_holds 90 = .ok (.iaload, 1) := by decide +kernel
theorem dX11_holds_91 : decode cX11_holds 91 = .ok (.ireturn, 1) := by decide +kernel
theorem dX11_holds_92 : decode cX11_holds 92 = .ok (.aload_n 0, 1) := by decide +kernel
theorem dX11_holds_93 : decode cX11_holds 93 = .ok (.getfield 36, 3) := by decide +kernel
theorem dX11_holds_96 : decode cX11_holds 96 = .ok (.getfield 60, 3) := by decide +kernel
theorem dX11_holds_99 : decode cX11_holds 99 = .ok (.getfield 164, 3) := by decide +kernel
theorem dX11_holds_102 : decode cX11_holds 102 = .ok (.iload 4, 2) := by decide +kernel
theorem dX11_holds_104 : decode cX11_holds 104 = .ok (.iaload, 1) := by decide +kernel
theorem dX11_holds_105 : decode cX11_holds 105 = .ok (.ireturn, 1) := by decide +kernel
theorem dX11_holds_106 : decode cX11_holds 106 = .ok (.iconst (-1), 1) := by decide +kernel
theorem dX11_holds_107 : decode cX11_holds 107 = .ok (.ireturn, 1) := by decide +kernel
theorem dX11_person_0 : decode cX11_person 0 = .ok (.aload_n 0, 1) := by decide +kernel
theorem dX11_person_1 : decode cX11_person 1 = .ok (.getfield 36, 3) := by decide +kernel
theorem dX11_person_4 : decode cX11_person 4 = .ok (.getfield 57, 3) := by decide +kernel
theorem dX11_person_7 : decode cX11_person 7 = .ok (.iload_n 1, 1) := by decide +kernel
theorem dX11_person_8 : decode cX11_person 8 = .ok (.invokevirtual 152, 3) := by decide +kernel
theorem dX11_person_11 : decode cX11_person 11 = .ok (.ifCond .ne 5, 3) := by decide +kernel
theorem dX11_person_14 : decode cX11_person 14 = .ok (.iconst (-1), 1) := by decide +kernel
theorem dX11_person_15 : decode cX11_person 15 = .ok (.ireturn, 1) := by decide +kernel
theorem dX11_person_16 : decode cX11_person 16 = .ok (.iload_n 2, 1) := by decide +kernel
theorem dX11_person_17 : decode cX11_person 17 = .ok (.tableswitch 126 0 4 #[35, 48, 73, 98, 111], 35) := by decide +kernel
theorem dX11_person_52 : decode cX11_person 52 = .ok (.aload_n 0, 1) := by decide +kernel
theorem dX11_person_53 : decode cX11_person 53 = .ok (.getfield 36, 3) := by decide +kernel
theorem dX11_person_56 : decode cX11_person 56 = .ok (.getfield 60, 3) := by decide +kernel
theorem dX11_person_59 : decode cX11_person 59 = .ok (.getfield 167, 3) := by decide +kernel
theorem dX11_person_62 : decode cX11_person 62 = .ok (.iload_n 1, 1) := by decide +kernel
theorem dX11_person_63 : decode cX11_person 63 = .ok (.iaload, 1) := by decide +kernel
theorem dX11_person_64 : decode cX11_person 64 = .ok (.ireturn, 1) := by decide +kernel
theorem dX11_person_65 : decode cX11_person 65 = .ok (.aload_n 0, 1) := by decide +kernel
theorem dX11_person_66 : decode cX11_person 66 = .ok (.getfield 36, 3) := by decide +kernel
theorem dX11_person_69 : decode cX11_person 69 = .ok (.getfield 57, 3) := by decide +kernel
theorem dX11_person_72 : decode cX11_person 72 = .ok (.aload_n 0, 1) := by decide +kernel
theorem dX11_person_73 : decode cX11_person 73 = .ok (.getfield 36, 3) := by decide +kernel
theorem dX11_person_76 : decode cX11_person 76 = .ok (.getfield 60, 3) := by decide +kernel
theorem dX11_person_79 : decode cX11_person 79 = .ok (.getfield 164, 3) := by decide +kernel
theorem dX11_person_82 : decode cX11_person 82 = .ok (.iload_n 1, 1) := by decide +kernel
theorem dX11_person_83 : decode cX11_person 83 = .ok (.bipush 8, 2) := by decide +kernel
theorem dX11_person_85 : decode cX11_person 85 = .ok (.imul, 1) := by decide +kernel
theorem dX11_person_86 : decode cX11_person 86 = .ok (.invokevirtual 170, 3) := by decide +kernel
theorem dX11_person_89 : decode cX11_person 89 = .ok (.ireturn, 1) := by decide +kernel
theorem dX11_person_90 : decode cX11_person 90 = .ok (.aload_n 0, 1) := by decide +kernel
theorem dX11_person_91 : decode cX11_person 91 = .ok (.getfield 36, 3) := by decide +kernel
theorem dX11_person_94 : decode cX11_person 94 = .ok (.getfield 57, 3) := by decide +kernel
theorem dX11_person_97 : decode cX11_person 97 = .ok (.aload_n 0, 1) := by decide +kernel
theorem dX11_person_98 : decode cX11_person 98 = .ok (.getfield 36, 3) := by decide +kernel
theorem dX11_person_101 : decode cX11_person 101 = .ok (.getfield 60, 3) := by decide +kernel
theorem dX11_person_104 : decode cX11_person 104 = .ok (.getfield 164, 3) := by decide +kernel
theorem dX11_person_107 : decode cX11_person 107 = .ok (.iload_n 1, 1) := by decide +kernel
theorem dX11_person_108 : decode cX11_person 108 = .ok (.bipush 8, 2) := by decide +kernel
theorem dX11_person_110 : decode cX11_person 110 = .ok (.imul, 1) := by decide +kernel
theorem dX11_person_111 : decode cX11_person 111 = .ok (.invokevirtual 174, 3) := by decide +kernel
theorem dX11_person_114 : decode cX11_person 114 = .ok (.ireturn, 1) := by decide +kernel
theorem dX11_person_115 : decode cX11_person 115 = .ok (.aload_n 0, 1) := by decide +kernel
theorem dX11_person_116 : decode cX11_person 116 = .ok (.getfield 36, 3) := by decide +kernel
theorem dX11_person_119 : decode cX11_person 119 = .ok (.getfield 57, 3) := by decide +kernel
theorem dX11_person_122 : decode cX11_person 122 = .ok (.getfield 177, 3) := by decide +kernel
theorem dX11_person_125 : decode cX11_person 125 = .ok (.iload_n 1, 1) := by decide +kernel
theorem dX11_person_126 : decode cX11_person 126 = .ok (.iaload, 1) := by decide +kernel
theorem dX11_person_127 : decode cX11_person 127 = .ok (.ireturn, 1) := by decide +kernel
theorem dX11_person_128 : decode cX11_person 128 = .ok (.aload_n 0, 1) := by decide +kernel
theorem dX11_person_129 : decode cX11_person 129 = .ok (.getfield 36, 3) := by decide +kernel
theorem dX11_person_132 : decode cX11_person 132 = .ok (.getfield 57, 3) := by decide +kernel
theorem dX11_person_135 : decode cX11_person 135 = .ok (.getfield 180, 3) := by decide +kernel
theorem dX11_person_138 : decode cX11_person 138 = .ok (.iload_n 1, 1) := by decide +kernel
theorem dX11_person_139 : decode cX11_person 139 = .ok (.invokestatic 183, 3) := by decide +kernel
theorem dX11_person_142 : decode cX11_person 142 = .ok (.ireturn, 1) := by decide +kernel
theorem dX11_person_143 : decode cX11_person 143 = .ok (.iconst (-1), 1) := by decide +kernel
theorem dX11_person_144 : decode cX11_person 144 = .ok (.ireturn, 1) := by decide +kernel
theorem dX11_trust_0 : decode cX11_trust 0 = .ok (.aload_n 0, 1) := by decide +kernel
theorem dX11_trust_1 : decode cX11_trust 1 = .ok (.getfield 36, 3) := by decide +kernel
theorem dX11_trust_4 : decode cX11_trust 4 = .ok (.getfield 57, 3) := by decide +kernel
theorem dX11_trust_7 : decode cX11_trust 7 = .ok (.iload_n 1, 1) := by decide +kernel
theorem dX11_trust_8 : decode cX11_trust 8 = .ok (.iload_n 2, 1) := by decide +kernel
theorem dX11_trust_9 : decode cX11_trust 9 = .ok (.invokevirtual 187, 3) := by decide +kernel
theorem dX11_trust_12 : decode cX11_trust 12 = .ok (.ifCond .ne 5, 3) := by decide +kernel
theorem dX11_trust_15 : decode cX11_trust 15 = .ok (.iconst (-1), 1) := by decide +kernel
theorem dX11_trust_16 : decode cX11_trust 16 = .ok (.ireturn, 1) := by decide +kernel
theorem dX11_trust_17 : decode cX11_trust 17 = .ok (.aload_n 0, 1) := by decide +kernel
theorem dX11_trust_18 : decode cX11_trust 18 = .ok (.getfield 36, 3) := by decide +kernel
theorem dX11_trust_21 : decode cX11_trust 21 = .ok (.getfield 57, 3) := by decide +kernel
theorem dX11_trust_24 : decode cX11_trust 24 = .ok (.getfield 191, 3) := by decide +kernel
theorem dX11_trust_27 : decode cX11_trust 27 = .ok (.iload_n 1, 1) := by decide +kernel
theorem dX11_trust_28 : decode cX11_trust 28 = .ok (.bipush 7, 2) := by decide +kernel
theorem dX11_trust_30 : decode cX11_trust 30 = .ok (.imul, 1) := by decide +kernel
theorem dX11_trust_31 : decode cX11_trust 31 = .ok (.iload_n 2, 1) := by decide +kernel
theorem dX11_trust_32 : decode cX11_trust 32 = .ok (.iadd, 1) := by decide +kernel
theorem dX11_trust_33 : decode cX11_trust 33 = .ok (.iaload, 1) := by decide +kernel
theorem dX11_trust_34 : decode cX11_trust 34 = .ok (.ireturn, 1) := by decide +kernel
theorem dX11_count_0 : decode cX11_count 0 = .ok (.iload_n 1, 1) := by decide +kernel
theorem dX11_count_1 : decode cX11_count 1 = .ok (.tableswitch 220 0 14 #[75, 86, 97, 108, 119, 124, 132, 143, 154, 165, 183, 191, 199, 207, 215], 75) := by decide +kernel
theorem dX11_count_76 : decode cX11_count 76 = .ok (.aload_n 0, 1) := by decide +kernel
theorem dX11_count_77 : decode cX11_count 77 = .ok (.getfield 36, 3) := by decide +kernel
theorem dX11_count_80 : decode cX11_count 80 = .ok (.getfield 57, 3) := by decide +kernel
theorem dX11_count_83 : decode cX11_count 83 = .ok (.getfield 194, 3) := by decide +kernel
theorem dX11_count_86 : decode cX11_count 86 = .ok (.ireturn, 1) := by decide +kernel
theorem dX11_count_87 : decode cX11_count 87 = .ok (.aload_n 0, 1) := by decide +kernel
theorem dX11_count_88 : decode cX11_count 88 = .ok (.getfield 36, 3) := by decide +kernel
theorem dX11_count_91 : decode cX11_count 91 = .ok (.getfield 57, 3) := by decide +kernel
theorem dX11_count_94 : decode cX11_count 94 = .ok (.getfield 197, 3) := by decide +kernel
theorem dX11_count_97 : decode cX11_count 97 = .ok (.ireturn, 1) := by decide +kernel
theorem dX11_count_98 : decode cX11_count 98 = .ok (.aload_n 0, 1) := by decide +kernel
theorem dX11_count_99 : decode cX11_count 99 = .ok (.getfield 36, 3) := by decide +kernel
theorem dX11_count_102 : decode cX11_count 102 = .ok (.getfield 57, 3) := by decide +kernel
theorem dX11_count_105 : decode cX11_count 105 = .ok (.getfield 135, 3) := by decide +kernel
theorem dX11_count_108 : decode cX11_count 108 = .ok (.ireturn, 1) := by decide +kernel
theorem dX11_count_109 : decode cX11_count 109 = .ok (.aload_n 0, 1) := by decide +kernel
theorem dX11_count_110 : decode cX11_count 110 = .ok (.getfield 36, 3) := by decide +kernel
theorem dX11_count_113 : decode cX11_count 113 = .ok (.getfield 57, 3) := by decide +kernel
theorem dX11_count_116 : decode cX11_count 116 = .ok (.getfield 200, 3) := by decide +kernel
theorem dX11_count_119 : decode cX11_count 119 = .ok (.ireturn, 1) := by decide +kernel
theorem dX11_count_120 : decode cX11_count 120 = .ok (.aload_n 0, 1) := by decide +kernel
theorem dX11_count_121 : decode cX11_count 121 = .ok (.getfield 138, 3) := by decide +kernel
theorem dX11_count_124 : decode cX11_count 124 = .ok (.ireturn, 1) := by decide +kernel
theorem dX11_count_125 : decode cX11_count 125 = .ok (.aload_n 0, 1) := by decide +kernel
theorem dX11_count_126 : decode cX11_count 126 = .ok (.getfield 36, 3) := by decide +kernel
theorem dX11_count_129 : decode cX11_count 129 = .ok (.getfield 149, 3) := by decide +kernel
theorem dX11_count_132 : decode cX11_count 132 = .ok (.ireturn, 1) := by decide +kernel
theorem dX11_count_133 : decode cX11_count 133 = .ok (.aload_n 0, 1) := by decide +kernel
theorem dX11_count_134 : decode cX11_count 134 = .ok (.getfield 36, 3) := by decide +kernel
theorem dX11_count_137 : decode cX11_count 137 = .ok (.getfield 60, 3) := by decide +kernel
theorem dX11_count_140 : decode cX11_count 140 = .ok (.getfield 203, 3) := by decide +kernel
theorem dX11_count_143 : decode cX11_count 143 = .ok (.ireturn, 1) := by decide +kernel
theorem dX11_count_144 : decode cX11_count 144 = .ok (.aload_n 0, 1) := by decide +kernel
theorem dX11_count_145 : decode cX11_count 145 = .ok (.getfield 36, 3) := by decide +kernel
theorem dX11_count_148 : decode cX11_count 148 = .ok (.getfield 60, 3) := by decide +kernel
theorem dX11_count_151 : decode cX11_count 151 = .ok (.getfield 206, 3) := by decide +kernel
theorem dX11_count_154 : decode cX11_count 154 = .ok (.ireturn, 1) := by decide +kernel
theorem dX11_count_155 : decode cX11_count 155 = .ok (.aload_n 0, 1) := by decide +kernel
theorem dX11_count_156 : decode cX11_count 156 = .ok (.getfield 36, 3) := by decide +kernel
theorem dX11_count_159 : decode cX11_count 159 = .ok (.getfield 60, 3) := by decide +kernel
theorem dX11_count_162 : decode cX11_count 162 = .ok (.invokevirtual 209, 3) := by decide +kernel
theorem dX11_count_165 : decode cX11_count 165 = .ok (.ireturn, 1) := by decide +kernel
theorem dX11_count_166 : decode cX11_count 166 = .ok (.aload_n 0, 1) := by decide +kernel
theorem dX11_count_167 : decode cX11_count 167 = .ok (.getfield 36, 3) := by decide +kernel
theorem dX11_count_170 : decode cX11_count 170 = .ok (.getfield 60, 3) := by decide +kernel
theorem dX11_count_173 : decode cX11_count 173 = .ok (.aload_n 0, 1) := by decide +kernel
theorem dX11_count_174 : decode cX11_count 174 = .ok (.getfield 36, 3) := by decide +kernel
theorem dX11_count_177 : decode cX11_count 177 = .ok (.getfield 57, 3) := by decide +kernel
theorem dX11_count_180 : decode cX11_count 180 = .ok (.invokevirtual 213, 3) := by decide +kernel
theorem dX11_count_183 : decode cX11_count 183 = .ok (.ireturn, 1) := by decide +kernel
theorem dX11_count_184 : decode cX11_count 184 = .ok (.aload_n 0, 1) := by decide +kernel
theorem dX11_count_185 : decode cX11_count 185 = .ok (.getfield 36, 3) := by decide +kernel
theorem dX11_count_188 : decode cX11_count 188 = .ok (.getfield 217, 3) := by decide +kernel
theorem dX11_count_191 : decode cX11_count 191 = .ok (.ireturn, 1) := by decide +kernel
theorem dX11_count_192 : decode cX11_count 192 = .ok (.aload_n 0, 1) := by decide +kernel
theorem dX11_count_193 : decode cX11_count 193 = .ok (.getfield 36, 3) := by decide +kernel
theorem dX11_count_196 : decode cX11_count 196 = .ok (.getfield 220, 3) := by decide +kernel
theorem dX11_count_199 : decode cX11_count 199 = .ok (.ireturn, 1) := by decide +kernel
theorem dX11_count_200 : decode cX11_count 200 = .ok (.aload_n 0, 1) := by decide +kernel
theorem dX11_count_201 : decode cX11_count 201 = .ok (.getfield 51, 3) := by decide +kernel
theorem dX11_count_204 : decode cX11_count 204 = .ok (.getfield 223, 3) := by decide +kernel
theorem dX11_count_207 : decode cX11_count 207 = .ok (.ireturn, 1) := by decide +kernel
theorem dX11_count_208 : decode cX11_count 208 = .ok (.aload_n 0, 1) := by decide +kernel
theorem dX11_count_209 : decode cX11_count 209 = .ok (.getfield 36, 3) := by decide +kernel
theorem dX11_count_212 : decode cX11_count 212 = .ok (.getfield 226, 3) := by decide +kernel
theorem dX11_count_215 : decode cX11_count 215 = .ok (.ireturn, 1) := by decide +kernel
theorem dX11_count_216 : decode cX11_count 216 = .ok (.aload_n 0, 1) := by decide +kernel
theorem dX11_count_217 : decode cX11_count 217 = .ok (.getfield 109, 3) := by decide +kernel
theorem dX11_count_220 : decode cX11_count 220 = .ok (.ireturn, 1) := by decide +kernel
theorem dX11_count_221 : decode cX11_count 221 = .ok (.iconst (-1), 1) := by decide +kernel
theorem dX11_count_222 : decode cX11_count 222 = .ok (.ireturn, 1) := by decide +kernel
theorem dX11_say_0 : decode cX11_say 0 = .ok (.aload_n 0, 1) := by decide +kernel
theorem dX11_say_1 : decode cX11_say 1 = .ok (.iload_n 1, 1) := by decide +kernel
theorem dX11_say_2 : decode cX11_say 2 = .ok (.iload_n 2, 1) := by decide +kernel
theorem dX11_say_3 : decode cX11_say 3 = .ok (.iload_n 3, 1) := by decide +kernel
theorem dX11_say_4 : decode cX11_say 4 = .ok (.iload 4, 2) := by decide +kernel
theorem dX11_say_6 : decode cX11_say 6 = .ok (.invokevirtual 229, 3) := by decide +kernel
theorem dX11_say_9 : decode cX11_say 9 = .ok (.ifCond .ne 5, 3) := by decide +kernel
theorem dX11_say_12 : decode cX11_say 12 = .ok (.iconst (-1), 1) := by decide +kernel
theorem dX11_say_13 : decode cX11_say 13 = .ok (.ireturn, 1) := by decide +kernel
theorem dX11_say_14 : decode cX11_say 14 = .ok (.aload_n 0, 1) := by decide +kernel
theorem dX11_say_15 : decode cX11_say 15 = .ok (.getfield 51, 3) := by decide +kernel
theorem dX11_say_18 : decode cX11_say 18 = .ok (.aload_n 0, 1) := by decide +kernel
theorem dX11_say_19 : decode cX11_say 19 = .ok (.getfield 36, 3) := by decide +kernel
theorem dX11_say_22 : decode cX11_say 22 = .ok (.getfield 60, 3) := by decide +kernel
theorem dX11_say_25 : decode cX11_say 25 = .ok (.invokevirtual 233, 3) := by decide +kernel
theorem dX11_say_28 : decode cX11_say 28 = .ok (.aload_n 0, 1) := by decide +kernel
theorem dX11_say_29 : decode cX11_say 29 = .ok (.aload_n 0, 1) := by decide +kernel
theorem dX11_say_30 : decode cX11_say 30 = .ok (.getfield 36, 3) := by decide +kernel
theorem dX11_say_33 : decode cX11_say 33 = .ok (.getfield 60, 3) := by decide +kernel
theorem dX11_say_36 : decode cX11_say 36 = .ok (.iload_n 1, 1) := by decide +kernel
theorem dX11_say_37 : decode cX11_say 37 = .ok (.iload_n 2, 1) := by decide +kernel
theorem dX11_say_38 : decode cX11_say 38 = .ok (.iload_n 3, 1) := by decide +kernel
theorem dX11_say_39 : decode cX11_say 39 = .ok (.iload 4, 2) := by decide +kernel
theorem dX11_say_41 : decode cX11_say 41 = .ok (.invokevirtual 237, 3) := by decide +kernel
theorem dX11_say_44 : decode cX11_say 44 = .ok (.aload_n 0, 1) := by decide +kernel
theorem dX11_say_45 : decode cX11_say 45 = .ok (.invokevirtual 241, 3) := by decide +kernel
theorem dX11_say_48 : decode cX11_say 48 = .ok (.ireturn, 1) := by decide +kernel
theorem dX11_would_0 : decode cX11_would 0 = .ok (.aload_n 0, 1) := by decide +kernel
theorem dX11_would_1 : decode cX11_would 1 = .ok (.iload_n 1, 1) := by decide +kernel
theorem dX11_would_2 : decode cX11_would 2 = .ok (.iload_n 2, 1) := by decide +kernel
theorem dX11_would_3 : decode cX11_would 3 = .ok (.iload_n 3, 1) := by decide +kernel
theorem dX11_would_4 : decode cX11_would 4 = .ok (.iload 4, 2) := by decide +kernel
theorem dX11_would_6 : decode cX11_would 6 = .ok (.invokevirtual 229, 3) := by decide +kernel
theorem dX11_would_9 : decode cX11_would 9 = .ok (.ifCond .ne 5, 3) := by decide +kernel
theorem dX11_would_12 : decode cX11_would 12 = .ok (.iconst (-1), 1) := by decide +kernel
theorem dX11_would_13 : decode cX11_would 13 = .ok (.ireturn, 1) := by decide +kernel
theorem dX11_would_14 : decode cX11_would 14 = .ok (.aload_n 0, 1) := by decide +kernel
theorem dX11_would_15 : decode cX11_would 15 = .ok (.aload_n 0, 1) := by decide +kernel
theorem dX11_would_16 : decode cX11_would 16 = .ok (.getfield 36, 3) := by decide +kernel
theorem dX11_would_19 : decode cX11_would 19 = .ok (.getfield 60, 3) := by decide +kernel
theorem dX11_would_22 : decode cX11_would 22 = .ok (.iload_n 1, 1) := by decide +kernel
theorem dX11_would_23 : decode cX11_would 23 = .ok (.iload_n 2, 1) := by decide +kernel
theorem dX11_would_24 : decode cX11_would 24 = .ok (.iload_n 3, 1) := by decide +kernel
theorem dX11_would_25 : decode cX11_would 25 = .ok (.iload 4, 2) := by decide +kernel
theorem dX11_would_27 : decode cX11_would 27 = .ok (.invokevirtual 237, 3) := by decide +kernel
theorem dX11_would_30 : decode cX11_would 30 = .ok (.aload_n 0, 1) := by decide +kernel
theorem dX11_would_31 : decode cX11_would 31 = .ok (.invokevirtual 244, 3) := by decide +kernel
theorem dX11_would_34 : decode cX11_would 34 = .ok (.ifCond .eq 7, 3) := by decide +kernel
theorem dX11_would_37 : decode cX11_would 37 = .ok (.iconst 1, 1) := by decide +kernel
theorem dX11_would_38 : decode cX11_would 38 = .ok (.goto 4, 3) := by decide +kernel
theorem dX11_would_41 : decode cX11_would 41 = .ok (.iconst 0, 1) := by decide +kernel
theorem dX11_would_42 : decode cX11_would 42 = .ok (.ireturn, 1) := by decide +kernel
theorem dX11_meet_0 : decode cX11_meet 0 = .ok (.aload_n 0, 1) := by decide +kernel
theorem dX11_meet_1 : decode cX11_meet 1 = .ok (.getfield 36, 3) := by decide +kernel
theorem dX11_meet_4 : decode cX11_meet 4 = .ok (.getfield 57, 3) := by decide +kernel
theorem dX11_meet_7 : decode cX11_meet 7 = .ok (.iload_n 1, 1) := by decide +kernel
theorem dX11_meet_8 : decode cX11_meet 8 = .ok (.iload_n 2, 1) := by decide +kernel
theorem dX11_meet_9 : decode cX11_meet 9 = .ok (.invokevirtual 248, 3) := by decide +kernel
theorem dX11_meet_12 : decode cX11_meet 12 = .ok (.ifCond .ne 5, 3) := by decide +kernel
theorem dX11_meet_15 : decode cX11_meet 15 = .ok (.iconst (-1), 1) := by decide +kernel
theorem dX11_meet_16 : decode cX11_meet 16 = .ok (.ireturn, 1) := by decide +kernel
theorem dX11_meet_17 : decode cX11_meet 17 = .ok (.aload_n 0, 1) := by decide +kernel
theorem dX11_meet_18 : decode cX11_meet 18 = .ok (.getfield 51, 3) := by decide +kernel
theorem dX11_meet_21 : decode cX11_meet 21 = .ok (.aload_n 0, 1) := by decide +kernel
theorem dX11_meet_22 : decode cX11_meet 22 = .ok (.getfield 36, 3) := by decide +kernel
theorem dX11_meet_25 : decode cX11_meet 25 = .ok (.getfield 60, 3) := by decide +kernel
theorem dX11_meet_28 : decode cX11_meet 28 = .ok (.invokevirtual 233, 3) := by decide +kernel
theorem dX11_meet_31 : decode cX11_meet 31 = .ok (.iload_n 1, 1) := by decide +kernel
theorem dX11_meet_32 : decode cX11_meet 32 = .ok (.iload_n 2, 1) := by decide +kernel
theorem dX11_meet_33 : decode cX11_meet 33 = .ok (.invokestatic 251, 3) := by decide +kernel
theorem dX11_meet_36 : decode cX11_meet 36 = .ok (.istore_n 3, 1) := by decide +kernel
theorem dX11_meet_37 : decode cX11_meet 37 = .ok (.iload_n 1, 1) := by decide +kernel
theorem dX11_meet_38 : decode cX11_meet 38 = .ok (.iload_n 2, 1) := by decide +kernel
theorem dX11_meet_39 : decode cX11_meet 39 = .ok (.invokestatic 256, 3) := by decide +kernel
theorem dX11_meet_42 : decode cX11_meet 42 = .ok (.istore 4, 2) := by decide +kernel
theorem dX11_meet_44 : decode cX11_meet 44 = .ok (.aload_n 0, 1) := by decide +kernel
theorem dX11_meet_45 : decode cX11_meet 45 = .ok (.iload_n 3, 1) := by decide +kernel
theorem dX11_meet_46 : decode cX11_meet 46 = .ok (.iload 4, 2) := by decide +kernel
theorem dX11_meet_48 : decode cX11_meet 48 = .ok (.invokevirtual 259, 3) := by decide +kernel
theorem dX11_meet_51 : decode cX11_meet 51 = .ok (.istore 5, 2) := by decide +kernel
theorem dX11_meet_53 : decode cX11_meet 53 = .ok (.iload 5, 2) := by decide +kernel
theorem dX11_meet_55 : decode cX11_meet 55 = .ok (.aload_n 0, 1) := by decide +kernel
theorem dX11_meet_56 : decode cX11_meet 56 = .ok (.iload 4, 2) := by decide +kernel
theorem dX11_meet_58 : decode cX11_meet 58 = .ok (.iload_n 3, 1) := by decide +kernel
theorem dX11_meet_59 : decode cX11_meet 59 = .ok (.invokevirtual 259, 3) := by decide +kernel
theorem dX11_meet_62 : decode cX11_meet 62 = .ok (.iadd, 1) := by decide +kernel
theorem dX11_meet_63 : decode cX11_meet 63 = .ok (.ireturn, 1) := by decide +kernel
theorem dX11_hour_0 : decode cX11_hour 0 = .ok (.aload_n 0, 1) := by decide +kernel
theorem dX11_hour_1 : decode cX11_hour 1 = .ok (.getfield 36, 3) := by decide +kernel
theorem dX11_hour_4 : decode cX11_hour 4 = .ok (.getfield 57, 3) := by decide +kernel
theorem dX11_hour_7 : decode cX11_hour 7 = .ok (.getfield 262, 3) := by decide +kernel
theorem dX11_hour_10 : decode cX11_hour 10 = .ok (.ifCond .eq 18, 3) := by decide +kernel
theorem dX11_hour_13 : decode cX11_hour 13 = .ok (.aload_n 0, 1) := by decide +kernel
theorem dX11_hour_14 : decode cX11_hour 14 = .ok (.getfield 36, 3) := by decide +kernel
theorem dX11_hour_17 : decode cX11_hour 17 = .ok (.getfield 60, 3) := by decide +kernel
theorem dX11_hour_20 : decode cX11_hour 20 = .ok (.getfield 206, 3) := by decide +kernel
theorem dX11_hour_23 : decode cX11_hour 23 = .ok (.bipush 23, 2) := by decide +kernel
theorem dX11_hour_25 : decode cX11_hour 25 = .ok (.if_icmp .lt 5, 3) := by decide +kernel
theorem dX11_hour_28 : decode cX11_hour 28 = .ok (.iconst (-1), 1) := by decide +kernel
theorem dX11_hour_29 : decode cX11_hour 29 = .ok (.ireturn, 1) := by decide +kernel
theorem dX11_hour_30 : decode cX11_hour 30 = .ok (.aload_n 0, 1) := by decide +kernel
theorem dX11_hour_31 : decode cX11_hour 31 = .ok (.getfield 51, 3) := by decide +kernel
theorem dX11_hour_34 : decode cX11_hour 34 = .ok (.aload_n 0, 1) := by decide +kernel
theorem dX11_hour_35 : decode cX11_hour 35 = .ok (.getfield 36, 3) := by decide +kernel
theorem dX11_hour_38 : decode cX11_hour 38 = .ok (.getfield 60, 3) := by decide +kernel
theorem dX11_hour_41 : decode cX11_hour 41 = .ok (.invokevirtual 233, 3) := by decide +kernel
theorem dX11_hour_44 : decode cX11_hour 44 = .ok (.aload_n 0, 1) := by decide +kernel
theorem dX11_hour_45 : decode cX11_hour 45 = .ok (.getfield 36, 3) := by decide +kernel
theorem dX11_hour_48 : decode cX11_hour 48 = .ok (.getfield 60, 3) := by decide +kernel
theorem dX11_hour_51 : decode cX11_hour 51 = .ok (.dup, 1) := by decide +kernel
theorem dX11_hour_52 : decode cX11_hour 52 = .ok (.getfield 206, 3) := by decide +kernel
theorem dX11_hour_55 : decode cX11_hour 55 = .ok (.iconst 1, 1) := by decide +kernel
theorem dX11_hour_56 : decode cX11_hour 56 = .ok (.iadd, 1) := by decide +kernel
theorem dX11_hour_57 : decode cX11_hour 57 = .ok (.putfield 206, 3) := by decide +kernel
theorem dX11_hour_60 : decode cX11_hour 60 = .ok (.aload_n 0, 1) := by decide +kernel
theorem dX11_hour_61 : decode cX11_hour 61 = .ok (.getfield 36, 3) := by decide +kernel
theorem dX11_hour_64 : decode cX11_hour 64 = .ok (.getfield 60, 3) := by decide +kernel
theorem dX11_hour_67 : decode cX11_hour 67 = .ok (.getfield 206, 3) := by decide +kernel
theorem dX11_hour_70 : decode cX11_hour 70 = .ok (.ireturn, 1) := by decide +kernel
theorem dX11_midnight_0 : decode cX11_midnight 0 = .ok (.aload_n 0, 1) := by decide +kernel
theorem dX11_midnight_1 : decode cX11_midnight 1 = .ok (.getfield 36, 3) := by decide +kernel
theorem dX11_midnight_4 : decode cX11_midnight 4 = .ok (.getfield 57, 3) := by decide +kernel
theorem dX11_midnight_7 : decode cX11_midnight 7 = .ok (.getfield 262, 3) := by decide +kernel
theorem dX11_midnight_10 : decode cX11_midnight 10 = .ok (.ifCond .eq 19, 3) := by decide +kernel
theorem dX11_midnight_13 : decode cX11_midnight 13 = .ok (.aload_n 0, 1) := by decide +kernel
theorem dX11_midnight_14 : decode cX11_midnight 14 = .ok (.getfield 36, 3) := by decide +kernel
theorem dX11_midnight_17 : decode cX11_midnight 17 = .ok (.getfield 60, 3) := by decide +kernel
theorem dX11_midnight_20 : decode cX11_midnight 20 = .ok (.getfield 203, 3) := by decide +kernel
theorem dX11_midnight_23 : decode cX11_midnight 23 = .ok (.sipush 9999, 3) := by decide +kernel
theorem dX11_midnight_26 : decode cX11_midnight 26 = .ok (.if_icmp .lt 5, 3) := by decide +kernel
theorem dX11_midnight_29 : decode cX11_midnight 29 = .ok (.iconst (-1), 1) := by decide +kernel
theorem dX11_midnight_30 : decode cX11_midnight 30 = .ok (.ireturn, 1) := by decide +kernel
theorem dX11_midnight_31 : decode cX11_midnight 31 = .ok (.aload_n 0, 1) := by decide +kernel
theorem dX11_midnight_32 : decode cX11_midnight 32 = .ok (.getfield 51, 3) := by decide +kernel
theorem dX11_midnight_35 : decode cX11_midnight 35 = .ok (.aload_n 0, 1) := by decide +kernel
theorem dX11_midnight_36 : decode cX11_midnight 36 = .ok (.getfield 36, 3) := by decide +kernel
theorem dX11_midnight_39 : decode cX11_midnight 39 = .ok (.getfield 60, 3) := by decide +kernel
theorem dX11_midnight_42 : decode cX11_midnight 42 = .ok (.invokevirtual 233, 3) := by decide +kernel
theorem dX11_midnight_45 : decode cX11_midnight 45 = .ok (.aload_n 0, 1) := by decide +kernel
theorem dX11_midnight_46 : decode cX11_midnight 46 = .ok (.getfield 36, 3) := by decide +kernel
theorem dX11_midnight_49 : decode cX11_midnight 49 = .ok (.getfield 60, 3) := by decide +kernel
theorem dX11_midnight_52 : decode cX11_midnight 52 = .ok (.aload_n 0, 1) := by decide +kernel
theorem dX11_midnight_53 : decode cX11_midnight 53 = .ok (.getfield 36, 3) := by decide +kernel
theorem dX11_midnight_56 : decode cX11_midnight 56 = .ok (.getfield 57, 3) := by decide +kernel
theorem dX11_midnight_59 : decode cX11_midnight 59 = .ok (.invokevirtual 266, 3) := by decide +kernel
theorem dX11_midnight_62 : decode cX11_midnight 62 = .ok (.aload_n 0, 1) := by decide +kernel
theorem dX11_midnight_63 : decode cX11_midnight 63 = .ok (.getfield 36, 3) := by decide +kernel
theorem dX11_midnight_66 : decode cX11_midnight 66 = .ok (.getfield 60, 3) := by decide +kernel
theorem dX11_midnight_69 : decode cX11_midnight 69 = .ok (.getfield 203, 3) := by decide +kernel
theorem dX11_midnight_72 : decode cX11_midnight 72 = .ok (.ireturn, 1) := by decide +kernel
theorem dX11_undo_0 : decode cX11_undo 0 = .ok (.aload_n 0, 1) := by decide +kernel
theorem dX11_undo_1 : decode cX11_undo 1 = .ok (.getfield 51, 3) := by decide +kernel
theorem dX11_undo_4 : decode cX11_undo 4 = .ok (.getfield 223, 3) := by decide +kernel
theorem dX11_undo_7 : decode cX11_undo 7 = .ok (.ifCond .ne 5, 3) := by decide +kernel
theorem dX11_undo_10 : decode cX11_undo 10 = .ok (.iconst (-1), 1) := by decide +kernel
theorem dX11_undo_11 : decode cX11_undo 11 = .ok (.ireturn, 1) := by decide +kernel
theorem dX11_undo_12 : decode cX11_undo 12 = .ok (.aload_n 0, 1) := by decide +kernel
theorem dX11_undo_13 : decode cX11_undo 13 = .ok (.getfield 51, 3) := by decide +kernel
theorem dX11_undo_16 : decode cX11_undo 16 = .ok (.aload_n 0, 1) := by decide +kernel
theorem dX11_undo_17 : decode cX11_undo 17 = .ok (.getfield 36, 3) := by decide +kernel
theorem dX11_undo_20 : decode cX11_undo 20 = .ok (.getfield 60, 3) := by decide +kernel
theorem dX11_undo_23 : decode cX11_undo 23 = .ok (.invokevirtual 269, 3) := by decide +kernel
theorem dX11_undo_26 : decode cX11_undo 26 = .ok (.aload_n 0, 1) := by decide +kernel
theorem dX11_undo_27 : decode cX11_undo 27 = .ok (.getfield 51, 3) := by decide +kernel
theorem dX11_undo_30 : decode cX11_undo 30 = .ok (.getfield 223, 3) := by decide +kernel
theorem dX11_undo_33 : decode cX11_undo 33 = .ok (.ireturn, 1) := by decide +kernel
theorem dX11_run_0 : decode cX11_run 0 = .ok (.aload_n 0, 1) := by decide +kernel
theorem dX11_run_1 : decode cX11_run 1 = .ok (.getfield 36, 3) := by decide +kernel
theorem dX11_run_4 : decode cX11_run 4 = .ok (.getfield 57, 3) := by decide +kernel
theorem dX11_run_7 : decode cX11_run 7 = .ok (.getfield 135, 3) := by decide +kernel
theorem dX11_run_10 : decode cX11_run 10 = .ok (.ifCond .eq 22, 3) := by decide +kernel
theorem dX11_run_13 : decode cX11_run 13 = .ok (.aload_n 0, 1) := by decide +kernel
theorem dX11_run_14 : decode cX11_run 14 = .ok (.iload_n 1, 1) := by decide +kernel
theorem dX11_run_15 : decode cX11_run 15 = .ok (.invokevirtual 145, 3) := by decide +kernel
theorem dX11_run_18 : decode cX11_run 18 = .ok (.ifCond .eq 14, 3) := by decide +kernel
theorem dX11_run_21 : decode cX11_run 21 = .ok (.iload_n 2, 1) := by decide +kernel
theorem dX11_run_22 : decode cX11_run 22 = .ok (.iconst 1, 1) := by decide +kernel
theorem dX11_run_23 : decode cX11_run 23 = .ok (.if_icmp .lt 9, 3) := by decide +kernel
theorem dX11_run_26 : decode cX11_run 26 = .ok (.iload_n 2, 1) := by decide +kernel
theorem dX11_run_27 : decode cX11_run 27 = .ok (.bipush 96, 2) := by decide +kernel
theorem dX11_run_29 : decode cX11_run 29 = .ok (.if_icmp .le 5, 3) := by decide +kernel
theorem dX11_run_32 : decode cX11_run 32 = .ok (.iconst (-1), 1) := by decide +kernel
theorem dX11_run_33 : decode cX11_run 33 = .ok (.ireturn, 1) := by decide +kernel
theorem dX11_run_34 : decode cX11_run 34 = .ok (.aload_n 0, 1) := by decide +kernel
theorem dX11_run_35 : decode cX11_run 35 = .ok (.getfield 36, 3) := by decide +kernel
theorem dX11_run_38 : decode cX11_run 38 = .ok (.getfield 60, 3) := by decide +kernel
theorem dX11_run_41 : decode cX11_run 41 = .ok (.getfield 203, 3) := by decide +kernel
theorem dX11_run_44 : decode cX11_run 44 = .ok (.aload_n 0, 1) := by decide +kernel
theorem dX11_run_45 : decode cX11_run 45 = .ok (.getfield 36, 3) := by decide +kernel
theorem dX11_run_48 : decode cX11_run 48 = .ok (.getfield 60, 3) := by decide +kernel
theorem dX11_run_51 : decode cX11_run 51 = .ok (.getfield 206, 3) := by decide +kernel
theorem dX11_run_54 : decode cX11_run 54 = .ok (.iload_n 2, 1) := by decide +kernel
theorem dX11_run_55 : decode cX11_run 55 = .ok (.iadd, 1) := by decide +kernel
theorem dX11_run_56 : decode cX11_run 56 = .ok (.bipush 24, 2) := by decide +kernel
theorem dX11_run_58 : decode cX11_run 58 = .ok (.idiv, 1) := by decide +kernel
theorem dX11_run_59 : decode cX11_run 59 = .ok (.iadd, 1) := by decide +kernel
theorem dX11_run_60 : decode cX11_run 60 = .ok (.sipush 9999, 3) := by decide +kernel
theorem dX11_run_63 : decode cX11_run 63 = .ok (.if_icmp .le 5, 3) := by decide +kernel
theorem dX11_run_66 : decode cX11_run 66 = .ok (.iconst (-1), 1) := by decide +kernel
theorem dX11_run_67 : decode cX11_run 67 = .ok (.ireturn, 1) := by decide +kernel
theorem dX11_run_68 : decode cX11_run 68 = .ok (.aload_n 0, 1) := by decide +kernel
theorem dX11_run_69 : decode cX11_run 69 = .ok (.getfield 51, 3) := by decide +kernel
theorem dX11_run_72 : decode cX11_run 72 = .ok (.invokevirtual 132, 3) := by decide +kernel
theorem dX11_run_75 : decode cX11_run 75 = .ok (.iconst 0, 1) := by decide +kernel
theorem dX11_run_76 : decode cX11_run 76 = .ok (.istore_n 3, 1) := by decide +kernel
theorem dX11_run_77 : decode cX11_run 77 = .ok (.iconst 0, 1) := by decide +kernel
theorem dX11_run_78 : decode cX11_run 78 = .ok (.istore 4, 2) := by decide +kernel
theorem dX11_run_80 : decode cX11_run 80 = .ok (.iload 4, 2) := by decide +kernel
theorem dX11_run_82 : decode cX11_run 82 = .ok (.iload_n 2, 1) := by decide +kernel
theorem dX11_run_83 : decode cX11_run 83 = .ok (.if_icmp .ge 22, 3) := by decide +kernel
theorem dX11_run_86 : decode cX11_run 86 = .ok (.iload_n 3, 1) := by decide +kernel
theorem dX11_run_87 : decode cX11_run 87 = .ok (.aload_n 0, 1) := by decide +kernel
theorem dX11_run_88 : decode cX11_run 88 = .ok (.aload_n 0, 1) := by decide +kernel
theorem dX11_run_89 : decode cX11_run 89 = .ok (.getfield 29, 3) := by decide +kernel
theorem dX11_run_92 : decode cX11_run 92 = .ok (.iload_n 1, 1) := by decide +kernel
theorem dX11_run_93 : decode cX11_run 93 = .ok (.aaload, 1) := by decide +kernel
theorem dX11_run_94 : decode cX11_run 94 = .ok (.invokevirtual 272, 3) := by decide +kernel
theorem dX11_run_97 : decode cX11_run 97 = .ok (.iadd, 1) := by decide +kernel
theorem dX11_run_98 : decode cX11_run 98 = .ok (.istore_n 3, 1) := by decide +kernel
theorem dX11_run_99 : decode cX11_run 99 = .ok (.iinc 4 1, 3) := by decide +kernel
theorem dX11_run_102 : decode cX11_run 102 = .ok (.goto (-22), 3) := by decide +kernel
theorem dX11_run_105 : decode cX11_run 105 = .ok (.iload_n 3, 1) := by decide +kernel
theorem dX11_run_106 : decode cX11_run 106 = .ok (.ireturn, 1) := by decide +kernel
theorem dX11_liveHour_0 : decode cX11_liveHour 0 = .ok (.aload_n 0, 1) := by decide +kernel
theorem dX11_liveHour_1 : decode cX11_liveHour 1 = .ok (.getfield 36, 3) := by decide +kernel
theorem dX11_liveHour_4 : decode cX11_liveHour 4 = .ok (.getfield 57, 3) := by decide +kernel
theorem dX11_liveHour_7 : decode cX11_liveHour 7 = .ok (.getfield 135, 3) := by decide +kernel
theorem dX11_liveHour_10 : decode cX11_liveHour 10 = .ok (.istore_n 2, 1) := by decide +kernel
theorem dX11_liveHour_11 : decode cX11_liveHour 11 = .ok (.iload_n 2, 1) := by decide +kernel
theorem dX11_liveHour_12 : decode cX11_liveHour 12 = .ok (.ifCond .ne 5, 3) := by decide +kernel
theorem dX11_liveHour_15 : decode cX11_liveHour 15 = .ok (.iconst 0, 1) := by decide +kernel
theorem dX11_liveHour_16 : decode cX11_liveHour 16 = .ok (.ireturn, 1) := by decide +kernel
theorem dX11_liveHour_17 : decode cX11_liveHour 17 = .ok (.aload_n 0, 1) := by decide +kernel
theorem dX11_liveHour_18 : decode cX11_liveHour 18 = .ok (.aload_n 1, 1) := by decide +kernel
theorem dX11_liveHour_19 : decode cX11_liveHour 19 = .ok (.aload_n 0, 1) := by decide +kernel
theorem dX11_liveHour_20 : decode cX11_liveHour 20 = .ok (.getfield 36, 3) := by decide +kernel
theorem dX11_liveHour_23 : decode cX11_liveHour 23 = .ok (.getfield 60, 3) := by decide +kernel
theorem dX11_liveHour_26 : decode cX11_liveHour 26 = .ok (.getfield 206, 3) := by decide +kernel
theorem dX11_liveHour_29 : decode cX11_liveHour 29 = .ok (.iload_n 2, 1) := by decide +kernel
theorem dX11_liveHour_30 : decode cX11_liveHour 30 = .ok (.irem, 1) := by decide +kernel
theorem dX11_liveHour_31 : decode cX11_liveHour 31 = .ok (.invokevirtual 276, 3) := by decide +kernel
theorem dX11_liveHour_34 : decode cX11_liveHour 34 = .ok (.istore_n 3, 1) := by decide +kernel
theorem dX11_liveHour_35 : decode cX11_liveHour 35 = .ok (.iload_n 3, 1) := by decide +kernel
theorem dX11_liveHour_36 : decode cX11_liveHour 36 = .ok (.ifCond .eq 10, 3) := by decide +kernel
theorem dX11_liveHour_39 : decode cX11_liveHour 39 = .ok (.aload_n 0, 1) := by decide +kernel
theorem dX11_liveHour_40 : decode cX11_liveHour 40 = .ok (.invokevirtual 241, 3) := by decide +kernel
theorem dX11_liveHour_43 : decode cX11_liveHour 43 = .ok (.goto 4, 3) := by decide +kernel
theorem dX11_liveHour_46 : decode cX11_liveHour 46 = .ok (.iconst 0, 1) := by decide +kernel
theorem dX11_liveHour_47 : decode cX11_liveHour 47 = .ok (.istore 4, 2) := by decide +kernel
theorem dX11_liveHour_49 : decode cX11_liveHour 49 = .ok (.aload_n 0, 1) := by decide +kernel
theorem dX11_liveHour_50 : decode cX11_liveHour 50 = .ok (.getfield 36, 3) := by decide +kernel
theorem dX11_liveHour_53 : decode cX11_liveHour 53 = .ok (.getfield 60, 3) := by decide +kernel
theorem dX11_liveHour_56 : decode cX11_liveHour 56 = .ok (.getfield 206, 3) := by decide +kernel
theorem dX11_liveHour_59 : decode cX11_liveHour 59 = .ok (.bipush 23, 2) := by decide +kernel
theorem dX11_liveHour_61 : decode cX11_liveHour 61 = .ok (.if_icmp .lt 23, 3) := by decide +kernel
theorem dX11_liveHour_64 : decode cX11_liveHour 64 = .ok (.aload_n 0, 1) := by decide +kernel
theorem dX11_liveHour_65 : decode cX11_liveHour 65 = .ok (.getfield 36, 3) := by decide +kernel
theorem dX11_liveHour_68 : decode cX11_liveHour 68 = .ok (.getfield 60, 3) := by decide +kernel
theorem dX11_liveHour_71 : decode cX11_liveHour 71 = .ok (.aload_n 0, 1) := by decide +kernel
theorem dX11_liveHour_72 : decode cX11_liveHour 72 = .ok (.getfield 36, 3) := by decide +kernel
theorem dX11_liveHour_75 : decode cX11_liveHour 75 = .ok (.getfield 57, 3) := by decide +kernel
theorem dX11_liveHour_78 : decode cX11_liveHour 78 = .ok (.invokevirtual 266, 3) := by decide +kernel
theorem dX11_liveHour_81 : decode cX11_liveHour 81 = .ok (.goto 19, 3) := by decide +kernel
theorem dX11_liveHour_84 : decode cX11_liveHour 84 = .ok (.aload_n 0, 1) := by decide +kernel
theorem dX11_liveHour_85 : decode cX11_liveHour 85 = .ok (.getfield 36, 3) := by decide +kernel
theorem dX11_liveHour_88 : decode cX11_liveHour 88 = .ok (.getfield 60, 3) := by decide +kernel
theorem dX11_liveHour_91 : decode cX11_liveHour 91 = .ok (.dup, 1) := by decide +kernel
theorem dX11_liveHour_92 : decode cX11_liveHour 92 = .ok (.getfield 206, 3) := by decide +kernel
theorem dX11_liveHour_95 : decode cX11_liveHour 95 = .ok (.iconst 1, 1) := by decide +kernel
theorem dX11_liveHour_96 : decode cX11_liveHour 96 = .ok (.iadd, 1) := by decide +kernel
theorem dX11_liveHour_97 : decode cX11_liveHour 97 = .ok (.putfield 206, 3) := by decide +kernel
theorem dX11_liveHour_100 : decode cX11_liveHour 100 = .ok (.iload 4, 2) := by decide +kernel
theorem dX11_liveHour_102 : decode cX11_liveHour 102 = .ok (.ireturn, 1) := by decide +kernel
theorem dX11_chooseSaying_0 : decode cX11_chooseSaying 0 = .ok (.lconst 0, 1) := by decide +kernel
theorem dX11_chooseSaying_1 : decode cX11_chooseSaying 1 = .ok (.lstore_n 3, 1) := by decide +kernel
theorem dX11_chooseSaying_2 : decode cX11_chooseSaying 2 = .ok (.iconst (-1), 1) := by decide +kernel
theorem dX11_chooseSaying_3 : decode cX11_chooseSaying 3 = .ok (.istore 5, 2) := by decide +kernel
theorem dX11_chooseSaying_5 : decode cX11_chooseSaying 5 = .ok (.iconst 0, 1) := by decide +kernel
theorem dX11_chooseSaying_6 : decode cX11_chooseSaying 6 = .ok (.istore 6, 2) := by decide +kernel
theorem dX11_chooseSaying_8 : decode cX11_chooseSaying 8 = .ok (.iconst 0, 1) := by decide +kernel
theorem dX11_chooseSaying_9 : decode cX11_chooseSaying 9 = .ok (.istore 7, 2) := by decide +kernel
theorem dX11_chooseSaying_11 : decode cX11_chooseSaying 11 = .ok (.iconst 0, 1) := by decide +kernel
theorem dX11_chooseSaying_12 : decode cX11_chooseSaying 12 = .ok (.istore 8, 2) := by decide +kernel
theorem dX11_chooseSaying_14 : decode cX11_chooseSaying 14 = .ok (.iload 8, 2) := by decide +kernel
theorem dX11_chooseSaying_16 : decode cX11_chooseSaying 16 = .ok (.aload_n 0, 1) := by decide +kernel
theorem dX11_chooseSaying_17 : decode cX11_chooseSaying 17 = .ok (.getfield 36, 3) := by decide +kernel
theorem dX11_chooseSaying_20 : decode cX11_chooseSaying 20 = .ok (.getfield 57, 3) := by decide +kernel
theorem dX11_chooseSaying_23 : decode cX11_chooseSaying 23 = .ok (.getfield 135, 3) := by decide +kernel
theorem dX11_chooseSaying_26 : decode cX11_chooseSaying 26 = .ok (.if_icmp .ge 117, 3) := by decide +kernel
theorem dX11_chooseSaying_29 : decode cX11_chooseSaying 29 = .ok (.aload_n 0, 1) := by decide +kernel
theorem dX11_chooseSaying_30 : decode cX11_chooseSaying 30 = .ok (.getfield 36, 3) := by decide +kernel
theorem dX11_chooseSaying_33 : decode cX11_chooseSaying 33 = .ok (.getfield 57, 3) := by decide +kernel
theorem dX11_chooseSaying_36 : decode cX11_chooseSaying 36 = .ok (.iload_n 2, 1) := by decide +kernel
theorem dX11_chooseSaying_37 : decode cX11_chooseSaying 37 = .ok (.iload 8, 2) := by decide +kernel
theorem dX11_chooseSaying_39 : decode cX11_chooseSaying 39 = .ok (.invokevirtual 248, 3) := by decide +kernel
theorem dX11_chooseSaying_42 : decode cX11_chooseSaying 42 = .ok (.ifCond .eq 18, 3) := by decide +kernel
theorem dX11_chooseSaying_45 : decode cX11_chooseSaying 45 = .ok (.iconst 2, 1) := by decide +kernel
theorem dX11_chooseSaying_46 : decode cX11_chooseSaying 46 = .ok (.aload_n 0, 1) := by decide +kernel
theorem dX11_chooseSaying_47 : decode cX11_chooseSaying 47 = .ok (.getfield 36, 3) := by decide +kernel
theorem dX11_chooseSaying_50 : decode cX11_chooseSaying 50 = .ok (.getfield 57, 3) := by decide +kernel
theorem dX11_chooseSaying_53 : decode cX11_chooseSaying 53 = .ok (.getfield 194, 3) := by decide +kernel
theorem dX11_chooseSaying_56 : decode cX11_chooseSaying 56 = .ok (.imul, 1) := by decide +kernel
theorem dX11_chooseSaying_57 : decode cX11_chooseSaying 57 = .ok (.goto 4, 3) := by decide +kernel
theorem dX11_chooseSaying_60 : decode cX11_chooseSaying 60 = .ok (.iconst 0, 1) := by decide +kernel
theorem dX11_chooseSaying_61 : decode cX11_chooseSaying 61 = .ok (.istore 9, 2) := by decide +kernel
theorem dX11_chooseSaying_63 : decode cX11_chooseSaying 63 = .ok (.iconst 0, 1) := by decide +kernel
theorem dX11_chooseSaying_64 : decode cX11_chooseSaying 64 = .ok (.istore 10, 2) := by decide +kernel
theorem dX11_chooseSaying_66 : decode cX11_chooseSaying 66 = .ok (.iload 10, 2) := by decide +kernel
theorem dX11_chooseSaying_68 : decode cX11_chooseSaying 68 = .ok (.iload 9, 2) := by decide +kernel
theorem dX11_chooseSaying_70 : decode cX11_chooseSaying 70 = .ok (.if_icmp .ge 67, 3) := by decide +kernel
theorem dX11_chooseSaying_73 : decode cX11_chooseSaying 73 = .ok (.aload_n 0, 1) := by decide +kernel
theorem dX11_chooseSaying_74 : decode cX11_chooseSaying 74 = .ok (.aload_n 0, 1) := by decide +kernel
theorem dX11_chooseSaying_75 : decode cX11_chooseSaying 75 = .ok (.getfield 36, 3) := by decide +kernel
theorem dX11_chooseSaying_78 : decode cX11_chooseSaying 78 = .ok (.getfield 60, 3) := by decide +kernel
theorem dX11_chooseSaying_81 : decode cX11_chooseSaying 81 = .ok (.iload_n 2, 1) := by decide +kernel
theorem dX11_chooseSaying_82 : decode cX11_chooseSaying 82 = .ok (.iload 8, 2) := by decide +kernel
theorem dX11_chooseSaying_84 : decode cX11_chooseSaying 84 = .ok (.iload 10, 2) := by decide +kernel
theorem dX11_chooseSaying_86 : decode cX11_chooseSaying 86 = .ok (.iconst 1, 1) := by decide +kernel
theorem dX11_chooseSaying_87 : decode cX11_chooseSaying 87 = .ok (.ishr, 1) := by decide +kernel
theorem dX11_chooseSaying_88 : decode cX11_chooseSaying 88 = .ok (.iload 10, 2) := by decide +kernel
theorem dX11_chooseSaying_90 : decode cX11_chooseSaying 90 = .ok (.iconst 1, 1) := by decide +kernel
theorem dX11_chooseSaying_91 : decode cX11_chooseSaying 91 = .ok (.iand, 1) := by decide +kernel
theorem dX11_chooseSaying_92 : decode cX11_chooseSaying 92 = .ok (.invokevirtual 237, 3) := by decide +kernel
theorem dX11_chooseSaying_95 : decode cX11_chooseSaying 95 = .ok (.aload_n 1, 1) := by decide +kernel
theorem dX11_chooseSaying_96 : decode cX11_chooseSaying 96 = .ok (.aload_n 0, 1) := by decide +kernel
theorem dX11_chooseSaying_97 : decode cX11_chooseSaying 97 = .ok (.getfield 67, 3) := by decide +kernel
theorem dX11_chooseSaying_100 : decode cX11_chooseSaying 100 = .ok (.invokevirtual 280, 3) := by decide +kernel
theorem dX11_chooseSaying_103 : decode cX11_chooseSaying 103 = .ok (.lstore 11, 2) := by decide +kernel
theorem dX11_chooseSaying_105 : decode cX11_chooseSaying 105 = .ok (.lload 11, 2) := by decide +kernel
theorem dX11_chooseSaying_107 : decode cX11_chooseSaying 107 = .ok (.lload_n 3, 1) := by decide +kernel
theorem dX11_chooseSaying_108 : decode cX11_chooseSaying 108 = .ok (.lcmp, 1) := by decide +kernel
theorem dX11_chooseSaying_109 : decode cX11_chooseSaying 109 = .ok (.ifCond .le 22, 3) := by decide +kernel
theorem dX11_chooseSaying_112 : decode cX11_chooseSaying 112 = .ok (.lload 11, 2) := by decide +kernel
theorem dX11_chooseSaying_114 : decode cX11_chooseSaying 114 = .ok (.lstore_n 3, 1) := by decide +kernel
theorem dX11_chooseSaying_115 : decode cX11_chooseSaying 115 = .ok (.iload 8, 2) := by decide +kernel
theorem dX11_chooseSaying_117 : decode cX11_chooseSaying 117 = .ok (.istore 5, 2) := by decide +kernel
theorem dX11_chooseSaying_119 : decode cX11_chooseSaying 119 = .ok (.iload 10, 2) := by decide +kernel
theorem dX11_chooseSaying_121 : decode cX11_chooseSaying 121 = .ok (.iconst 1, 1) := by decide +kernel
theorem dX11_chooseSaying_122 : decode cX11_chooseSaying 122 = .ok (.ishr, 1) := by decide +kernel
theorem dX11_chooseSaying_123 : decode cX11_chooseSaying 123 = .ok (.istore 6, 2) := by decide +kernel
theorem dX11_chooseSaying_125 : decode cX11_chooseSaying 125 = .ok (.iload 10, 2) := by decide +kernel
theorem dX11_chooseSaying_127 : decode cX11_chooseSaying 127 = .ok (.iconst 1, 1) := by decide +kernel
theorem dX11_chooseSaying_128 : decode cX11_chooseSaying 128 = .ok (.iand, 1) := by decide +kernel
theorem dX11_chooseSaying_129 : decode cX11_chooseSaying 129 = .ok (.istore 7, 2) := by decide +kernel
theorem dX11_chooseSaying_131 : decode cX11_chooseSaying 131 = .ok (.iinc 10 1, 3) := by decide +kernel
theorem dX11_chooseSaying_134 : decode cX11_chooseSaying 134 = .ok (.goto (-68), 3) := by decide +kernel
theorem dX11_chooseSaying_137 : decode cX11_chooseSaying 137 = .ok (.iinc 8 1, 3) := by decide +kernel
theorem dX11_chooseSaying_140 : decode cX11_chooseSaying 140 = .ok (.goto (-126), 3) := by decide +kernel
theorem dX11_chooseSaying_143 : decode cX11_chooseSaying 143 = .ok (.iload 5, 2) := by decide +kernel
theorem dX11_chooseSaying_145 : decode cX11_chooseSaying 145 = .ok (.iconst (-1), 1) := by decide +kernel
theorem dX11_chooseSaying_146 : decode cX11_chooseSaying 146 = .ok (.if_icmp .ne 5, 3) := by decide +kernel
theorem dX11_chooseSaying_149 : decode cX11_chooseSaying 149 = .ok (.iconst 0, 1) := by decide +kernel
theorem dX11_chooseSaying_150 : decode cX11_chooseSaying 150 = .ok (.ireturn, 1) := by decide +kernel
theorem dX11_chooseSaying_151 : decode cX11_chooseSaying 151 = .ok (.aload_n 0, 1) := by decide +kernel
theorem dX11_chooseSaying_152 : decode cX11_chooseSaying 152 = .ok (.aload_n 0, 1) := by decide +kernel
theorem dX11_chooseSaying_153 : decode cX11_chooseSaying 153 = .ok (.getfield 36, 3) := by decide +kernel
theorem dX11_chooseSaying_156 : decode cX11_chooseSaying 156 = .ok (.getfield 60, 3) := by decide +kernel
theorem dX11_chooseSaying_159 : decode cX11_chooseSaying 159 = .ok (.iload_n 2, 1) := by decide +kernel
theorem dX11_chooseSaying_160 : decode cX11_chooseSaying 160 = .ok (.iload 5, 2) := by decide +kernel
theorem dX11_chooseSaying_162 : decode cX11_chooseSaying 162 = .ok (.iload 6, 2) := by decide +kernel
theorem dX11_chooseSaying_164 : decode cX11_chooseSaying 164 = .ok (.iload 7, 2) := by decide +kernel
theorem dX11_chooseSaying_166 : decode cX11_chooseSaying 166 = .ok (.invokevirtual 237, 3) := by decide +kernel
theorem dX11_chooseSaying_169 : decode cX11_chooseSaying 169 = .ok (.iconst 1, 1) := by decide +kernel
theorem dX11_chooseSaying_170 : decode cX11_chooseSaying 170 = .ok (.ireturn, 1) := by decide +kernel
theorem dX11_hasRule_0 : decode cX11_hasRule 0 = .ok (.iload_n 1, 1) := by decide +kernel
theorem dX11_hasRule_1 : decode cX11_hasRule 1 = .ok (.ifCond .lt 15, 3) := by decide +kernel
theorem dX11_hasRule_4 : decode cX11_hasRule 4 = .ok (.iload_n 1, 1) := by decide +kernel
theorem dX11_hasRule_5 : decode cX11_hasRule 5 = .ok (.aload_n 0, 1) := by decide +kernel
theorem dX11_hasRule_6 : decode cX11_hasRule 6 = .ok (.getfield 138, 3) := by decide +kernel
theorem dX11_hasRule_9 : decode cX11_hasRule 9 = .ok (.if_icmp .ge 7, 3) := by decide +kernel
theorem dX11_hasRule_12 : decode cX11_hasRule 12 = .ok (.iconst 1, 1) := by decide +kernel
theorem dX11_hasRule_13 : decode cX11_hasRule 13 = .ok (.goto 4, 3) := by decide +kernel
theorem dX11_hasRule_16 : decode cX11_hasRule 16 = .ok (.iconst 0, 1) := by decide +kernel
theorem dX11_hasRule_17 : decode cX11_hasRule 17 = .ok (.ireturn, 1) := by decide +kernel
theorem dX11_canSay_0 : decode cX11_canSay 0 = .ok (.aload_n 0, 1) := by decide +kernel
theorem dX11_canSay_1 : decode cX11_canSay 1 = .ok (.getfield 36, 3) := by decide +kernel
theorem dX11_canSay_4 : decode cX11_canSay 4 = .ok (.getfield 57, 3) := by decide +kernel
theorem dX11_canSay_7 : decode cX11_canSay 7 = .ok (.iload_n 1, 1) := by decide +kernel
theorem dX11_canSay_8 : decode cX11_canSay 8 = .ok (.iload_n 2, 1) := by decide +kernel
theorem dX11_canSay_9 : decode cX11_canSay 9 = .ok (.invokevirtual 248, 3) := by decide +kernel
theorem dX11_canSay_12 : decode cX11_canSay 12 = .ok (.ifCond .eq 29, 3) := by decide +kernel
theorem dX11_canSay_15 : decode cX11_canSay 15 = .ok (.aload_n 0, 1) := by decide +kernel
theorem dX11_canSay_16 : decode cX11_canSay 16 = .ok (.getfield 36, 3) := by decide +kernel
theorem dX11_canSay_19 : decode cX11_canSay 19 = .ok (.getfield 57, 3) := by decide +kernel
theorem dX11_canSay_22 : decode cX11_canSay 22 = .ok (.iload_n 3, 1) := by decide +kernel
theorem dX11_canSay_23 : decode cX11_canSay 23 = .ok (.invokevirtual 155, 3) := by decide +kernel
theorem dX11_canSay_26 : decode cX11_canSay 26 = .ok (.ifCond .eq 15, 3) := by decide +kernel
theorem dX11_canSay_29 : decode cX11_canSay 29 = .ok (.iload 4, 2) := by decide +kernel
theorem dX11_canSay_31 : decode cX11_canSay 31 = .ok (.invokestatic 284, 3) := by decide +kernel
theorem dX11_canSay_34 : decode cX11_canSay 34 = .ok (.ifCond .eq 7, 3) := by decide +kernel
theorem dX11_canSay_37 : decode cX11_canSay 37 = .ok (.iconst 1, 1) := by decide +kernel
theorem dX11_canSay_38 : decode cX11_canSay 38 = .ok (.goto 4, 3) := by decide +kernel
theorem dX11_canSay_41 : decode cX11_canSay 41 = .ok (.iconst 0, 1) := by decide +kernel
theorem dX11_canSay_42 : decode cX11_canSay 42 = .ok (.ireturn, 1) := by decide +kernel
theorem dX11_prepare_0 : decode cX11_prepare 0 = .ok (.aload_n 0, 1) := by decide +kernel
theorem dX11_prepare_1 : decode cX11_prepare 1 = .ok (.getfield 67, 3) := by decide +kernel
theorem dX11_prepare_4 : decode cX11_prepare 4 = .ok (.aload_n 1, 1) := by decide +kernel
theorem dX11_prepare_5 : decode cX11_prepare 5 = .ok (.putfield 287, 3) := by decide +kernel
theorem dX11_prepare_8 : decode cX11_prepare 8 = .ok (.aload_n 0, 1) := by decide +kernel
theorem dX11_prepare_9 : decode cX11_prepare 9 = .ok (.getfield 67, 3) := by decide +kernel
theorem dX11_prepare_12 : decode cX11_prepare 12 = .ok (.iload_n 2, 1) := by decide +kernel
theorem dX11_prepare_13 : decode cX11_prepare 13 = .ok (.putfield 288, 3) := by decide +kernel
theorem dX11_prepare_16 : decode cX11_prepare 16 = .ok (.aload_n 0, 1) := by decide +kernel
theorem dX11_prepare_17 : decode cX11_prepare 17 = .ok (.getfield 67, 3) := by decide +kernel
theorem dX11_prepare_20 : decode cX11_prepare 20 = .ok (.iload_n 3, 1) := by decide +kernel
theorem dX11_prepare_21 : decode cX11_prepare 21 = .ok (.putfield 291, 3) := by decide +kernel
theorem dX11_prepare_24 : decode cX11_prepare 24 = .ok (.aload_n 0, 1) := by decide +kernel
theorem dX11_prepare_25 : decode cX11_prepare 25 = .ok (.getfield 67, 3) := by decide +kernel
theorem dX11_prepare_28 : decode cX11_prepare 28 = .ok (.iload 4, 2) := by decide +kernel
theorem dX11_prepare_30 : decode cX11_prepare 30 = .ok (.putfield 294, 3) := by decide +kernel
theorem dX11_prepare_33 : decode cX11_prepare 33 = .ok (.aload_n 0, 1) := by decide +kernel
theorem dX11_prepare_34 : decode cX11_prepare 34 = .ok (.getfield 67, 3) := by decide +kernel
theorem dX11_prepare_37 : decode cX11_prepare 37 = .ok (.iload 5, 2) := by decide +kernel
theorem dX11_prepare_39 : decode cX11_prepare 39 = .ok (.putfield 297, 3) := by decide +kernel
theorem dX11_prepare_42 : decode cX11_prepare 42 = .ok (.aload_n 0, 1) := by decide +kernel
theorem dX11_prepare_43 : decode cX11_prepare 43 = .ok (.getfield 67, 3) := by decide +kernel
theorem dX11_prepare_46 : decode cX11_prepare 46 = .ok (.iconst 0, 1) := by decide +kernel
theorem dX11_prepare_47 : decode cX11_prepare 47 = .ok (.putfield 300, 3) := by decide +kernel
theorem dX11_prepare_50 : decode cX11_prepare 50 = .ok (.return_, 1) := by decide +kernel
theorem dX11_speak_0 : decode cX11_speak 0 = .ok (.aload_n 0, 1) := by decide +kernel
theorem dX11_speak_1 : decode cX11_speak 1 = .ok (.invokevirtual 244, 3) := by decide +kernel
theorem dX11_speak_4 : decode cX11_speak 4 = .ok (.istore_n 1, 1) := by decide +kernel
theorem dX11_speak_5 : decode cX11_speak 5 = .ok (.iload_n 1, 1) := by decide +kernel
theorem dX11_speak_6 : decode cX11_speak 6 = .ok (.ifCond .eq 20, 3) := by decide +kernel
theorem dX11_speak_9 : decode cX11_speak 9 = .ok (.aload_n 0, 1) := by decide +kernel
theorem dX11_speak_10 : decode cX11_speak 10 = .ok (.getfield 67, 3) := by decide +kernel
theorem dX11_speak_13 : decode cX11_speak 13 = .ok (.getfield 287, 3) := by decide +kernel
theorem dX11_speak_16 : decode cX11_speak 16 = .ok (.aload_n 0, 1) := by decide +kernel
theorem dX11_speak_17 : decode cX11_speak 17 = .ok (.getfield 67, 3) := by decide +kernel
theorem dX11_speak_20 : decode cX11_speak 20 = .ok (.getfield 291, 3) := by decide +kernel
theorem dX11_speak_23 : decode cX11_speak 23 = .ok (.invokevirtual 303, 3) := by decide +kernel
theorem dX11_speak_26 : decode cX11_speak 26 = .ok (.aload_n 0, 1) := by decide +kernel
theorem dX11_speak_27 : decode cX11_speak 27 = .ok (.getfield 67, 3) := by decide +kernel
theorem dX11_speak_30 : decode cX11_speak 30 = .ok (.getfield 287, 3) := by decide +kernel
theorem dX11_speak_33 : decode cX11_speak 33 = .ok (.aload_n 0, 1) := by decide +kernel
theorem dX11_speak_34 : decode cX11_speak 34 = .ok (.getfield 67, 3) := by decide +kernel
theorem dX11_speak_37 : decode cX11_speak 37 = .ok (.invokevirtual 306, 3) := by decide +kernel
theorem dX11_speak_40 : decode cX11_speak 40 = .ok (.iload_n 1, 1) := by decide +kernel
theorem dX11_speak_41 : decode cX11_speak 41 = .ok (.ifCond .eq 7, 3) := by decide +kernel
theorem dX11_speak_44 : decode cX11_speak 44 = .ok (.iconst 1, 1) := by decide +kernel
theorem dX11_speak_45 : decode cX11_speak 45 = .ok (.goto 4, 3) := by decide +kernel
theorem dX11_speak_48 : decode cX11_speak 48 = .ok (.iconst 0, 1) := by decide +kernel
theorem dX11_speak_49 : decode cX11_speak 49 = .ok (.ireturn, 1) := by decide +kernel
theorem dX11_isLie_0 : decode cX11_isLie 0 = .ok (.aload_n 0, 1) := by decide +kernel
theorem dX11_isLie_1 : decode cX11_isLie 1 = .ok (.getfield 36, 3) := by decide +kernel
theorem dX11_isLie_4 : decode cX11_isLie 4 = .ok (.getfield 149, 3) := by decide +kernel
theorem dX11_isLie_7 : decode cX11_isLie 7 = .ok (.istore_n 1, 1) := by decide +kernel
theorem dX11_isLie_8 : decode cX11_isLie 8 = .ok (.aload_n 0, 1) := by decide +kernel
theorem dX11_isLie_9 : decode cX11_isLie 9 = .ok (.iload_n 1, 1) := by decide +kernel
theorem dX11_isLie_10 : decode cX11_isLie 10 = .ok (.invokevirtual 145, 3) := by decide +kernel
theorem dX11_isLie_13 : decode cX11_isLie 13 = .ok (.ifCond .eq 29, 3) := by decide +kernel
theorem dX11_isLie_16 : decode cX11_isLie 16 = .ok (.aload_n 0, 1) := by decide +kernel
theorem dX11_isLie_17 : decode cX11_isLie 17 = .ok (.getfield 29, 3) := by decide +kernel
theorem dX11_isLie_20 : decode cX11_isLie 20 = .ok (.iload_n 1, 1) := by decide +kernel
theorem dX11_isLie_21 : decode cX11_isLie 21 = .ok (.aaload, 1) := by decide +kernel
theorem dX11_isLie_22 : decode cX11_isLie 22 = .ok (.getfield 310, 3) := by decide +kernel
theorem dX11_isLie_25 : decode cX11_isLie 25 = .ok (.ifCond .eq 17, 3) := by decide +kernel
theorem dX11_isLie_28 : decode cX11_isLie 28 = .ok (.aload_n 0, 1) := by decide +kernel
theorem dX11_isLie_29 : decode cX11_isLie 29 = .ok (.getfield 29, 3) := by decide +kernel
theorem dX11_isLie_32 : decode cX11_isLie 32 = .ok (.iload_n 1, 1) := by decide +kernel
theorem dX11_isLie_33 : decode cX11_isLie 33 = .ok (.aaload, 1) := by decide +kernel
theorem dX11_isLie_34 : decode cX11_isLie 34 = .ok (.aload_n 0, 1) := by decide +kernel
theorem dX11_isLie_35 : decode cX11_isLie 35 = .ok (.getfield 67, 3) := by decide +kernel
theorem dX11_isLie_38 : decode cX11_isLie 38 = .ok (.invokevirtual 313, 3) := by decide +kernel
theorem dX11_isLie_41 : decode cX11_isLie 41 = .ok (.ireturn, 1) := by decide +kernel
theorem dX11_isLie_42 : decode cX11_isLie 42 = .ok (.aload_n 0, 1) := by decide +kernel
theorem dX11_isLie_43 : decode cX11_isLie 43 = .ok (.getfield 67, 3) := by decide +kernel
theorem dX11_isLie_46 : decode cX11_isLie 46 = .ok (.getfield 297, 3) := by decide +kernel
theorem dX11_isLie_49 : decode cX11_isLie 49 = .ok (.aload_n 0, 1) := by decide +kernel
theorem dX11_isLie_50 : decode cX11_isLie 50 = .ok (.getfield 36, 3) := by decide +kernel
theorem dX11_isLie_53 : decode cX11_isLie 53 = .ok (.getfield 57, 3) := by decide +kernel
theorem dX11_isLie_56 : decode cX11_isLie 56 = .ok (.getfield 197, 3) := by decide +kernel
theorem dX11_isLie_59 : decode cX11_isLie 59 = .ok (.aload_n 0, 1) := by decide +kernel
theorem dX11_isLie_60 : decode cX11_isLie 60 = .ok (.getfield 67, 3) := by decide +kernel
theorem dX11_isLie_63 : decode cX11_isLie 63 = .ok (.getfield 294, 3) := by decide +kernel
theorem dX11_isLie_66 : decode cX11_isLie 66 = .ok (.invokestatic 183, 3) := by decide +kernel
theorem dX11_isLie_69 : decode cX11_isLie 69 = .ok (.if_icmp .eq 7, 3) := by decide +kernel
theorem dX11_isLie_72 : decode cX11_isLie 72 = .ok (.iconst 1, 1) := by decide +kernel
theorem dX11_isLie_73 : decode cX11_isLie 73 = .ok (.goto 4, 3) := by decide +kernel
theorem dX11_isLie_76 : decode cX11_isLie 76 = .ok (.iconst 0, 1) := by decide +kernel
theorem dX11_isLie_77 : decode cX11_isLie 77 = .ok (.ireturn, 1) := by decide +kernel
theorem dX11_tellAll_0 : decode cX11_tellAll 0 = .ok (.iconst 0, 1) := by decide +kernel
theorem dX11_tellAll_1 : decode cX11_tellAll 1 = .ok (.istore_n 3, 1) := by decide +kernel
theorem dX11_tellAll_2 : decode cX11_tellAll 2 = .ok (.iconst 0, 1) := by decide +kernel
theorem dX11_tellAll_3 : decode cX11_tellAll 3 = .ok (.istore 4, 2) := by decide +kernel
theorem dX11_tellAll_5 : decode cX11_tellAll 5 = .ok (.iload 4, 2) := by decide +kernel
theorem dX11_tellAll_7 : decode cX11_tellAll 7 = .ok (.aload_n 0, 1) := by decide +kernel
theorem dX11_tellAll_8 : decode cX11_tellAll 8 = .ok (.getfield 36, 3) := by decide +kernel
theorem dX11_tellAll_11 : decode cX11_tellAll 11 = .ok (.getfield 57, 3) := by decide +kernel
theorem dX11_tellAll_14 : decode cX11_tellAll 14 = .ok (.getfield 194, 3) := by decide +kernel
theorem dX11_tellAll_17 : decode cX11_tellAll 17 = .ok (.if_icmp .ge 90, 3) := by decide +kernel
theorem dX11_tellAll_20 : decode cX11_tellAll 20 = .ok (.aload_n 0, 1) := by decide +kernel
theorem dX11_tellAll_21 : decode cX11_tellAll 21 = .ok (.getfield 36, 3) := by decide +kernel
theorem dX11_tellAll_24 : decode cX11_tellAll 24 = .ok (.getfield 60, 3) := by decide +kernel
theorem dX11_tellAll_27 : decode cX11_tellAll 27 = .ok (.getfield 158, 3) := by decide +kernel
theorem dX11_tellAll_30 : decode cX11_tellAll 30 = .ok (.iload_n 1, 1) := by decide +kernel
theorem dX11_tellAll_31 : decode cX11_tellAll 31 = .ok (.bipush 8, 2) := by decide +kernel
theorem dX11_tellAll_33 : decode cX11_tellAll 33 = .ok (.imul, 1) := by decide +kernel
theorem dX11_tellAll_34 : decode cX11_tellAll 34 = .ok (.iload 4, 2) := by decide +kernel
theorem dX11_tellAll_36 : decode cX11_tellAll 36 = .ok (.iadd, 1) := by decide +kernel
theorem dX11_tellAll_37 : decode cX11_tellAll 37 = .ok (.iaload, 1) := by decide +kernel
theorem dX11_tellAll_38 : decode cX11_tellAll 38 = .ok (.istore 5, 2) := by decide +kernel
theorem dX11_tellAll_40 : decode cX11_tellAll 40 = .ok (.iload 5, 2) := by decide +kernel
theorem dX11_tellAll_42 : decode cX11_tellAll 42 = .ok (.iconst 2, 1) := by decide +kernel
theorem dX11_tellAll_43 : decode cX11_tellAll 43 = .ok (.if_icmp .eq 58, 3) := by decide +kernel
theorem dX11_tellAll_46 : decode cX11_tellAll 46 = .ok (.iload 5, 2) := by decide +kernel
theorem dX11_tellAll_48 : decode cX11_tellAll 48 = .ok (.aload_n 0, 1) := by decide +kernel
theorem dX11_tellAll_49 : decode cX11_tellAll 49 = .ok (.getfield 36, 3) := by decide +kernel
theorem dX11_tellAll_52 : decode cX11_tellAll 52 = .ok (.getfield 60, 3) := by decide +kernel
theorem dX11_tellAll_55 : decode cX11_tellAll 55 = .ok (.getfield 158, 3) := by decide +kernel
theorem dX11_tellAll_58 : decode cX11_tellAll 58 = .ok (.iload_n 2, 1) := by decide +kernel
theorem dX11_tellAll_59 : decode cX11_tellAll 59 = .ok (.bipush 8, 2) := by decide +kernel
theorem dX11_tellAll_61 : decode cX11_tellAll 61 = .ok (.imul, 1) := by decide +kernel
theorem dX11_tellAll_62 : decode cX11_tellAll 62 = .ok (.iload 4, 2) := by decide +kernel
theorem dX11_tellAll_64 : decode cX11_tellAll 64 = .ok (.iadd, 1) := by decide +kernel
theorem dX11_tellAll_65 : decode cX11_tellAll 65 = .ok (.iaload, 1) := by decide +kernel
theorem dX11_tellAll_66 : decode cX11_tellAll 66 = .ok (.if_icmp .eq 35, 3) := by decide +kernel
theorem dX11_tellAll_69 : decode cX11_tellAll 69 = .ok (.aload_n 0, 1) := by decide +kernel
theorem dX11_tellAll_70 : decode cX11_tellAll 70 = .ok (.aload_n 0, 1) := by decide +kernel
theorem dX11_tellAll_71 : decode cX11_tellAll 71 = .ok (.getfield 36, 3) := by decide +kernel
theorem dX11_tellAll_74 : decode cX11_tellAll 74 = .ok (.getfield 60, 3) := by decide +kernel
theorem dX11_tellAll_77 : decode cX11_tellAll 77 = .ok (.iload_n 1, 1) := by decide +kernel
theorem dX11_tellAll_78 : decode cX11_tellAll 78 = .ok (.iload_n 2, 1) := by decide +kernel
theorem dX11_tellAll_79 : decode cX11_tellAll 79 = .ok (.iload 4, 2) := by decide +kernel
theorem dX11_tellAll_81 : decode cX11_tellAll 81 = .ok (.iload 5, 2) := by decide +kernel
theorem dX11_tellAll_83 : decode cX11_tellAll 83 = .ok (.invokevirtual 237, 3) := by decide +kernel
theorem dX11_tellAll_86 : decode cX11_tellAll 86 = .ok (.aload_n 0, 1) := by decide +kernel
theorem dX11_tellAll_87 : decode cX11_tellAll 87 = .ok (.getfield 67, 3) := by decide +kernel
theorem dX11_tellAll_90 : decode cX11_tellAll 90 = .ok (.iconst 1, 1) := by decide +kernel
theorem dX11_tellAll_91 : decode cX11_tellAll 91 = .ok (.putfield 300, 3) := by decide +kernel
theorem dX11_tellAll_94 : decode cX11_tellAll 94 = .ok (.iload_n 3, 1) := by decide +kernel
theorem dX11_tellAll_95 : decode cX11_tellAll 95 = .ok (.aload_n 0, 1) := by decide +kernel
theorem dX11_tellAll_96 : decode cX11_tellAll 96 = .ok (.invokevirtual 241, 3) := by decide +kernel
theorem dX11_tellAll_99 : decode cX11_tellAll 99 = .ok (.iadd, 1) := by decide +kernel
theorem dX11_tellAll_100 : decode cX11_tellAll 100 = .ok (.istore_n 3, 1) := by decide +kernel
theorem dX11_tellAll_101 : decode cX11_tellAll 101 = .ok (.iinc 4 1, 3) := by decide +kernel
theorem dX11_tellAll_104 : decode cX11_tellAll 104 = .ok (.goto (-99), 3) := by decide +kernel
theorem dX11_tellAll_107 : decode cX11_tellAll 107 = .ok (.iload_n 3, 1) := by decide +kernel
theorem dX11_tellAll_108 : decode cX11_tellAll 108 = .ok (.ireturn, 1) := by decide +kernel
theorem dX11_breach_0 : decode cX11_breach 0 = .ok (.aload_n 0, 1) := by decide +kernel
theorem dX11_breach_1 : decode cX11_breach 1 = .ok (.getfield 36, 3) := by decide +kernel
theorem dX11_breach_4 : decode cX11_breach 4 = .ok (.getfield 57, 3) := by decide +kernel
theorem dX11_breach_7 : decode cX11_breach 7 = .ok (.getfield 262, 3) := by decide +kernel
theorem dX11_breach_10 : decode cX11_breach 10 = .ok (.ifCond .eq 10, 3) := by decide +kernel
theorem dX11_breach_13 : decode cX11_breach 13 = .ok (.iload_n 1, 1) := by decide +kernel
theorem dX11_breach_14 : decode cX11_breach 14 = .ok (.invokestatic 284, 3) := by decide +kernel
theorem dX11_breach_17 : decode cX11_breach 17 = .ok (.ifCond .ne 5, 3) := by decide +kernel
theorem dX11_breach_20 : decode cX11_breach 20 = .ok (.iconst (-1), 1) := by decide +kernel
theorem dX11_breach_21 : decode cX11_breach 21 = .ok (.ireturn, 1) := by decide +kernel
theorem dX11_breach_22 : decode cX11_breach 22 = .ok (.aload_n 0, 1) := by decide +kernel
theorem dX11_breach_23 : decode cX11_breach 23 = .ok (.getfield 36, 3) := by decide +kernel
theorem dX11_breach_26 : decode cX11_breach 26 = .ok (.getfield 60, 3) := by decide +kernel
theorem dX11_breach_29 : decode cX11_breach 29 = .ok (.getfield 317, 3) := by decide +kernel
theorem dX11_breach_32 : decode cX11_breach 32 = .ok (.iconst (-1), 1) := by decide +kernel
theorem dX11_breach_33 : decode cX11_breach 33 = .ok (.if_icmp .ne 6, 3) := by decide +kernel
theorem dX11_breach_36 : decode cX11_breach 36 = .ok (.bipush (-2), 2) := by decide +kernel
theorem dX11_breach_38 : decode cX11_breach 38 = .ok (.ireturn, 1) := by decide +kernel
theorem dX11_breach_39 : decode cX11_breach 39 = .ok (.iload_n 1, 1) := by decide +kernel
theorem dX11_breach_40 : decode cX11_breach 40 = .ok (.ifCond .ne 16, 3) := by decide +kernel
theorem dX11_breach_43 : decode cX11_breach 43 = .ok (.aload_n 0, 1) := by decide +kernel
theorem dX11_breach_44 : decode cX11_breach 44 = .ok (.getfield 36, 3) := by decide +kernel
theorem dX11_breach_47 : decode cX11_breach 47 = .ok (.getfield 60, 3) := by decide +kernel
theorem dX11_breach_50 : decode cX11_breach 50 = .ok (.getfield 320, 3) := by decide +kernel
theorem dX11_breach_53 : decode cX11_breach 53 = .ok (.goto 13, 3) := by decide +kernel
theorem dX11_breach_56 : decode cX11_breach 56 = .ok (.aload_n 0, 1) := by decide +kernel
theorem dX11_breach_57 : decode cX11_breach 57 = .ok (.getfield 36, 3) := by decide +kernel
theorem dX11_breach_60 : decode cX11_breach 60 = .ok (.getfield 60, 3) := by decide +kernel
theorem dX11_breach_63 : decode cX11_breach 63 = .ok (.getfield 317, 3) := by decide +kernel
theorem dX11_breach_66 : decode cX11_breach 66 = .ok (.ireturn, 1) := by decide +kernel
theorem dX11_tellers_0 : decode cX11_tellers 0 = .ok (.aload_n 0, 1) := by decide +kernel
theorem dX11_tellers_1 : decode cX11_tellers 1 = .ok (.getfield 36, 3) := by decide +kernel
theorem dX11_tellers_4 : decode cX11_tellers 4 = .ok (.getfield 57, 3) := by decide +kernel
theorem dX11_tellers_7 : decode cX11_tellers 7 = .ok (.getfield 262, 3) := by decide +kernel
theorem dX11_tellers_10 : decode cX11_tellers 10 = .ok (.ifCond .eq 10, 3) := by decide +kernel
theorem dX11_tellers_13 : decode cX11_tellers 13 = .ok (.iload_n 1, 1) := by decide +kernel
theorem dX11_tellers_14 : decode cX11_tellers 14 = .ok (.invokestatic 284, 3) := by decide +kernel
theorem dX11_tellers_17 : decode cX11_tellers 17 = .ok (.ifCond .ne 5, 3) := by decide +kernel
theorem dX11_tellers_20 : decode cX11_tellers 20 = .ok (.iconst (-1), 1) := by decide +kernel
theorem dX11_tellers_21 : decode cX11_tellers 21 = .ok (.ireturn, 1) := by decide +kernel
theorem dX11_tellers_22 : decode cX11_tellers 22 = .ok (.bipush 8, 2) := by decide +kernel
theorem dX11_tellers_24 : decode cX11_tellers 24 = .ok (.istore_n 2, 1) := by decide +kernel
theorem dX11_tellers_25 : decode cX11_tellers 25 = .ok (.bipush (-2), 2) := by decide +kernel
theorem dX11_tellers_27 : decode cX11_tellers 27 = .ok (.istore_n 3, 1) := by decide +kernel
theorem dX11_tellers_28 : decode cX11_tellers 28 = .ok (.iconst 0, 1) := by decide +kernel
theorem dX11_tellers_29 : decode cX11_tellers 29 = .ok (.istore 4, 2) := by decide +kernel
theorem dX11_tellers_31 : decode cX11_tellers 31 = .ok (.iload 4, 2) := by decide +kernel
theorem dX11_tellers_33 : decode cX11_tellers 33 = .ok (.iconst 1, 1) := by decide +kernel
theorem dX11_tellers_34 : decode cX11_tellers 34 = .ok (.aload_n 0, 1) := by decide +kernel
theorem dX11_tellers_35 : decode cX11_tellers 35 = .ok (.getfield 36, 3) := by decide +kernel
theorem dX11_tellers_38 : decode cX11_tellers 38 = .ok (.getfield 57, 3) := by decide +kernel
theorem dX11_tellers_41 : decode cX11_tellers 41 = .ok (.getfield 135, 3) := by decide +kernel
theorem dX11_tellers_44 : decode cX11_tellers 44 = .ok (.ishl, 1) := by decide +kernel
theorem dX11_tellers_45 : decode cX11_tellers 45 = .ok (.if_icmp .ge 43, 3) := by decide +kernel
theorem dX11_tellers_48 : decode cX11_tellers 48 = .ok (.iload 4, 2) := by decide +kernel
theorem dX11_tellers_50 : decode cX11_tellers 50 = .ok (.invokestatic 323, 3) := by decide +kernel
theorem dX11_tellers_53 : decode cX11_tellers 53 = .ok (.istore 5, 2) := by decide +kernel
theorem dX11_tellers_55 : decode cX11_tellers 55 = .ok (.iload 5, 2) := by decide +kernel
theorem dX11_tellers_57 : decode cX11_tellers 57 = .ok (.iload_n 2, 1) := by decide +kernel
theorem dX11_tellers_58 : decode cX11_tellers 58 = .ok (.if_icmp .ge 24, 3) := by decide +kernel
theorem dX11_tellers_61 : decode cX11_tellers 61 = .ok (.aload_n 0, 1) := by decide +kernel
theorem dX11_tellers_62 : decode cX11_tellers 62 = .ok (.getfield 36, 3) := by decide +kernel
theorem dX11_tellers_65 : decode cX11_tellers 65 = .ok (.getfield 57, 3) := by decide +kernel
theorem dX11_tellers_68 : decode cX11_tellers 68 = .ok (.iload 4, 2) := by decide +kernel
theorem dX11_tellers_70 : decode cX11_tellers 70 = .ok (.invokevirtual 328, 3) := by decide +kernel
theorem dX11_tellers_73 : decode cX11_tellers 73 = .ok (.ifCond .eq 9, 3) := by decide +kernel
theorem dX11_tellers_76 : decode cX11_tellers 76 = .ok (.iload 5, 2) := by decide +kernel
theorem dX11_tellers_78 : decode cX11_tellers 78 = .ok (.istore_n 2, 1) := by decide +kernel
theorem dX11_tellers_79 : decode cX11_tellers 79 = .ok (.iload 4, 2) := by decide +kernel
theorem dX11_tellers_81 : decode cX11_tellers 81 = .ok (.istore_n 3, 1) := by decide +kernel
theorem dX11_tellers_82 : decode cX11_tellers 82 = .ok (.iinc 4 1, 3) := by decide +kernel
theorem dX11_tellers_85 : decode cX11_tellers 85 = .ok (.goto (-54), 3) := by decide +kernel
theorem dX11_tellers_88 : decode cX11_tellers 88 = .ok (.iload_n 3, 1) := by decide +kernel
theorem dX11_tellers_89 : decode cX11_tellers 89 = .ok (.bipush (-2), 2) := by decide +kernel
theorem dX11_tellers_91 : decode cX11_tellers 91 = .ok (.if_icmp .eq 8, 3) := by decide +kernel
theorem dX11_tellers_94 : decode cX11_tellers 94 = .ok (.iload_n 1, 1) := by decide +kernel
theorem dX11_tellers_95 : decode cX11_tellers 95 = .ok (.iconst 1, 1) := by decide +kernel
theorem dX11_tellers_96 : decode cX11_tellers 96 = .ok (.if_icmp .ne 7, 3) := by decide +kernel
theorem dX11_tellers_99 : decode cX11_tellers 99 = .ok (.iload_n 3, 1) := by decide +kernel
theorem dX11_tellers_100 : decode cX11_tellers 100 = .ok (.goto 4, 3) := by decide +kernel
theorem dX11_tellers_103 : decode cX11_tellers 103 = .ok (.iload_n 2, 1) := by decide +kernel
theorem dX11_tellers_104 : decode cX11_tellers 104 = .ok (.ireturn, 1) := by decide +kernel
theorem dX11_leastLie_0 : decode cX11_leastLie 0 = .ok (.aload_n 0, 1) := by decide +kernel
theorem dX11_leastLie_1 : decode cX11_leastLie 1 = .ok (.getfield 36, 3) := by decide +kernel
theorem dX11_leastLie_4 : decode cX11_leastLie 4 = .ok (.getfield 57, 3) := by decide +kernel
theorem dX11_leastLie_7 : decode cX11_leastLie 7 = .ok (.iload_n 1, 1) := by decide +kernel
theorem dX11_leastLie_8 : decode cX11_leastLie 8 = .ok (.iload_n 2, 1) := by decide +kernel
theorem dX11_leastLie_9 : decode cX11_leastLie 9 = .ok (.invokevirtual 248, 3) := by decide +kernel
theorem dX11_leastLie_12 : decode cX11_leastLie 12 = .ok (.ifCond .eq 10, 3) := by decide +kernel
theorem dX11_leastLie_15 : decode cX11_leastLie 15 = .ok (.iload_n 3, 1) := by decide +kernel
theorem dX11_leastLie_16 : decode cX11_leastLie 16 = .ok (.invokestatic 284, 3) := by decide +kernel
theorem dX11_leastLie_19 : decode cX11_leastLie 19 = .ok (.ifCond .ne 5, 3) := by decide +kernel
theorem dX11_leastLie_22 : decode cX11_leastLie 22 = .ok (.iconst (-1), 1) := by decide +kernel
theorem dX11_leastLie_23 : decode cX11_leastLie 23 = .ok (.ireturn, 1) := by decide +kernel
theorem dX11_leastLie_24 : decode cX11_leastLie 24 = .ok (.aload_n 0, 1) := by decide +kernel
theorem dX11_leastLie_25 : decode cX11_leastLie 25 = .ok (.iload_n 1, 1) := by decide +kernel
theorem dX11_leastLie_26 : decode cX11_leastLie 26 = .ok (.iload_n 2, 1) := by decide +kernel
theorem dX11_leastLie_27 : decode cX11_leastLie 27 = .ok (.invokevirtual 331, 3) := by decide +kernel
theorem dX11_leastLie_30 : decode cX11_leastLie 30 = .ok (.istore 4, 2) := by decide +kernel
theorem dX11_leastLie_32 : decode cX11_leastLie 32 = .ok (.iload_n 3, 1) := by decide +kernel
theorem dX11_leastLie_33 : decode cX11_leastLie 33 = .ok (.ifCond .ne 8, 3) := by decide +kernel
theorem dX11_leastLie_36 : decode cX11_leastLie 36 = .ok (.iload 4, 2) := by decide +kernel
theorem dX11_leastLie_38 : decode cX11_leastLie 38 = .ok (.goto 11, 3) := by decide +kernel
theorem dX11_leastLie_41 : decode cX11_leastLie 41 = .ok (.aload_n 0, 1) := by decide +kernel
theorem dX11_leastLie_42 : decode cX11_leastLie 42 = .ok (.iload_n 1, 1) := by decide +kernel
theorem dX11_leastLie_43 : decode cX11_leastLie 43 = .ok (.iload_n 2, 1) := by decide +kernel
theorem dX11_leastLie_44 : decode cX11_leastLie 44 = .ok (.iload 4, 2) := by decide +kernel
theorem dX11_leastLie_46 : decode cX11_leastLie 46 = .ok (.invokevirtual 334, 3) := by decide +kernel
theorem dX11_leastLie_49 : decode cX11_leastLie 49 = .ok (.ireturn, 1) := by decide +kernel
theorem dX11_leastLieFact_0 : decode cX11_leastLieFact 0 = .ok (.iconst 0, 1) := by decide +kernel
theorem dX11_leastLieFact_1 : decode cX11_leastLieFact 1 = .ok (.istore_n 3, 1) := by decide +kernel
theorem dX11_leastLieFact_2 : decode cX11_leastLieFact 2 = .ok (.aload_n 0, 1) := by decide +kernel
theorem dX11_leastLieFact_3 : decode cX11_leastLieFact 3 = .ok (.iload_n 1, 1) := by decide +kernel
theorem dX11_leastLieFact_4 : decode cX11_leastLieFact 4 = .ok (.iload_n 2, 1) := by decide +kernel
theorem dX11_leastLieFact_5 : decode cX11_leastLieFact 5 = .ok (.iconst 0, 1) := by decide +kernel
theorem dX11_leastLieFact_6 : decode cX11_leastLieFact 6 = .ok (.invokevirtual 334, 3) := by decide +kernel
theorem dX11_leastLieFact_9 : decode cX11_leastLieFact 9 = .ok (.istore 4, 2) := by decide +kernel
theorem dX11_leastLieFact_11 : decode cX11_leastLieFact 11 = .ok (.iconst 1, 1) := by decide +kernel
theorem dX11_leastLieFact_12 : decode cX11_leastLieFact 12 = .ok (.istore 5, 2) := by decide +kernel
theorem dX11_leastLieFact_14 : decode cX11_leastLieFact 14 = .ok (.iload 5, 2) := by decide +kernel
theorem dX11_leastLieFact_16 : decode cX11_leastLieFact 16 = .ok (.aload_n 0, 1) := by decide +kernel
theorem dX11_leastLieFact_17 : decode cX11_leastLieFact 17 = .ok (.getfield 36, 3) := by decide +kernel
theorem dX11_leastLieFact_20 : decode cX11_leastLieFact 20 = .ok (.getfield 57, 3) := by decide +kernel
theorem dX11_leastLieFact_23 : decode cX11_leastLieFact 23 = .ok (.getfield 194, 3) := by decide +kernel
theorem dX11_leastLieFact_26 : decode cX11_leastLieFact 26 = .ok (.if_icmp .ge 33, 3) := by decide +kernel
theorem dX11_leastLieFact_29 : decode cX11_leastLieFact 29 = .ok (.aload_n 0, 1) := by decide +kernel
theorem dX11_leastLieFact_30 : decode cX11_leastLieFact 30 = .ok (.iload_n 1, 1) := by decide +kernel
theorem dX11_leastLieFact_31 : decode cX11_leastLieFact 31 = .ok (.iload_n 2, 1) := by decide +kernel
theorem dX11_leastLieFact_32 : decode cX11_leastLieFact 32 = .ok (.iload 5, 2) := by decide +kernel
theorem dX11_leastLieFact_34 : decode cX11_leastLieFact 34 = .ok (.invokevirtual 334, 3) := by decide +kernel
theorem dX11_leastLieFact_37 : decode cX11_leastLieFact 37 = .ok (.istore 6, 2) := by decide +kernel
theorem dX11_leastLieFact_39 : decode cX11_leastLieFact 39 = .ok (.iload 6, 2) := by decide +kernel
theorem dX11_leastLieFact_41 : decode cX11_leastLieFact 41 = .ok (.iload 4, 2) := by decide +kernel
theorem dX11_leastLieFact_43 : decode cX11_leastLieFact 43 = .ok (.if_icmp .ge 10, 3) := by decide +kernel
theorem dX11_leastLieFact_46 : decode cX11_leastLieFact 46 = .ok (.iload 6, 2) := by decide +kernel
theorem dX11_leastLieFact_48 : decode cX11_leastLieFact 48 = .ok (.istore 4, 2) := by decide +kernel
theorem dX11_leastLieFact_50 : decode cX11_leastLieFact 50 = .ok (.iload 5, 2) := by decide +kernel
theorem dX11_leastLieFact_52 : decode cX11_leastLieFact 52 = .ok (.istore_n 3, 1) := by decide +kernel
theorem dX11_leastLieFact_53 : decode cX11_leastLieFact 53 = .ok (.iinc 5 1, 3) := by decide +kernel
theorem dX11_leastLieFact_56 : decode cX11_leastLieFact 56 = .ok (.goto (-42), 3) := by decide +kernel
theorem dX11_leastLieFact_59 : decode cX11_leastLieFact 59 = .ok (.iload_n 3, 1) := by decide +kernel
theorem dX11_leastLieFact_60 : decode cX11_leastLieFact 60 = .ok (.ireturn, 1) := by decide +kernel
theorem dX11_harmBehindLie_0 : decode cX11_harmBehindLie 0 = .ok (.aload_n 0, 1) := by decide +kernel
theorem dX11_harmBehindLie_1 : decode cX11_harmBehindLie 1 = .ok (.getfield 36, 3) := by decide +kernel
theorem dX11_harmBehindLie_4 : decode cX11_harmBehindLie 4 = .ok (.getfield 60, 3) := by decide +kernel
theorem dX11_harmBehindLie_7 : decode cX11_harmBehindLie 7 = .ok (.getfield 158, 3) := by decide +kernel
theorem dX11_harmBehindLie_10 : decode cX11_harmBehindLie 10 = .ok (.iload_n 2, 1) := by decide +kernel
theorem dX11_harmBehindLie_11 : decode cX11_harmBehindLie 11 = .ok (.bipush 8, 2) := by decide +kernel
theorem dX11_harmBehindLie_13 : decode cX11_harmBehindLie 13 = .ok (.imul, 1) := by decide +kernel
theorem dX11_harmBehindLie_14 : decode cX11_harmBehindLie 14 = .ok (.aload_n 0, 1) := by decide +kernel
theorem dX11_harmBehindLie_15 : decode cX11_harmBehindLie 15 = .ok (.getfield 84, 3) := by decide +kernel
theorem dX11_harmBehindLie_18 : decode cX11_harmBehindLie 18 = .ok (.iconst 0, 1) := by decide +kernel
theorem dX11_harmBehindLie_19 : decode cX11_harmBehindLie 19 = .ok (.bipush 8, 2) := by decide +kernel
theorem dX11_harmBehindLie_21 : decode cX11_harmBehindLie 21 = .ok (.invokestatic 338, 3) := by decide +kernel
theorem dX11_harmBehindLie_24 : decode cX11_harmBehindLie 24 = .ok (.aload_n 0, 1) := by decide +kernel
theorem dX11_harmBehindLie_25 : decode cX11_harmBehindLie 25 = .ok (.getfield 36, 3) := by decide +kernel
theorem dX11_harmBehindLie_28 : decode cX11_harmBehindLie 28 = .ok (.getfield 60, 3) := by decide +kernel
theorem dX11_harmBehindLie_31 : decode cX11_harmBehindLie 31 = .ok (.aload_n 0, 1) := by decide +kernel
theorem dX11_harmBehindLie_32 : decode cX11_harmBehindLie 32 = .ok (.getfield 36, 3) := by decide +kernel
theorem dX11_harmBehindLie_35 : decode cX11_harmBehindLie 35 = .ok (.getfield 57, 3) := by decide +kernel
theorem dX11_harmBehindLie_38 : decode cX11_harmBehindLie 38 = .ok (.iload_n 1, 1) := by decide +kernel
theorem dX11_harmBehindLie_39 : decode cX11_harmBehindLie 39 = .ok (.iload_n 2, 1) := by decide +kernel
theorem dX11_harmBehindLie_40 : decode cX11_harmBehindLie 40 = .ok (.iload_n 3, 1) := by decide +kernel
theorem dX11_harmBehindLie_41 : decode cX11_harmBehindLie 41 = .ok (.invokevirtual 344, 3) := by decide +kernel
theorem dX11_harmBehindLie_44 : decode cX11_harmBehindLie 44 = .ok (.ifCond .eq 25, 3) := by decide +kernel
theorem dX11_harmBehindLie_47 : decode cX11_harmBehindLie 47 = .ok (.aload_n 0, 1) := by decide +kernel
theorem dX11_harmBehindLie_48 : decode cX11_harmBehindLie 48 = .ok (.getfield 84, 3) := by decide +kernel
theorem dX11_harmBehindLie_51 : decode cX11_harmBehindLie 51 = .ok (.iload_n 3, 1) := by decide +kernel
theorem dX11_harmBehindLie_52 : decode cX11_harmBehindLie 52 = .ok (.iconst 1, 1) := by decide +kernel
theorem dX11_harmBehindLie_53 : decode cX11_harmBehindLie 53 = .ok (.aload_n 0, 1) := by decide +kernel
theorem dX11_harmBehindLie_54 : decode cX11_harmBehindLie 54 = .ok (.getfield 36, 3) := by decide +kernel
theorem dX11_harmBehindLie_57 : decode cX11_harmBehindLie 57 = .ok (.getfield 57, 3) := by decide +kernel
theorem dX11_harmBehindLie_60 : decode cX11_harmBehindLie 60 = .ok (.getfield 197, 3) := by decide +kernel
theorem dX11_harmBehindLie_63 : decode cX11_harmBehindLie 63 = .ok (.iload_n 3, 1) := by decide +kernel
theorem dX11_harmBehindLie_64 : decode cX11_harmBehindLie 64 = .ok (.invokestatic 183, 3) := by decide +kernel
theorem dX11_harmBehindLie_67 : decode cX11_harmBehindLie 67 = .ok (.isub, 1) := by decide +kernel
theorem dX11_harmBehindLie_68 : decode cX11_harmBehindLie 68 = .ok (.iastore, 1) := by decide +kernel
theorem dX11_harmBehindLie_69 : decode cX11_harmBehindLie 69 = .ok (.aload_n 0, 1) := by decide +kernel
theorem dX11_harmBehindLie_70 : decode cX11_harmBehindLie 70 = .ok (.getfield 36, 3) := by decide +kernel
theorem dX11_harmBehindLie_73 : decode cX11_harmBehindLie 73 = .ok (.getfield 57, 3) := by decide +kernel
theorem dX11_harmBehindLie_76 : decode cX11_harmBehindLie 76 = .ok (.aload_n 0, 1) := by decide +kernel
theorem dX11_harmBehindLie_77 : decode cX11_harmBehindLie 77 = .ok (.getfield 84, 3) := by decide +kernel
theorem dX11_harmBehindLie_80 : decode cX11_harmBehindLie 80 = .ok (.iconst 0, 1) := by decide +kernel
theorem dX11_harmBehindLie_81 : decode cX11_harmBehindLie 81 = .ok (.invokevirtual 348, 3) := by decide +kernel
theorem dX11_harmBehindLie_84 : decode cX11_harmBehindLie 84 = .ok (.aload_n 0, 1) := by decide +kernel
theorem dX11_harmBehindLie_85 : decode cX11_harmBehindLie 85 = .ok (.getfield 36, 3) := by decide +kernel
theorem dX11_harmBehindLie_88 : decode cX11_harmBehindLie 88 = .ok (.getfield 57, 3) := by decide +kernel
theorem dX11_harmBehindLie_91 : decode cX11_harmBehindLie 91 = .ok (.aload_n 0, 1) := by decide +kernel
theorem dX11_harmBehindLie_92 : decode cX11_harmBehindLie 92 = .ok (.getfield 84, 3) := by decide +kernel
theorem dX11_harmBehindLie_95 : decode cX11_harmBehindLie 95 = .ok (.iconst 0, 1) := by decide +kernel
theorem dX11_harmBehindLie_96 : decode cX11_harmBehindLie 96 = .ok (.invokevirtual 170, 3) := by decide +kernel
theorem dX11_harmBehindLie_99 : decode cX11_harmBehindLie 99 = .ok (.ireturn, 1) := by decide +kernel
theorem dX11_evening_0 : decode cX11_evening 0 = .ok (.aload_n 0, 1) := by decide +kernel
theorem dX11_evening_1 : decode cX11_evening 1 = .ok (.getfield 36, 3) := by decide +kernel
theorem dX11_evening_4 : decode cX11_evening 4 = .ok (.getfield 57, 3) := by decide +kernel
theorem dX11_evening_7 : decode cX11_evening 7 = .ok (.getfield 262, 3) := by decide +kernel
theorem dX11_evening_10 : decode cX11_evening 10 = .ok (.ifCond .ne 5, 3) := by decide +kernel
theorem dX11_evening_13 : decode cX11_evening 13 = .ok (.iconst (-1), 1) := by decide +kernel
theorem dX11_evening_14 : decode cX11_evening 14 = .ok (.ireturn, 1) := by decide +kernel
theorem dX11_evening_15 : decode cX11_evening 15 = .ok (.iconst 0, 1) := by decide +kernel
theorem dX11_evening_16 : decode cX11_evening 16 = .ok (.istore_n 1, 1) := by decide +kernel
theorem dX11_evening_17 : decode cX11_evening 17 = .ok (.iconst 0, 1) := by decide +kernel
theorem dX11_evening_18 : decode cX11_evening 18 = .ok (.istore_n 2, 1) := by decide +kernel
theorem dX11_evening_19 : decode cX11_evening 19 = .ok (.iload_n 2, 1) := by decide +kernel
theorem dX11_evening_20 : decode cX11_evening 20 = .ok (.aload_n 0, 1) := by decide +kernel
theorem dX11_evening_21 : decode cX11_evening 21 = .ok (.getfield 36, 3) := by decide +kernel
theorem dX11_evening_24 : decode cX11_evening 24 = .ok (.getfield 57, 3) := by decide +kernel
theorem dX11_evening_27 : decode cX11_evening 27 = .ok (.getfield 135, 3) := by decide +kernel
theorem dX11_evening_30 : decode cX11_evening 30 = .ok (.if_icmp .ge 17, 3) := by decide +kernel
theorem dX11_evening_33 : decode cX11_evening 33 = .ok (.iload_n 1, 1) := by decide +kernel
theorem dX11_evening_34 : decode cX11_evening 34 = .ok (.aload_n 0, 1) := by decide +kernel
theorem dX11_evening_35 : decode cX11_evening 35 = .ok (.iload_n 2, 1) := by decide +kernel
theorem dX11_evening_36 : decode cX11_evening 36 = .ok (.invokevirtual 352, 3) := by decide +kernel
theorem dX11_evening_39 : decode cX11_evening 39 = .ok (.iadd, 1) := by decide +kernel
theorem dX11_evening_40 : decode cX11_evening 40 = .ok (.istore_n 1, 1) := by decide +kernel
theorem dX11_evening_41 : decode cX11_evening 41 = .ok (.iinc 2 1, 3) := by decide +kernel
theorem dX11_evening_44 : decode cX11_evening 44 = .ok (.goto (-25), 3) := by decide +kernel
theorem dX11_evening_47 : decode cX11_evening 47 = .ok (.iload_n 1, 1) := by decide +kernel
theorem dX11_evening_48 : decode cX11_evening 48 = .ok (.ireturn, 1) := by decide +kernel
theorem dX11_eveningHarm_0 : decode cX11_eveningHarm 0 = .ok (.aload_n 0, 1) := by decide +kernel
theorem dX11_eveningHarm_1 : decode cX11_eveningHarm 1 = .ok (.getfield 36, 3) := by decide +kernel
theorem dX11_eveningHarm_4 : decode cX11_eveningHarm 4 = .ok (.getfield 57, 3) := by decide +kernel
theorem dX11_eveningHarm_7 : decode cX11_eveningHarm 7 = .ok (.aload_n 0, 1) := by decide +kernel
theorem dX11_eveningHarm_8 : decode cX11_eveningHarm 8 = .ok (.getfield 36, 3) := by decide +kernel
theorem dX11_eveningHarm_11 : decode cX11_eveningHarm 11 = .ok (.getfield 60, 3) := by decide +kernel
theorem dX11_eveningHarm_14 : decode cX11_eveningHarm 14 = .ok (.getfield 164, 3) := by decide +kernel
theorem dX11_eveningHarm_17 : decode cX11_eveningHarm 17 = .ok (.iload_n 1, 1) := by decide +kernel
theorem dX11_eveningHarm_18 : decode cX11_eveningHarm 18 = .ok (.bipush 8, 2) := by decide +kernel
theorem dX11_eveningHarm_20 : decode cX11_eveningHarm 20 = .ok (.imul, 1) := by decide +kernel
theorem dX11_eveningHarm_21 : decode cX11_eveningHarm 21 = .ok (.invokevirtual 170, 3) := by decide +kernel
theorem dX11_eveningHarm_24 : decode cX11_eveningHarm 24 = .ok (.istore_n 2, 1) := by decide +kernel
theorem dX11_eveningHarm_25 : decode cX11_eveningHarm 25 = .ok (.aload_n 0, 1) := by decide +kernel
theorem dX11_eveningHarm_26 : decode cX11_eveningHarm 26 = .ok (.getfield 36, 3) := by decide +kernel
theorem dX11_eveningHarm_29 : decode cX11_eveningHarm 29 = .ok (.getfield 60, 3) := by decide +kernel
theorem dX11_eveningHarm_32 : decode cX11_eveningHarm 32 = .ok (.getfield 167, 3) := by decide +kernel
theorem dX11_eveningHarm_35 : decode cX11_eveningHarm 35 = .ok (.iload_n 1, 1) := by decide +kernel
theorem dX11_eveningHarm_36 : decode cX11_eveningHarm 36 = .ok (.iaload, 1) := by decide +kernel
theorem dX11_eveningHarm_37 : decode cX11_eveningHarm 37 = .ok (.ifCond .gt 18, 3) := by decide +kernel
theorem dX11_eveningHarm_40 : decode cX11_eveningHarm 40 = .ok (.aload_n 0, 1) := by decide +kernel
theorem dX11_eveningHarm_41 : decode cX11_eveningHarm 41 = .ok (.getfield 36, 3) := by decide +kernel
theorem dX11_eveningHarm_44 : decode cX11_eveningHarm 44 = .ok (.getfield 57, 3) := by decide +kernel
theorem dX11_eveningHarm_47 : decode cX11_eveningHarm 47 = .ok (.getfield 177, 3) := by decide +kernel
theorem dX11_eveningHarm_50 : decode cX11_eveningHarm 50 = .ok (.iload_n 1, 1) := by decide +kernel
theorem dX11_eveningHarm_51 : decode cX11_eveningHarm 51 = .ok (.iaload, 1) := by decide +kernel
theorem dX11_eveningHarm_52 : decode cX11_eveningHarm 52 = .ok (.ifCond .ne 5, 3) := by decide +kernel
theorem dX11_eveningHarm_55 : decode cX11_eveningHarm 55 = .ok (.iload_n 2, 1) := by decide +kernel
theorem dX11_eveningHarm_56 : decode cX11_eveningHarm 56 = .ok (.ireturn, 1) := by decide +kernel
theorem dX11_eveningHarm_57 : decode cX11_eveningHarm 57 = .ok (.iconst (-1), 1) := by decide +kernel
theorem dX11_eveningHarm_58 : decode cX11_eveningHarm 58 = .ok (.istore_n 3, 1) := by decide +kernel
theorem dX11_eveningHarm_59 : decode cX11_eveningHarm 59 = .ok (.iconst 0, 1) := by decide +kernel
theorem dX11_eveningHarm_60 : decode cX11_eveningHarm 60 = .ok (.istore 4, 2) := by decide +kernel
theorem dX11_eveningHarm_62 : decode cX11_eveningHarm 62 = .ok (.iload 4, 2) := by decide +kernel
theorem dX11_eveningHarm_64 : decode cX11_eveningHarm 64 = .ok (.aload_n 0, 1) := by decide +kernel
theorem dX11_eveningHarm_65 : decode cX11_eveningHarm 65 = .ok (.getfield 36, 3) := by decide +kernel
theorem dX11_eveningHarm_68 : decode cX11_eveningHarm 68 = .ok (.getfield 57, 3) := by decide +kernel
theorem dX11_eveningHarm_71 : decode cX11_eveningHarm 71 = .ok (.getfield 135, 3) := by decide +kernel
theorem dX11_eveningHarm_74 : decode cX11_eveningHarm 74 = .ok (.if_icmp .ge 62, 3) := by decide +kernel
theorem dX11_eveningHarm_77 : decode cX11_eveningHarm 77 = .ok (.aload_n 0, 1) := by decide +kernel
theorem dX11_eveningHarm_78 : decode cX11_eveningHarm 78 = .ok (.getfield 36, 3) := by decide +kernel
theorem dX11_eveningHarm_81 : decode cX11_eveningHarm 81 = .ok (.getfield 57, 3) := by decide +kernel
theorem dX11_eveningHarm_84 : decode cX11_eveningHarm 84 = .ok (.iload 4, 2) := by decide +kernel
theorem dX11_eveningHarm_86 : decode cX11_eveningHarm 86 = .ok (.iload_n 1, 1) := by decide +kernel
theorem dX11_eveningHarm_87 : decode cX11_eveningHarm 87 = .ok (.invokevirtual 248, 3) := by decide +kernel
theorem dX11_eveningHarm_90 : decode cX11_eveningHarm 90 = .ok (.ifCond .eq 40, 3) := by decide +kernel
theorem dX11_eveningHarm_93 : decode cX11_eveningHarm 93 = .ok (.aload_n 0, 1) := by decide +kernel
theorem dX11_eveningHarm_94 : decode cX11_eveningHarm 94 = .ok (.iload 4, 2) := by decide +kernel
theorem dX11_eveningHarm_96 : decode cX11_eveningHarm 96 = .ok (.iload_n 1, 1) := by decide +kernel
theorem dX11_eveningHarm_97 : decode cX11_eveningHarm 97 = .ok (.invokevirtual 331, 3) := by decide +kernel
theorem dX11_eveningHarm_100 : decode cX11_eveningHarm 100 = .ok (.istore 5, 2) := by decide +kernel
theorem dX11_eveningHarm_102 : decode cX11_eveningHarm 102 = .ok (.aload_n 0, 1) := by decide +kernel
theorem dX11_eveningHarm_103 : decode cX11_eveningHarm 103 = .ok (.iload 4, 2) := by decide +kernel
theorem dX11_eveningHarm_105 : decode cX11_eveningHarm 105 = .ok (.iload_n 1, 1) := by decide +kernel
theorem dX11_eveningHarm_106 : decode cX11_eveningHarm 106 = .ok (.iload 5, 2) := by decide +kernel
theorem dX11_eveningHarm_108 : decode cX11_eveningHarm 108 = .ok (.invokevirtual 334, 3) := by decide +kernel
theorem dX11_eveningHarm_111 : decode cX11_eveningHarm 111 = .ok (.istore 6, 2) := by decide +kernel
theorem dX11_eveningHarm_113 : decode cX11_eveningHarm 113 = .ok (.iload_n 3, 1) := by decide +kernel
theorem dX11_eveningHarm_114 : decode cX11_eveningHarm 114 = .ok (.iconst (-1), 1) := by decide +kernel
theorem dX11_eveningHarm_115 : decode cX11_eveningHarm 115 = .ok (.if_icmp .ne 8, 3) := by decide +kernel
theorem dX11_eveningHarm_118 : decode cX11_eveningHarm 118 = .ok (.iload 6, 2) := by decide +kernel
theorem dX11_eveningHarm_120 : decode cX11_eveningHarm 120 = .ok (.goto 9, 3) := by decide +kernel
theorem dX11_eveningHarm_123 : decode cX11_eveningHarm 123 = .ok (.iload_n 3, 1) := by decide +kernel
theorem dX11_eveningHarm_124 : decode cX11_eveningHarm 124 = .ok (.iload 6, 2) := by decide +kernel
theorem dX11_eveningHarm_126 : decode cX11_eveningHarm 126 = .ok (.invokestatic 251, 3) := by decide +kernel
theorem dX11_eveningHarm_129 : decode cX11_eveningHarm 129 = .ok (.istore_n 3, 1) := by decide +kernel
theorem dX11_eveningHarm_130 : decode cX11_eveningHarm 130 = .ok (.iinc 4 1, 3) := by decide +kernel
theorem dX11_eveningHarm_133 : decode cX11_eveningHarm 133 = .ok (.goto (-71), 3) := by decide +kernel
theorem dX11_eveningHarm_136 : decode cX11_eveningHarm 136 = .ok (.iload_n 3, 1) := by decide +kernel
theorem dX11_eveningHarm_137 : decode cX11_eveningHarm 137 = .ok (.ireturn, 1) := by decide +kernel
theorem dX11_walls_0 : decode cX11_walls 0 = .ok (.aload_n 0, 1) := by decide +kernel
theorem dX11_walls_1 : decode cX11_walls 1 = .ok (.getfield 36, 3) := by decide +kernel
theorem dX11_walls_4 : decode cX11_walls 4 = .ok (.getfield 57, 3) := by decide +kernel
theorem dX11_walls_7 : decode cX11_walls 7 = .ok (.iload_n 1, 1) := by decide +kernel
theorem dX11_walls_8 : decode cX11_walls 8 = .ok (.iload_n 2, 1) := by decide +kernel
theorem dX11_walls_9 : decode cX11_walls 9 = .ok (.invokevirtual 187, 3) := by decide +kernel
theorem dX11_walls_12 : decode cX11_walls 12 = .ok (.ifCond .eq 10, 3) := by decide +kernel
theorem dX11_walls_15 : decode cX11_walls 15 = .ok (.iload_n 3, 1) := by decide +kernel
theorem dX11_walls_16 : decode cX11_walls 16 = .ok (.invokestatic 284, 3) := by decide +kernel
theorem dX11_walls_19 : decode cX11_walls 19 = .ok (.ifCond .ne 5, 3) := by decide +kernel
theorem dX11_walls_22 : decode cX11_walls 22 = .ok (.iconst (-1), 1) := by decide +kernel
theorem dX11_walls_23 : decode cX11_walls 23 = .ok (.ireturn, 1) := by decide +kernel
theorem dX11_walls_24 : decode cX11_walls 24 = .ok (.bipush 11, 2) := by decide +kernel
theorem dX11_walls_26 : decode cX11_walls 26 = .ok (.istore 4, 2) := by decide +kernel
theorem dX11_walls_28 : decode cX11_walls 28 = .ok (.iconst 0, 1) := by decide +kernel
theorem dX11_walls_29 : decode cX11_walls 29 = .ok (.istore 5, 2) := by decide +kernel
theorem dX11_walls_31 : decode cX11_walls 31 = .ok (.iconst 0, 1) := by decide +kernel
theorem dX11_walls_32 : decode cX11_walls 32 = .ok (.istore 6, 2) := by decide +kernel
theorem dX11_walls_34 : decode cX11_walls 34 = .ok (.iload 6, 2) := by decide +kernel
theorem dX11_walls_36 : decode cX11_walls 36 = .ok (.iconst 1, 1) := by decide +kernel
theorem dX11_walls_37 : decode cX11_walls 37 = .ok (.aload_n 0, 1) := by decide +kernel
theorem dX11_walls_38 : decode cX11_walls 38 = .ok (.getfield 36, 3) := by decide +kernel
theorem dX11_walls_41 : decode cX11_walls 41 = .ok (.getfield 57, 3) := by decide +kernel
theorem dX11_walls_44 : decode cX11_walls 44 = .ok (.getfield 200, 3) := by decide +kernel
theorem dX11_walls_47 : decode cX11_walls 47 = .ok (.ishl, 1) := by decide +kernel
theorem dX11_walls_48 : decode cX11_walls 48 = .ok (.if_icmp .ge 50, 3) := by decide +kernel
theorem dX11_walls_51 : decode cX11_walls 51 = .ok (.iload 6, 2) := by decide +kernel
theorem dX11_walls_53 : decode cX11_walls 53 = .ok (.invokestatic 323, 3) := by decide +kernel
theorem dX11_walls_56 : decode cX11_walls 56 = .ok (.istore 7, 2) := by decide +kernel
theorem dX11_walls_58 : decode cX11_walls 58 = .ok (.iload 7, 2) := by decide +kernel
theorem dX11_walls_60 : decode cX11_walls 60 = .ok (.iload 4, 2) := by decide +kernel
theorem dX11_walls_62 : decode cX11_walls 62 = .ok (.if_icmp .ge 30, 3) := by decide +kernel
theorem dX11_walls_65 : decode cX11_walls 65 = .ok (.aload_n 0, 1) := by decide +kernel
theorem dX11_walls_66 : decode cX11_walls 66 = .ok (.getfield 36, 3) := by decide +kernel
theorem dX11_walls_69 : decode cX11_walls 69 = .ok (.getfield 57, 3) := by decide +kernel
theorem dX11_walls_72 : decode cX11_walls 72 = .ok (.iload_n 1, 1) := by decide +kernel
theorem dX11_walls_73 : decode cX11_walls 73 = .ok (.iload_n 2, 1) := by decide +kernel
theorem dX11_walls_74 : decode cX11_walls 74 = .ok (.iload 6, 2) := by decide +kernel
theorem dX11_walls_76 : decode cX11_walls 76 = .ok (.invokevirtual 355, 3) := by decide +kernel
theorem dX11_walls_79 : decode cX11_walls 79 = .ok (.bipush (-2), 2) := by decide +kernel
theorem dX11_walls_81 : decode cX11_walls 81 = .ok (.if_icmp .ne 11, 3) := by decide +kernel
theorem dX11_walls_84 : decode cX11_walls 84 = .ok (.iload 7, 2) := by decide +kernel
theorem dX11_walls_86 : decode cX11_walls 86 = .ok (.istore 4, 2) := by decide +kernel
theorem dX11_walls_88 : decode cX11_walls 88 = .ok (.iload 6, 2) := by decide +kernel
theorem dX11_walls_90 : decode cX11_walls 90 = .ok (.istore 5, 2) := by decide +kernel
theorem dX11_walls_92 : decode cX11_walls 92 = .ok (.iinc 6 1, 3) := by decide +kernel
theorem dX11_walls_95 : decode cX11_walls 95 = .ok (.goto (-61), 3) := by decide +kernel
theorem dX11_walls_98 : decode cX11_walls 98 = .ok (.iload_n 3, 1) := by decide +kernel
theorem dX11_walls_99 : decode cX11_walls 99 = .ok (.ifCond .ne 8, 3) := by decide +kernel
theorem dX11_walls_102 : decode cX11_walls 102 = .ok (.iload 4, 2) := by decide +kernel
theorem dX11_walls_104 : decode cX11_walls 104 = .ok (.goto 5, 3) := by decide +kernel
theorem dX11_walls_107 : decode cX11_walls 107 = .ok (.iload 5, 2) := by decide +kernel
theorem dX11_walls_109 : decode cX11_walls 109 = .ok (.ireturn, 1) := by decide +kernel
theorem dX11_leak_0 : decode cX11_leak 0 = .ok (.aload_n 0, 1) := by decide +kernel
theorem dX11_leak_1 : decode cX11_leak 1 = .ok (.getfield 36, 3) := by decide +kernel
theorem dX11_leak_4 : decode cX11_leak 4 = .ok (.getfield 57, 3) := by decide +kernel
theorem dX11_leak_7 : decode cX11_leak 7 = .ok (.iload_n 1, 1) := by decide +kernel
theorem dX11_leak_8 : decode cX11_leak 8 = .ok (.invokevirtual 152, 3) := by decide +kernel
theorem dX11_leak_11 : decode cX11_leak 11 = .ok (.ifCond .eq 17, 3) := by decide +kernel
theorem dX11_leak_14 : decode cX11_leak 14 = .ok (.aload_n 0, 1) := by decide +kernel
theorem dX11_leak_15 : decode cX11_leak 15 = .ok (.getfield 36, 3) := by decide +kernel
theorem dX11_leak_18 : decode cX11_leak 18 = .ok (.getfield 57, 3) := by decide +kernel
theorem dX11_leak_21 : decode cX11_leak 21 = .ok (.iload_n 2, 1) := by decide +kernel
theorem dX11_leak_22 : decode cX11_leak 22 = .ok (.invokevirtual 152, 3) := by decide +kernel
theorem dX11_leak_25 : decode cX11_leak 25 = .ok (.ifCond .ne 5, 3) := by decide +kernel
theorem dX11_leak_28 : decode cX11_leak 28 = .ok (.iconst (-1), 1) := by decide +kernel
theorem dX11_leak_29 : decode cX11_leak 29 = .ok (.ireturn, 1) := by decide +kernel
theorem dX11_leak_30 : decode cX11_leak 30 = .ok (.aload_n 0, 1) := by decide +kernel
theorem dX11_leak_31 : decode cX11_leak 31 = .ok (.getfield 36, 3) := by decide +kernel
theorem dX11_leak_34 : decode cX11_leak 34 = .ok (.getfield 57, 3) := by decide +kernel
theorem dX11_leak_37 : decode cX11_leak 37 = .ok (.iload_n 1, 1) := by decide +kernel
theorem dX11_leak_38 : decode cX11_leak 38 = .ok (.iload_n 2, 1) := by decide +kernel
theorem dX11_leak_39 : decode cX11_leak 39 = .ok (.iconst 0, 1) := by decide +kernel
theorem dX11_leak_40 : decode cX11_leak 40 = .ok (.invokevirtual 355, 3) := by decide +kernel
theorem dX11_leak_43 : decode cX11_leak 43 = .ok (.ireturn, 1) := by decide +kernel
theorem dX11_stated_0 : decode cX11_stated 0 = .ok (.iload_n 1, 1) := by decide +kernel
theorem dX11_stated_1 : decode cX11_stated 1 = .ok (.iconst (-1), 1) := by decide +kernel
theorem dX11_stated_2 : decode cX11_stated 2 = .ok (.if_icmp .ne 13, 3) := by decide +kernel
theorem dX11_stated_5 : decode cX11_stated 5 = .ok (.aload_n 0, 1) := by decide +kernel
theorem dX11_stated_6 : decode cX11_stated 6 = .ok (.getfield 36, 3) := by decide +kernel
theorem dX11_stated_9 : decode cX11_stated 9 = .ok (.iconst 0, 1) := by decide +kernel
theorem dX11_stated_10 : decode cX11_stated 10 = .ok (.putfield 217, 3) := by decide +kernel
theorem dX11_stated_13 : decode cX11_stated 13 = .ok (.iconst 0, 1) := by decide +kernel
theorem dX11_stated_14 : decode cX11_stated 14 = .ok (.ireturn, 1) := by decide +kernel
theorem dX11_stated_15 : decode cX11_stated 15 = .ok (.aload_n 0, 1) := by decide +kernel
theorem dX11_stated_16 : decode cX11_stated 16 = .ok (.getfield 36, 3) := by decide +kernel
theorem dX11_stated_19 : decode cX11_stated 19 = .ok (.getfield 57, 3) := by decide +kernel
theorem dX11_stated_22 : decode cX11_stated 22 = .ok (.iload_n 1, 1) := by decide +kernel
theorem dX11_stated_23 : decode cX11_stated 23 = .ok (.invokevirtual 152, 3) := by decide +kernel
theorem dX11_stated_26 : decode cX11_stated 26 = .ok (.ifCond .eq 28, 3) := by decide +kernel
theorem dX11_stated_29 : decode cX11_stated 29 = .ok (.aload_n 0, 1) := by decide +kernel
theorem dX11_stated_30 : decode cX11_stated 30 = .ok (.getfield 36, 3) := by decide +kernel
theorem dX11_stated_33 : decode cX11_stated 33 = .ok (.getfield 57, 3) := by decide +kernel
theorem dX11_stated_36 : decode cX11_stated 36 = .ok (.iload_n 2, 1) := by decide +kernel
theorem dX11_stated_37 : decode cX11_stated 37 = .ok (.invokevirtual 155, 3) := by decide +kernel
theorem dX11_stated_40 : decode cX11_stated 40 = .ok (.ifCond .eq 14, 3) := by decide +kernel
theorem dX11_stated_43 : decode cX11_stated 43 = .ok (.iload_n 3, 1) := by decide +kernel
theorem dX11_stated_44 : decode cX11_stated 44 = .ok (.invokestatic 284, 3) := by decide +kernel
theorem dX11_stated_47 : decode cX11_stated 47 = .ok (.ifCond .eq 7, 3) := by decide +kernel
theorem dX11_stated_50 : decode cX11_stated 50 = .ok (.iconst 1, 1) := by decide +kernel
theorem dX11_stated_51 : decode cX11_stated 51 = .ok (.goto 4, 3) := by decide +kernel
theorem dX11_stated_54 : decode cX11_stated 54 = .ok (.iconst 0, 1) := by decide +kernel
theorem dX11_stated_55 : decode cX11_stated 55 = .ok (.istore 4, 2) := by decide +kernel
theorem dX11_stated_57 : decode cX11_stated 57 = .ok (.iload 4, 2) := by decide +kernel
theorem dX11_stated_59 : decode cX11_stated 59 = .ok (.ifCond .eq 15, 3) := by decide +kernel
theorem dX11_stated_62 : decode cX11_stated 62 = .ok (.aload_n 0, 1) := by decide +kernel
theorem dX11_stated_63 : decode cX11_stated 63 = .ok (.getfield 36, 3) := by decide +kernel
theorem dX11_stated_66 : decode cX11_stated 66 = .ok (.getfield 217, 3) := by decide +kernel
theorem dX11_stated_69 : decode cX11_stated 69 = .ok (.bipush 12, 2) := by decide +kernel
theorem dX11_stated_71 : decode cX11_stated 71 = .ok (.if_icmp .lt 6, 3) := by decide +kernel
theorem dX11_stated_74 : decode cX11_stated 74 = .ok (.bipush (-2), 2) := by decide +kernel
theorem dX11_stated_76 : decode cX11_stated 76 = .ok (.ireturn, 1) := by decide +kernel
theorem dX11_stated_77 : decode cX11_stated 77 = .ok (.aload_n 0, 1) := by decide +kernel
theorem dX11_stated_78 : decode cX11_stated 78 = .ok (.getfield 36, 3) := by decide +kernel
theorem dX11_stated_81 : decode cX11_stated 81 = .ok (.iload_n 1, 1) := by decide +kernel
theorem dX11_stated_82 : decode cX11_stated 82 = .ok (.iload_n 2, 1) := by decide +kernel
theorem dX11_stated_83 : decode cX11_stated 83 = .ok (.iload_n 3, 1) := by decide +kernel
theorem dX11_stated_84 : decode cX11_stated 84 = .ok (.invokevirtual 358, 3) := by decide +kernel
theorem dX11_stated_87 : decode cX11_stated 87 = .ok (.aload_n 0, 1) := by decide +kernel
theorem dX11_stated_88 : decode cX11_stated 88 = .ok (.getfield 36, 3) := by decide +kernel
theorem dX11_stated_91 : decode cX11_stated 91 = .ok (.getfield 217, 3) := by decide +kernel
theorem dX11_stated_94 : decode cX11_stated 94 = .ok (.ireturn, 1) := by decide +kernel
theorem dX11_truths_0 : decode cX11_truths 0 = .ok (.aload_n 0, 1) := by decide +kernel
theorem dX11_truths_1 : decode cX11_truths 1 = .ok (.getfield 36, 3) := by decide +kernel
theorem dX11_truths_4 : decode cX11_truths 4 = .ok (.getfield 57, 3) := by decide +kernel
theorem dX11_truths_7 : decode cX11_truths 7 = .ok (.getfield 262, 3) := by decide +kernel
theorem dX11_truths_10 : decode cX11_truths 10 = .ok (.ifCond .eq 12, 3) := by decide +kernel
theorem dX11_truths_13 : decode cX11_truths 13 = .ok (.iload_n 1, 1) := by decide +kernel
theorem dX11_truths_14 : decode cX11_truths 14 = .ok (.ifCond .lt 8, 3) := by decide +kernel
theorem dX11_truths_17 : decode cX11_truths 17 = .ok (.iload_n 1, 1) := by decide +kernel
theorem dX11_truths_18 : decode cX11_truths 18 = .ok (.iconst 4, 1) := by decide +kernel
theorem dX11_truths_19 : decode cX11_truths 19 = .ok (.if_icmp .le 5, 3) := by decide +kernel
theorem dX11_truths_22 : decode cX11_truths 22 = .ok (.iconst (-1), 1) := by decide +kernel
theorem dX11_truths_23 : decode cX11_truths 23 = .ok (.ireturn, 1) := by decide +kernel
theorem dX11_truths_24 : decode cX11_truths 24 = .ok (.aload_n 0, 1) := by decide +kernel
theorem dX11_truths_25 : decode cX11_truths 25 = .ok (.getfield 74, 3) := by decide +kernel
theorem dX11_truths_28 : decode cX11_truths 28 = .ok (.aload_n 0, 1) := by decide +kernel
theorem dX11_truths_29 : decode cX11_truths 29 = .ok (.getfield 36, 3) := by decide +kernel
theorem dX11_truths_32 : decode cX11_truths 32 = .ok (.invokevirtual 362, 3) := by decide +kernel
theorem dX11_truths_35 : decode cX11_truths 35 = .ok (.aload_n 0, 1) := by decide +kernel
theorem dX11_truths_36 : decode cX11_truths 36 = .ok (.getfield 74, 3) := by decide +kernel
theorem dX11_truths_39 : decode cX11_truths 39 = .ok (.getfield 366, 3) := by decide +kernel
theorem dX11_truths_42 : decode cX11_truths 42 = .ok (.ifCond .ne 5, 3) := by decide +kernel
theorem dX11_truths_45 : decode cX11_truths 45 = .ok (.iconst 0, 1) := by decide +kernel
theorem dX11_truths_46 : decode cX11_truths 46 = .ok (.ireturn, 1) := by decide +kernel
theorem dX11_truths_47 : decode cX11_truths 47 = .ok (.iload_n 1, 1) := by decide +kernel
theorem dX11_truths_48 : decode cX11_truths 48 = .ok (.tableswitch 64 0 3 #[32, 40, 48, 56], 32) := by decide +kernel
theorem dX11_truths_80 : decode cX11_truths 80 = .ok (.aload_n 0, 1) := by decide +kernel
theorem dX11_truths_81 : decode cX11_truths 81 = .ok (.getfield 74, 3) := by decide +kernel
theorem dX11_truths_84 : decode cX11_truths 84 = .ok (.getfield 366, 3) := by decide +kernel
theorem dX11_truths_87 : decode cX11_truths 87 = .ok (.ireturn, 1) := by decide +kernel
theorem dX11_truths_88 : decode cX11_truths 88 = .ok (.aload_n 0, 1) := by decide +kernel
theorem dX11_truths_89 : decode cX11_truths 89 = .ok (.getfield 74, 3) := by decide +kernel
theorem dX11_truths_92 : decode cX11_truths 92 = .ok (.getfield 369, 3) := by decide +kernel
theorem dX11_truths_95 : decode cX11_truths 95 = .ok (.ireturn, 1) := by decide +kernel
theorem dX11_truths_96 : decode cX11_truths 96 = .ok (.aload_n 0, 1) := by decide +kernel
theorem dX11_truths_97 : decode cX11_truths 97 = .ok (.getfield 74, 3) := by decide +kernel
theorem dX11_truths_100 : decode cX11_truths 100 = .ok (.getfield 372, 3) := by decide +kernel
theorem dX11_truths_103 : decode cX11_truths 103 = .ok (.ireturn, 1) := by decide +kernel
theorem dX11_truths_104 : decode cX11_truths 104 = .ok (.aload_n 0, 1) := by decide +kernel
theorem dX11_truths_105 : decode cX11_truths 105 = .ok (.getfield 74, 3) := by decide +kernel
theorem dX11_truths_108 : decode cX11_truths 108 = .ok (.getfield 375, 3) := by decide +kernel
theorem dX11_truths_111 : decode cX11_truths 111 = .ok (.ireturn, 1) := by decide +kernel
theorem dX11_truths_112 : decode cX11_truths 112 = .ok (.aload_n 0, 1) := by decide +kernel
theorem dX11_truths_113 : decode cX11_truths 113 = .ok (.getfield 74, 3) := by decide +kernel
theorem dX11_truths_116 : decode cX11_truths 116 = .ok (.getfield 378, 3) := by decide +kernel
theorem dX11_truths_119 : decode cX11_truths 119 = .ok (.ireturn, 1) := by decide +kernel
theorem dX11_ask_0 : decode cX11_ask 0 = .ok (.aload_n 0, 1) := by decide +kernel
theorem dX11_ask_1 : decode cX11_ask 1 = .ok (.getfield 36, 3) := by decide +kernel
theorem dX11_ask_4 : decode cX11_ask 4 = .ok (.getfield 57, 3) := by decide +kernel
theorem dX11_ask_7 : decode cX11_ask 7 = .ok (.getfield 262, 3) := by decide +kernel
theorem dX11_ask_10 : decode cX11_ask 10 = .ok (.ifCond .eq 10, 3) := by decide +kernel
theorem dX11_ask_13 : decode cX11_ask 13 = .ok (.iload_n 1, 1) := by decide +kernel
theorem dX11_ask_14 : decode cX11_ask 14 = .ok (.invokestatic 284, 3) := by decide +kernel
theorem dX11_ask_17 : decode cX11_ask 17 = .ok (.ifCond .ne 5, 3) := by decide +kernel
theorem dX11_ask_20 : decode cX11_ask 20 = .ok (.iconst (-1), 1) := by decide +kernel
theorem dX11_ask_21 : decode cX11_ask 21 = .ok (.ireturn, 1) := by decide +kernel
theorem dX11_ask_22 : decode cX11_ask 22 = .ok (.aload_n 0, 1) := by decide +kernel
theorem dX11_ask_23 : decode cX11_ask 23 = .ok (.getfield 74, 3) := by decide +kernel
theorem dX11_ask_26 : decode cX11_ask 26 = .ok (.aload_n 0, 1) := by decide +kernel
theorem dX11_ask_27 : decode cX11_ask 27 = .ok (.getfield 36, 3) := by decide +kernel
theorem dX11_ask_30 : decode cX11_ask 30 = .ok (.invokevirtual 362, 3) := by decide +kernel
theorem dX11_ask_33 : decode cX11_ask 33 = .ok (.aload_n 0, 1) := by decide +kernel
theorem dX11_ask_34 : decode cX11_ask 34 = .ok (.getfield 74, 3) := by decide +kernel
theorem dX11_ask_37 : decode cX11_ask 37 = .ok (.getfield 366, 3) := by decide +kernel
theorem dX11_ask_40 : decode cX11_ask 40 = .ok (.ifCond .ne 6, 3) := by decide +kernel
theorem dX11_ask_43 : decode cX11_ask 43 = .ok (.bipush (-2), 2) := by decide +kernel
theorem dX11_ask_45 : decode cX11_ask 45 = .ok (.ireturn, 1) := by decide +kernel
theorem dX11_ask_46 : decode cX11_ask 46 = .ok (.iconst 0, 1) := by decide +kernel
theorem dX11_ask_47 : decode cX11_ask 47 = .ok (.istore_n 2, 1) := by decide +kernel
theorem dX11_ask_48 : decode cX11_ask 48 = .ok (.iconst 1, 1) := by decide +kernel
theorem dX11_ask_49 : decode cX11_ask 49 = .ok (.istore_n 3, 1) := by decide +kernel
theorem dX11_ask_50 : decode cX11_ask 50 = .ok (.iload_n 3, 1) := by decide +kernel
theorem dX11_ask_51 : decode cX11_ask 51 = .ok (.aload_n 0, 1) := by decide +kernel
theorem dX11_ask_52 : decode cX11_ask 52 = .ok (.getfield 36, 3) := by decide +kernel
theorem dX11_ask_55 : decode cX11_ask 55 = .ok (.getfield 57, 3) := by decide +kernel
theorem dX11_ask_58 : decode cX11_ask 58 = .ok (.getfield 194, 3) := by decide +kernel
theorem dX11_ask_61 : decode cX11_ask 61 = .ok (.if_icmp .ge 30, 3) := by decide +kernel
theorem dX11_ask_64 : decode cX11_ask 64 = .ok (.aload_n 0, 1) := by decide +kernel
theorem dX11_ask_65 : decode cX11_ask 65 = .ok (.getfield 74, 3) := by decide +kernel
theorem dX11_ask_68 : decode cX11_ask 68 = .ok (.iload_n 3, 1) := by decide +kernel
theorem dX11_ask_69 : decode cX11_ask 69 = .ok (.invokevirtual 381, 3) := by decide +kernel
theorem dX11_ask_72 : decode cX11_ask 72 = .ok (.aload_n 0, 1) := by decide +kernel
theorem dX11_ask_73 : decode cX11_ask 73 = .ok (.getfield 74, 3) := by decide +kernel
theorem dX11_ask_76 : decode cX11_ask 76 = .ok (.iload_n 2, 1) := by decide +kernel
theorem dX11_ask_77 : decode cX11_ask 77 = .ok (.invokevirtual 381, 3) := by decide +kernel
theorem dX11_ask_80 : decode cX11_ask 80 = .ok (.if_icmp .ge 5, 3) := by decide +kernel
theorem dX11_ask_83 : decode cX11_ask 83 = .ok (.iload_n 3, 1) := by decide +kernel
theorem dX11_ask_84 : decode cX11_ask 84 = .ok (.istore_n 2, 1) := by decide +kernel
theorem dX11_ask_85 : decode cX11_ask 85 = .ok (.iinc 3 1, 3) := by decide +kernel
theorem dX11_ask_88 : decode cX11_ask 88 = .ok (.goto (-38), 3) := by decide +kernel
theorem dX11_ask_91 : decode cX11_ask 91 = .ok (.iload_n 1, 1) := by decide +kernel
theorem dX11_ask_92 : decode cX11_ask 92 = .ok (.ifCond .ne 7, 3) := by decide +kernel
theorem dX11_ask_95 : decode cX11_ask 95 = .ok (.iload_n 2, 1) := by decide +kernel
theorem dX11_ask_96 : decode cX11_ask 96 = .ok (.goto 11, 3) := by decide +kernel
theorem dX11_ask_99 : decode cX11_ask 99 = .ok (.aload_n 0, 1) := by decide +kernel
theorem dX11_ask_100 : decode cX11_ask 100 = .ok (.getfield 74, 3) := by decide +kernel
theorem dX11_ask_103 : decode cX11_ask 103 = .ok (.iload_n 2, 1) := by decide +kernel
theorem dX11_ask_104 : decode cX11_ask 104 = .ok (.invokevirtual 381, 3) := by decide +kernel
theorem dX11_ask_107 : decode cX11_ask 107 = .ok (.ireturn, 1) := by decide +kernel
theorem dX11_tale_0 : decode cX11_tale 0 = .ok (.iload_n 1, 1) := by decide +kernel
theorem dX11_tale_1 : decode cX11_tale 1 = .ok (.iconst (-1), 1) := by decide +kernel
theorem dX11_tale_2 : decode cX11_tale 2 = .ok (.if_icmp .ne 12, 3) := by decide +kernel
theorem dX11_tale_5 : decode cX11_tale 5 = .ok (.aload_n 0, 1) := by decide +kernel
theorem dX11_tale_6 : decode cX11_tale 6 = .ok (.getfield 36, 3) := by decide +kernel
theorem dX11_tale_9 : decode cX11_tale 9 = .ok (.invokevirtual 384, 3) := by decide +kernel
theorem dX11_tale_12 : decode cX11_tale 12 = .ok (.iconst 0, 1) := by decide +kernel
theorem dX11_tale_13 : decode cX11_tale 13 = .ok (.ireturn, 1) := by decide +kernel
theorem dX11_tale_14 : decode cX11_tale 14 = .ok (.iload_n 1, 1) := by decide +kernel
theorem dX11_tale_15 : decode cX11_tale 15 = .ok (.ifCond .lt 21, 3) := by decide +kernel
theorem dX11_tale_18 : decode cX11_tale 18 = .ok (.iload_n 1, 1) := by decide +kernel
theorem dX11_tale_19 : decode cX11_tale 19 = .ok (.bipush 10, 2) := by decide +kernel
theorem dX11_tale_21 : decode cX11_tale 21 = .ok (.if_icmp .ge 15, 3) := by decide +kernel
theorem dX11_tale_24 : decode cX11_tale 24 = .ok (.aload_n 0, 1) := by decide +kernel
theorem dX11_tale_25 : decode cX11_tale 25 = .ok (.getfield 36, 3) := by decide +kernel
theorem dX11_tale_28 : decode cX11_tale 28 = .ok (.getfield 220, 3) := by decide +kernel
theorem dX11_tale_31 : decode cX11_tale 31 = .ok (.bipush 10, 2) := by decide +kernel
theorem dX11_tale_33 : decode cX11_tale 33 = .ok (.if_icmp .lt 6, 3) := by decide +kernel
theorem dX11_tale_36 : decode cX11_tale 36 = .ok (.bipush (-2), 2) := by decide +kernel
theorem dX11_tale_38 : decode cX11_tale 38 = .ok (.ireturn, 1) := by decide +kernel
theorem dX11_tale_39 : decode cX11_tale 39 = .ok (.aload_n 0, 1) := by decide +kernel
theorem dX11_tale_40 : decode cX11_tale 40 = .ok (.getfield 36, 3) := by decide +kernel
theorem dX11_tale_43 : decode cX11_tale 43 = .ok (.iload_n 1, 1) := by decide +kernel
theorem dX11_tale_44 : decode cX11_tale 44 = .ok (.iload_n 2, 1) := by decide +kernel
theorem dX11_tale_45 : decode cX11_tale 45 = .ok (.invokevirtual 387, 3) := by decide +kernel
theorem dX11_tale_48 : decode cX11_tale 48 = .ok (.aload_n 0, 1) := by decide +kernel
theorem dX11_tale_49 : decode cX11_tale 49 = .ok (.getfield 36, 3) := by decide +kernel
theorem dX11_tale_52 : decode cX11_tale 52 = .ok (.getfield 220, 3) := by decide +kernel
theorem dX11_tale_55 : decode cX11_tale 55 = .ok (.ireturn, 1) := by decide +kernel
theorem dX11_schedules_0 : decode cX11_schedules 0 = .ok (.iload_n 1, 1) := by decide +kernel
theorem dX11_schedules_1 : decode cX11_schedules 1 = .ok (.iconst 1, 1) := by decide +kernel
theorem dX11_schedules_2 : decode cX11_schedules 2 = .ok (.if_icmp .lt 25, 3) := by decide +kernel
theorem dX11_schedules_5 : decode cX11_schedules 5 = .ok (.iload_n 1, 1) := by decide +kernel
theorem dX11_schedules_6 : decode cX11_schedules 6 = .ok (.bipush 10, 2) := by decide +kernel
theorem dX11_schedules_8 : decode cX11_schedules 8 = .ok (.if_icmp .gt 19, 3) := by decide +kernel
theorem dX11_schedules_11 : decode cX11_schedules 11 = .ok (.iload_n 2, 1) := by decide +kernel
theorem dX11_schedules_12 : decode cX11_schedules 12 = .ok (.ifCond .lt 15, 3) := by decide +kernel
theorem dX11_schedules_15 : decode cX11_schedules 15 = .ok (.iload_n 2, 1) := by decide +kernel
theorem dX11_schedules_16 : decode cX11_schedules 16 = .ok (.iload_n 1, 1) := by decide +kernel
theorem dX11_schedules_17 : decode cX11_schedules 17 = .ok (.if_icmp .gt 10, 3) := by decide +kernel
theorem dX11_schedules_20 : decode cX11_schedules 20 = .ok (.iload_n 3, 1) := by decide +kernel
theorem dX11_schedules_21 : decode cX11_schedules 21 = .ok (.invokestatic 284, 3) := by decide +kernel
theorem dX11_schedules_24 : decode cX11_schedules 24 = .ok (.ifCond .ne 5, 3) := by decide +kernel
theorem dX11_schedules_27 : decode cX11_schedules 27 = .ok (.iconst (-1), 1) := by decide +kernel
theorem dX11_schedules_28 : decode cX11_schedules 28 = .ok (.ireturn, 1) := by decide +kernel
theorem dX11_schedules_29 : decode cX11_schedules 29 = .ok (.iconst 1, 1) := by decide +kernel
theorem dX11_schedules_30 : decode cX11_schedules 30 = .ok (.iload_n 1, 1) := by decide +kernel
theorem dX11_schedules_31 : decode cX11_schedules 31 = .ok (.ishl, 1) := by decide +kernel
theorem dX11_schedules_32 : decode cX11_schedules 32 = .ok (.iconst 1, 1) := by decide +kernel
theorem dX11_schedules_33 : decode cX11_schedules 33 = .ok (.isub, 1) := by decide +kernel
theorem dX11_schedules_34 : decode cX11_schedules 34 = .ok (.istore 4, 2) := by decide +kernel
theorem dX11_schedules_36 : decode cX11_schedules 36 = .ok (.iconst 0, 1) := by decide +kernel
theorem dX11_schedules_37 : decode cX11_schedules 37 = .ok (.istore 5, 2) := by decide +kernel
theorem dX11_schedules_39 : decode cX11_schedules 39 = .ok (.iload 4, 2) := by decide +kernel
theorem dX11_schedules_41 : decode cX11_schedules 41 = .ok (.istore 6, 2) := by decide +kernel
theorem dX11_schedules_43 : decode cX11_schedules 43 = .ok (.iconst 0, 1) := by decide +kernel
theorem dX11_schedules_44 : decode cX11_schedules 44 = .ok (.istore 7, 2) := by decide +kernel
theorem dX11_schedules_46 : decode cX11_schedules 46 = .ok (.iload 7, 2) := by decide +kernel
theorem dX11_schedules_48 : decode cX11_schedules 48 = .ok (.iload 4, 2) := by decide +kernel
theorem dX11_schedules_50 : decode cX11_schedules 50 = .ok (.if_icmp .gt 42, 3) := by decide +kernel
theorem dX11_schedules_53 : decode cX11_schedules 53 = .ok (.iload 7, 2) := by decide +kernel
theorem dX11_schedules_55 : decode cX11_schedules 55 = .ok (.invokestatic 323, 3) := by decide +kernel
theorem dX11_schedules_58 : decode cX11_schedules 58 = .ok (.iload_n 2, 1) := by decide +kernel
theorem dX11_schedules_59 : decode cX11_schedules 59 = .ok (.if_icmp .ne 27, 3) := by decide +kernel
theorem dX11_schedules_62 : decode cX11_schedules 62 = .ok (.aload_n 0, 1) := by decide +kernel
theorem dX11_schedules_63 : decode cX11_schedules 63 = .ok (.getfield 36, 3) := by decide +kernel
theorem dX11_schedules_66 : decode cX11_schedules 66 = .ok (.iload 7, 2) := by decide +kernel
theorem dX11_schedules_68 : decode cX11_schedules 68 = .ok (.iload 4, 2) := by decide +kernel
theorem dX11_schedules_70 : decode cX11_schedules 70 = .ok (.invokevirtual 391, 3) := by decide +kernel
theorem dX11_schedules_73 : decode cX11_schedules 73 = .ok (.ifCond .eq 13, 3) := by decide +kernel
theorem dX11_schedules_76 : decode cX11_schedules 76 = .ok (.iinc 5 1, 3) := by decide +kernel
theorem dX11_schedules_79 : decode cX11_schedules 79 = .ok (.iload 6, 2) := by decide +kernel
theorem dX11_schedules_81 : decode cX11_schedules 81 = .ok (.iload 7, 2) := by decide +kernel
theorem dX11_schedules_83 : decode cX11_schedules 83 = .ok (.iand, 1) := by decide +kernel
theorem dX11_schedules_84 : decode cX11_schedules 84 = .ok (.istore 6, 2) := by decide +kernel
theorem dX11_schedules_86 : decode cX11_schedules 86 = .ok (.iinc 7 1, 3) := by decide +kernel
theorem dX11_schedules_89 : decode cX11_schedules 89 = .ok (.goto (-43), 3) := by decide +kernel
theorem dX11_schedules_92 : decode cX11_schedules 92 = .ok (.iload 5, 2) := by decide +kernel
theorem dX11_schedules_94 : decode cX11_schedules 94 = .ok (.ifCond .ne 5, 3) := by decide +kernel
theorem dX11_schedules_97 : decode cX11_schedules 97 = .ok (.iconst 0, 1) := by decide +kernel
theorem dX11_schedules_98 : decode cX11_schedules 98 = .ok (.ireturn, 1) := by decide +kernel
theorem dX11_schedules_99 : decode cX11_schedules 99 = .ok (.iload_n 3, 1) := by decide +kernel
theorem dX11_schedules_100 : decode cX11_schedules 100 = .ok (.ifCond .ne 8, 3) := by decide +kernel
theorem dX11_schedules_103 : decode cX11_schedules 103 = .ok (.iload 5, 2) := by decide +kernel
theorem dX11_schedules_105 : decode cX11_schedules 105 = .ok (.goto 5, 3) := by decide +kernel
theorem dX11_schedules_108 : decode cX11_schedules 108 = .ok (.iload 6, 2) := by decide +kernel
theorem dX11_schedules_110 : decode cX11_schedules 110 = .ok (.ireturn, 1) := by decide +kernel
theorem dX11_seed_0 : decode cX11_seed 0 = .ok (.iload_n 1, 1) := by decide +kernel
theorem dX11_seed_1 : decode cX11_seed 1 = .ok (.ifCond .ge 5, 3) := by decide +kernel
theorem dX11_seed_4 : decode cX11_seed 4 = .ok (.iconst (-1), 1) := by decide +kernel
theorem dX11_seed_5 : decode cX11_seed 5 = .ok (.ireturn, 1) := by decide +kernel
theorem dX11_seed_6 : decode cX11_seed 6 = .ok (.aload_n 0, 1) := by decide +kernel
theorem dX11_seed_7 : decode cX11_seed 7 = .ok (.getfield 36, 3) := by decide +kernel
theorem dX11_seed_10 : decode cX11_seed 10 = .ok (.getfield 226, 3) := by decide +kernel
theorem dX11_seed_13 : decode cX11_seed 13 = .ok (.istore_n 2, 1) := by decide +kernel
theorem dX11_seed_14 : decode cX11_seed 14 = .ok (.aload_n 0, 1) := by decide +kernel
theorem dX11_seed_15 : decode cX11_seed 15 = .ok (.getfield 36, 3) := by decide +kernel
theorem dX11_seed_18 : decode cX11_seed 18 = .ok (.iload_n 1, 1) := by decide +kernel
theorem dX11_seed_19 : decode cX11_seed 19 = .ok (.putfield 226, 3) := by decide +kernel
theorem dX11_seed_22 : decode cX11_seed 22 = .ok (.iload_n 2, 1) := by decide +kernel
theorem dX11_seed_23 : decode cX11_seed 23 = .ok (.ireturn, 1) := by decide +kernel
theorem dX11_years_0 : decode cX11_years 0 = .ok (.iload_n 1, 1) := by decide +kernel
theorem dX11_years_1 : decode cX11_years 1 = .ok (.iconst 1, 1) := by decide +kernel
theorem dX11_years_2 : decode cX11_years 2 = .ok (.if_icmp .lt 33, 3) := by decide +kernel
theorem dX11_years_5 : decode cX11_years 5 = .ok (.iload_n 1, 1) := by decide +kernel
theorem dX11_years_6 : decode cX11_years 6 = .ok (.bipush 10, 2) := by decide +kernel
theorem dX11_years_8 : decode cX11_years 8 = .ok (.if_icmp .gt 27, 3) := by decide +kernel
theorem dX11_years_11 : decode cX11_years 11 = .ok (.iload_n 2, 1) := by decide +kernel
theorem dX11_years_12 : decode cX11_years 12 = .ok (.iconst 1, 1) := by decide +kernel
theorem dX11_years_13 : decode cX11_years 13 = .ok (.if_icmp .lt 22, 3) := by decide +kernel
theorem dX11_years_16 : decode cX11_years 16 = .ok (.iload_n 2, 1) := by decide +kernel
theorem dX11_years_17 : decode cX11_years 17 = .ok (.bipush 20, 2) := by decide +kernel
theorem dX11_years_19 : decode cX11_years 19 = .ok (.if_icmp .gt 16, 3) := by decide +kernel
theorem dX11_years_22 : decode cX11_years 22 = .ok (.iload_n 3, 1) := by decide +kernel
theorem dX11_years_23 : decode cX11_years 23 = .ok (.ifCond .lt 12, 3) := by decide +kernel
theorem dX11_years_26 : decode cX11_years 26 = .ok (.iload_n 3, 1) := by decide +kernel
theorem dX11_years_27 : decode cX11_years 27 = .ok (.iconst 2, 1) := by decide +kernel
theorem dX11_years_28 : decode cX11_years 28 = .ok (.if_icmp .gt 7, 3) := by decide +kernel
theorem dX11_years_31 : decode cX11_years 31 = .ok (.iconst 1, 1) := by decide +kernel
theorem dX11_years_32 : decode cX11_years 32 = .ok (.goto 4, 3) := by decide +kernel
theorem dX11_years_35 : decode cX11_years 35 = .ok (.iconst 0, 1) := by decide +kernel
theorem dX11_years_36 : decode cX11_years 36 = .ok (.istore 4, 2) := by decide +kernel
theorem dX11_years_38 : decode cX11_years 38 = .ok (.aload_n 0, 1) := by decide +kernel
theorem dX11_years_39 : decode cX11_years 39 = .ok (.getfield 36, 3) := by decide +kernel
theorem dX11_years_42 : decode cX11_years 42 = .ok (.getfield 57, 3) := by decide +kernel
theorem dX11_years_45 : decode cX11_years 45 = .ok (.getfield 262, 3) := by decide +kernel
theorem dX11_years_48 : decode cX11_years 48 = .ok (.ifCond .eq 8, 3) := by decide +kernel
theorem dX11_years_51 : decode cX11_years 51 = .ok (.iload 4, 2) := by decide +kernel
theorem dX11_years_53 : decode cX11_years 53 = .ok (.ifCond .ne 5, 3) := by decide +kernel
theorem dX11_years_56 : decode cX11_years 56 = .ok (.iconst (-1), 1) := by decide +kernel
theorem dX11_years_57 : decode cX11_years 57 = .ok (.ireturn, 1) := by decide +kernel
theorem dX11_years_58 : decode cX11_years 58 = .ok (.aload_n 0, 1) := by decide +kernel
theorem dX11_years_59 : decode cX11_years 59 = .ok (.aload_n 0, 1) := by decide +kernel
theorem dX11_years_60 : decode cX11_years 60 = .ok (.getfield 36, 3) := by decide +kernel
theorem dX11_years_63 : decode cX11_years 63 = .ok (.getfield 226, 3) := by decide +kernel
theorem dX11_years_66 : decode cX11_years 66 = .ok (.putfield 394, 3) := by decide +kernel
theorem dX11_years_69 : decode cX11_years 69 = .ok (.iconst 0, 1) := by decide +kernel
theorem dX11_years_70 : decode cX11_years 70 = .ok (.istore 5, 2) := by decide +kernel
theorem dX11_years_72 : decode cX11_years 72 = .ok (.iconst 0, 1) := by decide +kernel
theorem dX11_years_73 : decode cX11_years 73 = .ok (.istore 6, 2) := by decide +kernel
theorem dX11_years_75 : decode cX11_years 75 = .ok (.iload 6, 2) := by decide +kernel
theorem dX11_years_77 : decode cX11_years 77 = .ok (.iload_n 1, 1) := by decide +kernel
theorem dX11_years_78 : decode cX11_years 78 = .ok (.if_icmp .ge 76, 3) := by decide +kernel
theorem dX11_years_81 : decode cX11_years 81 = .ok (.aload_n 0, 1) := by decide +kernel
theorem dX11_years_82 : decode cX11_years 82 = .ok (.getfield 81, 3) := by decide +kernel
theorem dX11_years_85 : decode cX11_years 85 = .ok (.aload_n 0, 1) := by decide +kernel
theorem dX11_years_86 : decode cX11_years 86 = .ok (.getfield 36, 3) := by decide +kernel
theorem dX11_years_89 : decode cX11_years 89 = .ok (.getfield 60, 3) := by decide +kernel
theorem dX11_years_92 : decode cX11_years 92 = .ok (.invokevirtual 397, 3) := by decide +kernel
theorem dX11_years_95 : decode cX11_years 95 = .ok (.iconst 0, 1) := by decide +kernel
theorem dX11_years_96 : decode cX11_years 96 = .ok (.istore 7, 2) := by decide +kernel
theorem dX11_years_98 : decode cX11_years 98 = .ok (.iload 7, 2) := by decide +kernel
theorem dX11_years_100 : decode cX11_years 100 = .ok (.iload_n 2, 1) := by decide +kernel
theorem dX11_years_101 : decode cX11_years 101 = .ok (.if_icmp .ge 19, 3) := by decide +kernel
theorem dX11_years_104 : decode cX11_years 104 = .ok (.iload 5, 2) := by decide +kernel
theorem dX11_years_106 : decode cX11_years 106 = .ok (.aload_n 0, 1) := by decide +kernel
theorem dX11_years_107 : decode cX11_years 107 = .ok (.iload_n 3, 1) := by decide +kernel
theorem dX11_years_108 : decode cX11_years 108 = .ok (.invokevirtual 400, 3) := by decide +kernel
theorem dX11_years_111 : decode cX11_years 111 = .ok (.iadd, 1) := by decide +kernel
theorem dX11_years_112 : decode cX11_years 112 = .ok (.istore 5, 2) := by decide +kernel
theorem dX11_years_114 : decode cX11_years 114 = .ok (.iinc 7 1, 3) := by decide +kernel
theorem dX11_years_117 : decode cX11_years 117 = .ok (.goto (-19), 3) := by decide +kernel
theorem dX11_years_120 : decode cX11_years 120 = .ok (.iload 5, 2) := by decide +kernel
theorem dX11_years_122 : decode cX11_years 122 = .ok (.iload_n 3, 1) := by decide +kernel
theorem dX11_years_123 : decode cX11_years 123 = .ok (.iconst 2, 1) := by decide +kernel
theorem dX11_years_124 : decode cX11_years 124 = .ok (.if_icmp .ne 20, 3) := by decide +kernel
theorem dX11_years_127 : decode cX11_years 127 = .ok (.aload_n 0, 1) := by decide +kernel
theorem dX11_years_128 : decode cX11_years 128 = .ok (.getfield 81, 3) := by decide +kernel
theorem dX11_years_131 : decode cX11_years 131 = .ok (.aload_n 0, 1) := by decide +kernel
theorem dX11_years_132 : decode cX11_years 132 = .ok (.getfield 36, 3) := by decide +kernel
theorem dX11_years_135 : decode cX11_years 135 = .ok (.getfield 57, 3) := by decide +kernel
theorem dX11_years_138 : decode cX11_years 138 = .ok (.invokevirtual 213, 3) := by decide +kernel
theorem dX11_years_141 : decode cX11_years 141 = .ok (.goto 4, 3) := by decide +kernel
theorem dX11_years_144 : decode cX11_years 144 = .ok (.iconst 0, 1) := by decide +kernel
theorem dX11_years_145 : decode cX11_years 145 = .ok (.iadd, 1) := by decide +kernel
theorem dX11_years_146 : decode cX11_years 146 = .ok (.istore 5, 2) := by decide +kernel
theorem dX11_years_148 : decode cX11_years 148 = .ok (.iinc 6 1, 3) := by decide +kernel
theorem dX11_years_151 : decode cX11_years 151 = .ok (.goto (-76), 3) := by decide +kernel
theorem dX11_years_154 : decode cX11_years 154 = .ok (.iload 5, 2) := by decide +kernel
theorem dX11_years_156 : decode cX11_years 156 = .ok (.ireturn, 1) := by decide +kernel
theorem dX11_tryDay_0 : decode cX11_tryDay 0 = .ok (.aload_n 0, 1) := by decide +kernel
theorem dX11_tryDay_1 : decode cX11_tryDay 1 = .ok (.getfield 81, 3) := by decide +kernel
theorem dX11_tryDay_4 : decode cX11_tryDay 4 = .ok (.aload_n 0, 1) := by decide +kernel
theorem dX11_tryDay_5 : decode cX11_tryDay 5 = .ok (.getfield 36, 3) := by decide +kernel
theorem dX11_tryDay_8 : decode cX11_tryDay 8 = .ok (.getfield 57, 3) := by decide +kernel
theorem dX11_tryDay_11 : decode cX11_tryDay 11 = .ok (.invokevirtual 266, 3) := by decide +kernel
theorem dX11_tryDay_14 : decode cX11_tryDay 14 = .ok (.aload_n 0, 1) := by decide +kernel
theorem dX11_tryDay_15 : decode cX11_tryDay 15 = .ok (.getfield 36, 3) := by decide +kernel
theorem dX11_tryDay_18 : decode cX11_tryDay 18 = .ok (.getfield 57, 3) := by decide +kernel
theorem dX11_tryDay_21 : decode cX11_tryDay 21 = .ok (.getfield 200, 3) := by decide +kernel
theorem dX11_tryDay_24 : decode cX11_tryDay 24 = .ok (.istore_n 2, 1) := by decide +kernel
theorem dX11_tryDay_25 : decode cX11_tryDay 25 = .ok (.aload_n 0, 1) := by decide +kernel
theorem dX11_tryDay_26 : decode cX11_tryDay 26 = .ok (.getfield 36, 3) := by decide +kernel
theorem dX11_tryDay_29 : decode cX11_tryDay 29 = .ok (.getfield 57, 3) := by decide +kernel
theorem dX11_tryDay_32 : decode cX11_tryDay 32 = .ok (.getfield 194, 3) := by decide +kernel
theorem dX11_tryDay_35 : decode cX11_tryDay 35 = .ok (.istore_n 3, 1) := by decide +kernel
theorem dX11_tryDay_36 : decode cX11_tryDay 36 = .ok (.iload_n 2, 1) := by decide +kernel
theorem dX11_tryDay_37 : decode cX11_tryDay 37 = .ok (.ifCond .le 12, 3) := by decide +kernel
theorem dX11_tryDay_40 : decode cX11_tryDay 40 = .ok (.iload_n 3, 1) := by decide +kernel
theorem dX11_tryDay_41 : decode cX11_tryDay 41 = .ok (.ifCond .le 8, 3) := by decide +kernel
theorem dX11_tryDay_44 : decode cX11_tryDay 44 = .ok (.bipush 12, 2) := by decide +kernel
theorem dX11_tryDay_46 : decode cX11_tryDay 46 = .ok (.goto 4, 3) := by decide +kernel
theorem dX11_tryDay_49 : decode cX11_tryDay 49 = .ok (.iconst 0, 1) := by decide +kernel
theorem dX11_tryDay_50 : decode cX11_tryDay 50 = .ok (.istore 4, 2) := by decide +kernel
theorem dX11_tryDay_52 : decode cX11_tryDay 52 = .ok (.iconst 0, 1) := by decide +kernel
theorem dX11_tryDay_53 : decode cX11_tryDay 53 = .ok (.istore 5, 2) := by decide +kernel
theorem dX11_tryDay_55 : decode cX11_tryDay 55 = .ok (.iload 5, 2) := by decide +kernel
theorem dX11_tryDay_57 : decode cX11_tryDay 57 = .ok (.iload 4, 2) := by decide +kernel
theorem dX11_tryDay_59 : decode cX11_tryDay 59 = .ok (.if_icmp .ge 161, 3) := by decide +kernel
theorem dX11_tryDay_62 : decode cX11_tryDay 62 = .ok (.aload_n 0, 1) := by decide +kernel
theorem dX11_tryDay_63 : decode cX11_tryDay 63 = .ok (.getfield 81, 3) := by decide +kernel
theorem dX11_tryDay_66 : decode cX11_tryDay 66 = .ok (.iload 5, 2) := by decide +kernel
theorem dX11_tryDay_68 : decode cX11_tryDay 68 = .ok (.putfield 206, 3) := by decide +kernel
theorem dX11_tryDay_71 : decode cX11_tryDay 71 = .ok (.aload_n 0, 1) := by decide +kernel
theorem dX11_tryDay_72 : decode cX11_tryDay 72 = .ok (.invokevirtual 403, 3) := by decide +kernel
theorem dX11_tryDay_75 : decode cX11_tryDay 75 = .ok (.iload_n 2, 1) := by decide +kernel
theorem dX11_tryDay_76 : decode cX11_tryDay 76 = .ok (.irem, 1) := by decide +kernel
theorem dX11_tryDay_77 : decode cX11_tryDay 77 = .ok (.istore 6, 2) := by decide +kernel
theorem dX11_tryDay_79 : decode cX11_tryDay 79 = .ok (.aload_n 0, 1) := by decide +kernel
theorem dX11_tryDay_80 : decode cX11_tryDay 80 = .ok (.invokevirtual 403, 3) := by decide +kernel
theorem dX11_tryDay_83 : decode cX11_tryDay 83 = .ok (.iconst 2, 1) := by decide +kernel
theorem dX11_tryDay_84 : decode cX11_tryDay 84 = .ok (.irem, 1) := by decide +kernel
theorem dX11_tryDay_85 : decode cX11_tryDay 85 = .ok (.ifCond .ne 7, 3) := by decide +kernel
theorem dX11_tryDay_88 : decode cX11_tryDay 88 = .ok (.iconst 1, 1) := by decide +kernel
theorem dX11_tryDay_89 : decode cX11_tryDay 89 = .ok (.goto 4, 3) := by decide +kernel
theorem dX11_tryDay_92 : decode cX11_tryDay 92 = .ok (.iconst 0, 1) := by decide +kernel
theorem dX11_tryDay_93 : decode cX11_tryDay 93 = .ok (.istore 7, 2) := by decide +kernel
theorem dX11_tryDay_95 : decode cX11_tryDay 95 = .ok (.aload_n 0, 1) := by decide +kernel
theorem dX11_tryDay_96 : decode cX11_tryDay 96 = .ok (.invokevirtual 403, 3) := by decide +kernel
theorem dX11_tryDay_99 : decode cX11_tryDay 99 = .ok (.iload_n 3, 1) := by decide +kernel
theorem dX11_tryDay_100 : decode cX11_tryDay 100 = .ok (.irem, 1) := by decide +kernel
theorem dX11_tryDay_101 : decode cX11_tryDay 101 = .ok (.istore 8, 2) := by decide +kernel
theorem dX11_tryDay_103 : decode cX11_tryDay 103 = .ok (.aload_n 0, 1) := by decide +kernel
theorem dX11_tryDay_104 : decode cX11_tryDay 104 = .ok (.invokevirtual 403, 3) := by decide +kernel
theorem dX11_tryDay_107 : decode cX11_tryDay 107 = .ok (.iconst 2, 1) := by decide +kernel
theorem dX11_tryDay_108 : decode cX11_tryDay 108 = .ok (.irem, 1) := by decide +kernel
theorem dX11_tryDay_109 : decode cX11_tryDay 109 = .ok (.istore 9, 2) := by decide +kernel
theorem dX11_tryDay_111 : decode cX11_tryDay 111 = .ok (.aload_n 0, 1) := by decide +kernel
theorem dX11_tryDay_112 : decode cX11_tryDay 112 = .ok (.getfield 36, 3) := by decide +kernel
theorem dX11_tryDay_115 : decode cX11_tryDay 115 = .ok (.getfield 57, 3) := by decide +kernel
theorem dX11_tryDay_118 : decode cX11_tryDay 118 = .ok (.getfield 406, 3) := by decide +kernel
theorem dX11_tryDay_121 : decode cX11_tryDay 121 = .ok (.iload 6, 2) := by decide +kernel
theorem dX11_tryDay_123 : decode cX11_tryDay 123 = .ok (.iaload, 1) := by decide +kernel
theorem dX11_tryDay_124 : decode cX11_tryDay 124 = .ok (.aload_n 0, 1) := by decide +kernel
theorem dX11_tryDay_125 : decode cX11_tryDay 125 = .ok (.getfield 36, 3) := by decide +kernel
theorem dX11_tryDay_128 : decode cX11_tryDay 128 = .ok (.getfield 57, 3) := by decide +kernel
theorem dX11_tryDay_131 : decode cX11_tryDay 131 = .ok (.getfield 409, 3) := by decide +kernel
theorem dX11_tryDay_134 : decode cX11_tryDay 134 = .ok (.iload 6, 2) := by decide +kernel
theorem dX11_tryDay_136 : decode cX11_tryDay 136 = .ok (.iaload, 1) := by decide +kernel
theorem dX11_tryDay_137 : decode cX11_tryDay 137 = .ok (.invokestatic 251, 3) := by decide +kernel
theorem dX11_tryDay_140 : decode cX11_tryDay 140 = .ok (.istore 10, 2) := by decide +kernel
theorem dX11_tryDay_142 : decode cX11_tryDay 142 = .ok (.aload_n 0, 1) := by decide +kernel
theorem dX11_tryDay_143 : decode cX11_tryDay 143 = .ok (.getfield 36, 3) := by decide +kernel
theorem dX11_tryDay_146 : decode cX11_tryDay 146 = .ok (.getfield 57, 3) := by decide +kernel
theorem dX11_tryDay_149 : decode cX11_tryDay 149 = .ok (.getfield 406, 3) := by decide +kernel
theorem dX11_tryDay_152 : decode cX11_tryDay 152 = .ok (.iload 6, 2) := by decide +kernel
theorem dX11_tryDay_154 : decode cX11_tryDay 154 = .ok (.iaload, 1) := by decide +kernel
theorem dX11_tryDay_155 : decode cX11_tryDay 155 = .ok (.aload_n 0, 1) := by decide +kernel
theorem dX11_tryDay_156 : decode cX11_tryDay 156 = .ok (.getfield 36, 3) := by decide +kernel
theorem dX11_tryDay_159 : decode cX11_tryDay 159 = .ok (.getfield 57, 3) := by decide +kernel
theorem dX11_tryDay_162 : decode cX11_tryDay 162 = .ok (.getfield 409, 3) := by decide +kernel
theorem dX11_tryDay_165 : decode cX11_tryDay 165 = .ok (.iload 6, 2) := by decide +kernel
theorem dX11_tryDay_167 : decode cX11_tryDay 167 = .ok (.iaload, 1) := by decide +kernel
theorem dX11_tryDay_168 : decode cX11_tryDay 168 = .ok (.invokestatic 256, 3) := by decide +kernel
theorem dX11_tryDay_171 : decode cX11_tryDay 171 = .ok (.istore 11, 2) := by decide +kernel
theorem dX11_tryDay_173 : decode cX11_tryDay 173 = .ok (.aload_n 0, 1) := by decide +kernel
theorem dX11_tryDay_174 : decode cX11_tryDay 174 = .ok (.aload_n 0, 1) := by decide +kernel
theorem dX11_tryDay_175 : decode cX11_tryDay 175 = .ok (.getfield 81, 3) := by decide +kernel
theorem dX11_tryDay_178 : decode cX11_tryDay 178 = .ok (.iload 7, 2) := by decide +kernel
theorem dX11_tryDay_180 : decode cX11_tryDay 180 = .ok (.ifCond .eq 8, 3) := by decide +kernel
theorem dX11_tryDay_183 : decode cX11_tryDay 183 = .ok (.iload 10, 2) := by decide +kernel
theorem dX11_tryDay_185 : decode cX11_tryDay 185 = .ok (.goto 5, 3) := by decide +kernel
theorem dX11_tryDay_188 : decode cX11_tryDay 188 = .ok (.iload 11, 2) := by decide +kernel
theorem dX11_tryDay_190 : decode cX11_tryDay 190 = .ok (.iload 7, 2) := by decide +kernel
theorem dX11_tryDay_192 : decode cX11_tryDay 192 = .ok (.ifCond .eq 8, 3) := by decide +kernel
theorem dX11_tryDay_195 : decode cX11_tryDay 195 = .ok (.iload 11, 2) := by decide +kernel
theorem dX11_tryDay_197 : decode cX11_tryDay 197 = .ok (.goto 5, 3) := by decide +kernel
theorem dX11_tryDay_200 : decode cX11_tryDay 200 = .ok (.iload 10, 2) := by decide +kernel
theorem dX11_tryDay_202 : decode cX11_tryDay 202 = .ok (.iload 8, 2) := by decide +kernel
theorem dX11_tryDay_204 : decode cX11_tryDay 204 = .ok (.iload 9, 2) := by decide +kernel
theorem dX11_tryDay_206 : decode cX11_tryDay 206 = .ok (.invokevirtual 237, 3) := by decide +kernel
theorem dX11_tryDay_209 : decode cX11_tryDay 209 = .ok (.aload_n 0, 1) := by decide +kernel
theorem dX11_tryDay_210 : decode cX11_tryDay 210 = .ok (.invokevirtual 241, 3) := by decide +kernel
theorem dX11_tryDay_213 : decode cX11_tryDay 213 = .ok (.pop, 1) := by decide +kernel
theorem dX11_tryDay_214 : decode cX11_tryDay 214 = .ok (.iinc 5 1, 3) := by decide +kernel
theorem dX11_tryDay_217 : decode cX11_tryDay 217 = .ok (.goto (-162), 3) := by decide +kernel
theorem dX11_tryDay_220 : decode cX11_tryDay 220 = .ok (.iload_n 1, 1) := by decide +kernel
theorem dX11_tryDay_221 : decode cX11_tryDay 221 = .ok (.lookupswitch 43 #[(0, 27), (1, 35)], 27) := by decide +kernel
theorem dX11_tryDay_248 : decode cX11_tryDay 248 = .ok (.aload_n 0, 1) := by decide +kernel
theorem dX11_tryDay_249 : decode cX11_tryDay 249 = .ok (.getfield 81, 3) := by decide +kernel
theorem dX11_tryDay_252 : decode cX11_tryDay 252 = .ok (.invokevirtual 209, 3) := by decide +kernel
theorem dX11_tryDay_255 : decode cX11_tryDay 255 = .ok (.ireturn, 1) := by decide +kernel
theorem dX11_tryDay_256 : decode cX11_tryDay 256 = .ok (.aload_n 0, 1) := by decide +kernel
theorem dX11_tryDay_257 : decode cX11_tryDay 257 = .ok (.getfield 81, 3) := by decide +kernel
theorem dX11_tryDay_260 : decode cX11_tryDay 260 = .ok (.invokevirtual 412, 3) := by decide +kernel
theorem dX11_tryDay_263 : decode cX11_tryDay 263 = .ok (.ireturn, 1) := by decide +kernel
theorem dX11_tryDay_264 : decode cX11_tryDay 264 = .ok (.iconst 0, 1) := by decide +kernel
theorem dX11_tryDay_265 : decode cX11_tryDay 265 = .ok (.ireturn, 1) := by decide +kernel
theorem dX11_draw_0 : decode cX11_draw 0 = .ok (.aload_n 0, 1) := by decide +kernel
theorem dX11_draw_1 : decode cX11_draw 1 = .ok (.aload_n 0, 1) := by decide +kernel
theorem dX11_draw_2 : decode cX11_draw 2 = .ok (.getfield 394, 3) := by decide +kernel
theorem dX11_draw_5 : decode cX11_draw 5 = .ok (.i2l, 1) := by decide +kernel
theorem dX11_draw_6 : decode cX11_draw 6 = .ok (.ldc2_w 415, 3) := by decide +kernel
theorem dX11_draw_9 : decode cX11_draw 9 = .ok (.lmul, 1) := by decide +kernel
theorem dX11_draw_10 : decode cX11_draw 10 = .ok (.ldc2_w 417, 3) := by decide +kernel
theorem dX11_draw_13 : decode cX11_draw 13 = .ok (.ladd, 1) := by decide +kernel
theorem dX11_draw_14 : decode cX11_draw 14 = .ok (.ldc2_w 419, 3) := by decide +kernel
theorem dX11_draw_17 : decode cX11_draw 17 = .ok (.lrem, 1) := by decide +kernel
theorem dX11_draw_18 : decode cX11_draw 18 = .ok (.l2i, 1) := by decide +kernel
theorem dX11_draw_19 : decode cX11_draw 19 = .ok (.putfield 394, 3) := by decide +kernel
theorem dX11_draw_22 : decode cX11_draw 22 = .ok (.aload_n 0, 1) := by decide +kernel
theorem dX11_draw_23 : decode cX11_draw 23 = .ok (.getfield 394, 3) := by decide +kernel
theorem dX11_draw_26 : decode cX11_draw 26 = .ok (.ldc_w 421, 3) := by decide +kernel
theorem dX11_draw_29 : decode cX11_draw 29 = .ok (.idiv, 1) := by decide +kernel
theorem dX11_draw_30 : decode cX11_draw 30 = .ok (.ireturn, 1) := by decide +kernel
theorem dX11_image_0 : decode cX11_image 0 = .ok (.iload_n 1, 1) := by decide +kernel
theorem dX11_image_1 : decode cX11_image 1 = .ok (.ifCond .lt 8, 3) := by decide +kernel
theorem dX11_image_4 : decode cX11_image 4 = .ok (.iload_n 1, 1) := by decide +kernel
theorem dX11_image_5 : decode cX11_image 5 = .ok (.iconst 4, 1) := by decide +kernel
theorem dX11_image_6 : decode cX11_image 6 = .ok (.if_icmp .lt 5, 3) := by decide +kernel
theorem dX11_image_9 : decode cX11_image 9 = .ok (.iconst (-1), 1) := by decide +kernel
theorem dX11_image_10 : decode cX11_image 10 = .ok (.ireturn, 1) := by decide +kernel
theorem dX11_image_11 : decode cX11_image 11 = .ok (.aload_n 0, 1) := by decide +kernel
theorem dX11_image_12 : decode cX11_image 12 = .ok (.getfield 40, 3) := by decide +kernel
theorem dX11_image_15 : decode cX11_image 15 = .ok (.iload_n 1, 1) := by decide +kernel
theorem dX11_image_16 : decode cX11_image 16 = .ok (.aaload, 1) := by decide +kernel
theorem dX11_image_17 : decode cX11_image 17 = .ok (.aload_n 0, 1) := by decide +kernel
theorem dX11_image_18 : decode cX11_image 18 = .ok (.getfield 36, 3) := by decide +kernel
theorem dX11_image_21 : decode cX11_image 21 = .ok (.invokevirtual 422, 3) := by decide +kernel
theorem dX11_image_24 : decode cX11_image 24 = .ok (.aload_n 0, 1) := by decide +kernel
theorem dX11_image_25 : decode cX11_image 25 = .ok (.getfield 44, 3) := by decide +kernel
theorem dX11_image_28 : decode cX11_image 28 = .ok (.iload_n 1, 1) := by decide +kernel
theorem dX11_image_29 : decode cX11_image 29 = .ok (.iconst 1, 1) := by decide +kernel
theorem dX11_image_30 : decode cX11_image 30 = .ok (.bastore, 1) := by decide +kernel
theorem dX11_image_31 : decode cX11_image 31 = .ok (.aload_n 0, 1) := by decide +kernel
theorem dX11_image_32 : decode cX11_image 32 = .ok (.getfield 36, 3) := by decide +kernel
theorem dX11_image_35 : decode cX11_image 35 = .ok (.getfield 60, 3) := by decide +kernel
theorem dX11_image_38 : decode cX11_image 38 = .ok (.getfield 203, 3) := by decide +kernel
theorem dX11_image_41 : decode cX11_image 41 = .ok (.ireturn, 1) := by decide +kernel
theorem dX11_back_0 : decode cX11_back 0 = .ok (.iload_n 1, 1) := by decide +kernel
theorem dX11_back_1 : decode cX11_back 1 = .ok (.ifCond .lt 17, 3) := by decide +kernel
theorem dX11_back_4 : decode cX11_back 4 = .ok (.iload_n 1, 1) := by decide +kernel
theorem dX11_back_5 : decode cX11_back 5 = .ok (.iconst 4, 1) := by decide +kernel
theorem dX11_back_6 : decode cX11_back 6 = .ok (.if_icmp .ge 12, 3) := by decide +kernel
theorem dX11_back_9 : decode cX11_back 9 = .ok (.aload_n 0, 1) := by decide +kernel
theorem dX11_back_10 : decode cX11_back 10 = .ok (.getfield 44, 3) := by decide +kernel
theorem dX11_back_13 : decode cX11_back 13 = .ok (.iload_n 1, 1) := by decide +kernel
theorem dX11_back_14 : decode cX11_back 14 = .ok (.baload, 1) := by decide +kernel
theorem dX11_back_15 : decode cX11_back 15 = .ok (.ifCond .ne 5, 3) := by decide +kernel
theorem dX11_back_18 : decode cX11_back 18 = .ok (.iconst (-1), 1) := by decide +kernel
theorem dX11_back_19 : decode cX11_back 19 = .ok (.ireturn, 1) := by decide +kernel
theorem dX11_back_20 : decode cX11_back 20 = .ok (.aload_n 0, 1) := by decide +kernel
theorem dX11_back_21 : decode cX11_back 21 = .ok (.getfield 36, 3) := by decide +kernel
theorem dX11_back_24 : decode cX11_back 24 = .ok (.aload_n 0, 1) := by decide +kernel
theorem dX11_back_25 : decode cX11_back 25 = .ok (.getfield 40, 3) := by decide +kernel
theorem dX11_back_28 : decode cX11_back 28 = .ok (.iload_n 1, 1) := by decide +kernel
theorem dX11_back_29 : decode cX11_back 29 = .ok (.aaload, 1) := by decide +kernel
theorem dX11_back_30 : decode cX11_back 30 = .ok (.invokevirtual 422, 3) := by decide +kernel
theorem dX11_back_33 : decode cX11_back 33 = .ok (.aload_n 0, 1) := by decide +kernel
theorem dX11_back_34 : decode cX11_back 34 = .ok (.getfield 51, 3) := by decide +kernel
theorem dX11_back_37 : decode cX11_back 37 = .ok (.invokevirtual 132, 3) := by decide +kernel
theorem dX11_back_40 : decode cX11_back 40 = .ok (.aload_n 0, 1) := by decide +kernel
theorem dX11_back_41 : decode cX11_back 41 = .ok (.getfield 36, 3) := by decide +kernel
theorem dX11_back_44 : decode cX11_back 44 = .ok (.getfield 60, 3) := by decide +kernel
theorem dX11_back_47 : decode cX11_back 47 = .ok (.getfield 203, 3) := by decide +kernel
theorem dX11_back_50 : decode cX11_back 50 = .ok (.ireturn, 1) := by decide +kernel
theorem dX11_bit_0 : decode cX11_bit 0 = .ok (.iload_n 0, 1) := by decide +kernel
theorem dX11_bit_1 : decode cX11_bit 1 = .ok (.iload_n 1, 1) := by decide +kernel
theorem dX11_bit_2 : decode cX11_bit 2 = .ok (.ishr, 1) := by decide +kernel
theorem dX11_bit_3 : decode cX11_bit 3 = .ok (.iconst 1, 1) := by decide +kernel
theorem dX11_bit_4 : decode cX11_bit 4 = .ok (.iand, 1) := by decide +kernel
theorem dX11_bit_5 : decode cX11_bit 5 = .ok (.ireturn, 1) := by decide +kernel
theorem dX11_isBit_0 : decode cX11_isBit 0 = .ok (.iload_n 0, 1) := by decide +kernel
theorem dX11_isBit_1 : decode cX11_isBit 1 = .ok (.ifCond .eq 8, 3) := by decide +kernel
theorem dX11_isBit_4 : decode cX11_isBit 4 = .ok (.iload_n 0, 1) := by decide +kernel
theorem dX11_isBit_5 : decode cX11_isBit 5 = .ok (.iconst 1, 1) := by decide +kernel
theorem dX11_isBit_6 : decode cX11_isBit 6 = .ok (.if_icmp .ne 7, 3) := by decide +kernel
theorem dX11_isBit_9 : decode cX11_isBit 9 = .ok (.iconst 1, 1) := by decide +kernel
theorem dX11_isBit_10 : decode cX11_isBit 10 = .ok (.goto 4, 3) := by decide +kernel
theorem dX11_isBit_13 : decode cX11_isBit 13 = .ok (.iconst 0, 1) := by decide +kernel
theorem dX11_isBit_14 : decode cX11_isBit 14 = .ok (.ireturn, 1) := by decide +kernel
theorem dJ6_bitCount_0f7a4_0 : decode cJ6_bitCount_0f7a4 0 = .ok (.iload_n 0, 1) := by decide +kernel
theorem dJ6_bitCount_0f7a4_1 : decode cJ6_bitCount_0f7a4 1 = .ok (.iload_n 0, 1) := by decide +kernel
theorem dJ6_bitCount_0f7a4_2 : decode cJ6_bitCount_0f7a4 2 = .ok (.iconst 1, 1) := by decide +kernel
theorem dJ6_bitCount_0f7a4_3 : decode cJ6_bitCount_0f7a4 3 = .ok (.iushr, 1) := by decide +kernel
theorem dJ6_bitCount_0f7a4_4 : decode cJ6_bitCount_0f7a4 4 = .ok (.ldc_w 265, 3) := by decide +kernel
theorem dJ6_bitCount_0f7a4_7 : decode cJ6_bitCount_0f7a4 7 = .ok (.iand, 1) := by decide +kernel
theorem dJ6_bitCount_0f7a4_8 : decode cJ6_bitCount_0f7a4 8 = .ok (.isub, 1) := by decide +kernel
theorem dJ6_bitCount_0f7a4_9 : decode cJ6_bitCount_0f7a4 9 = .ok (.istore_n 0, 1) := by decide +kernel
theorem dJ6_bitCount_0f7a4_10 : decode cJ6_bitCount_0f7a4 10 = .ok (.iload_n 0, 1) := by decide +kernel
theorem dJ6_bitCount_0f7a4_11 : decode cJ6_bitCount_0f7a4 11 = .ok (.ldc_w 266, 3) := by decide +kernel
theorem dJ6_bitCount_0f7a4_14 : decode cJ6_bitCount_0f7a4 14 = .ok (.iand, 1) := by decide +kernel
theorem dJ6_bitCount_0f7a4_15 : decode cJ6_bitCount_0f7a4 15 = .ok (.iload_n 0, 1) := by decide +kernel
theorem dJ6_bitCount_0f7a4_16 : decode cJ6_bitCount_0f7a4 16 = .ok (.iconst 2, 1) := by decide +kernel
theorem dJ6_bitCount_0f7a4_17 : decode cJ6_bitCount_0f7a4 17 = .ok (.iushr, 1) := by decide +kernel
theorem dJ6_bitCount_0f7a4_18 : decode cJ6_bitCount_0f7a4 18 = .ok (.ldc_w 266, 3) := by decide +kernel
theorem dJ6_bitCount_0f7a4_21 : decode cJ6_bitCount_0f7a4 21 = .ok (.iand, 1) := by decide +kernel
theorem dJ6_bitCount_0f7a4_22 : decode cJ6_bitCount_0f7a4 22 = .ok (.iadd, 1) := by decide +kernel
theorem dJ6_bitCount_0f7a4_23 : decode cJ6_bitCount_0f7a4 23 = .ok (.istore_n 0, 1) := by decide +kernel
theorem dJ6_bitCount_0f7a4_24 : decode cJ6_bitCount_0f7a4 24 = .ok (.iload_n 0, 1) := by decide +kernel
theorem dJ6_bitCount_0f7a4_25 : decode cJ6_bitCount_0f7a4 25 = .ok (.iload_n 0, 1) := by decide +kernel
theorem dJ6_bitCount_0f7a4_26 : decode cJ6_bitCount_0f7a4 26 = .ok (.iconst 4, 1) := by decide +kernel
theorem dJ6_bitCount_0f7a4_27 : decode cJ6_bitCount_0f7a4 27 = .ok (.iushr, 1) := by decide +kernel
theorem dJ6_bitCount_0f7a4_28 : decode cJ6_bitCount_0f7a4 28 = .ok (.iadd, 1) := by decide +kernel
theorem dJ6_bitCount_0f7a4_29 : decode cJ6_bitCount_0f7a4 29 = .ok (.ldc_w 267, 3) := by decide +kernel
theorem dJ6_bitCount_0f7a4_32 : decode cJ6_bitCount_0f7a4 32 = .ok (.iand, 1) := by decide +kernel
theorem dJ6_bitCount_0f7a4_33 : decode cJ6_bitCount_0f7a4 33 = .ok (.istore_n 0, 1) := by decide +kernel
theorem dJ6_bitCount_0f7a4_34 : decode cJ6_bitCount_0f7a4 34 = .ok (.iload_n 0, 1) := by decide +kernel
theorem dJ6_bitCount_0f7a4_35 : decode cJ6_bitCount_0f7a4 35 = .ok (.iload_n 0, 1) := by decide +kernel
theorem dJ6_bitCount_0f7a4_36 : decode cJ6_bitCount_0f7a4 36 = .ok (.bipush 8, 2) := by decide +kernel
theorem dJ6_bitCount_0f7a4_38 : decode cJ6_bitCount_0f7a4 38 = .ok (.iushr, 1) := by decide +kernel
theorem dJ6_bitCount_0f7a4_39 : decode cJ6_bitCount_0f7a4 39 = .ok (.iadd, 1) := by decide +kernel
theorem dJ6_bitCount_0f7a4_40 : decode cJ6_bitCount_0f7a4 40 = .ok (.istore_n 0, 1) := by decide +kernel
theorem dJ6_bitCount_0f7a4_41 : decode cJ6_bitCount_0f7a4 41 = .ok (.iload_n 0, 1) := by decide +kernel
theorem dJ6_bitCount_0f7a4_42 : decode cJ6_bitCount_0f7a4 42 = .ok (.iload_n 0, 1) := by decide +kernel
theorem dJ6_bitCount_0f7a4_43 : decode cJ6_bitCount_0f7a4 43 = .ok (.bipush 16, 2) := by decide +kernel
theorem dJ6_bitCount_0f7a4_45 : decode cJ6_bitCount_0f7a4 45 = .ok (.iushr, 1) := by decide +kernel
theorem dJ6_bitCount_0f7a4_46 : decode cJ6_bitCount_0f7a4 46 = .ok (.iadd, 1) := by decide +kernel
theorem dJ6_bitCount_0f7a4_47 : decode cJ6_bitCount_0f7a4 47 = .ok (.istore_n 0, 1) := by decide +kernel
theorem dJ6_bitCount_0f7a4_48 : decode cJ6_bitCount_0f7a4 48 = .ok (.iload_n 0, 1) := by decide +kernel
theorem dJ6_bitCount_0f7a4_49 : decode cJ6_bitCount_0f7a4 49 = .ok (.bipush 63, 2) := by decide +kernel
theorem dJ6_bitCount_0f7a4_51 : decode cJ6_bitCount_0f7a4 51 = .ok (.iand, 1) := by decide +kernel
theorem dJ6_bitCount_0f7a4_52 : decode cJ6_bitCount_0f7a4 52 = .ok (.ireturn, 1) := by decide +kernel
theorem dJ9_max_7cf53_0 : decode cJ9_max_7cf53 0 = .ok (.iload_n 0, 1) := by decide +kernel
theorem dJ9_max_7cf53_1 : decode cJ9_max_7cf53 1 = .ok (.iload_n 1, 1) := by decide +kernel
theorem dJ9_max_7cf53_2 : decode cJ9_max_7cf53 2 = .ok (.if_icmp .lt 7, 3) := by decide +kernel
theorem dJ9_max_7cf53_5 : decode cJ9_max_7cf53 5 = .ok (.iload_n 0, 1) := by decide +kernel
theorem dJ9_max_7cf53_6 : decode cJ9_max_7cf53 6 = .ok (.goto 4, 3) := by decide +kernel
theorem dJ9_max_7cf53_9 : decode cJ9_max_7cf53 9 = .ok (.iload_n 1, 1) := by decide +kernel
theorem dJ9_max_7cf53_10 : decode cJ9_max_7cf53 10 = .ok (.ireturn, 1) := by decide +kernel
theorem dJ9_min_7cf53_0 : decode cJ9_min_7cf53 0 = .ok (.iload_n 0, 1) := by decide +kernel
theorem dJ9_min_7cf53_1 : decode cJ9_min_7cf53 1 = .ok (.iload_n 1, 1) := by decide +kernel
theorem dJ9_min_7cf53_2 : decode cJ9_min_7cf53 2 = .ok (.if_icmp .gt 7, 3) := by decide +kernel
theorem dJ9_min_7cf53_5 : decode cJ9_min_7cf53 5 = .ok (.iload_n 0, 1) := by decide +kernel
theorem dJ9_min_7cf53_6 : decode cJ9_min_7cf53 6 = .ok (.goto 4, 3) := by decide +kernel
theorem dJ9_min_7cf53_9 : decode cJ9_min_7cf53 9 = .ok (.iload_n 1, 1) := by decide +kernel
theorem dJ9_min_7cf53_10 : decode cJ9_min_7cf53 10 = .ok (.ireturn, 1) := by decide +kernel
theorem dJ0_length_8abf5_0 : decode cJ0_length_8abf5 0 = .ok (.aload_n 0, 1) := by decide +kernel
theorem dJ0_length_8abf5_1 : decode cJ0_length_8abf5 1 = .ok (.getfield 9, 3) := by decide +kernel
theorem dJ0_length_8abf5_4 : decode cJ0_length_8abf5 4 = .ok (.arraylength, 1) := by decide +kernel
theorem dJ0_length_8abf5_5 : decode cJ0_length_8abf5 5 = .ok (.aload_n 0, 1) := by decide +kernel
theorem dJ0_length_8abf5_6 : decode cJ0_length_8abf5 6 = .ok (.invokevirtual 335, 3) := by decide +kernel
theorem dJ0_length_8abf5_9 : decode cJ0_length_8abf5 9 = .ok (.ishr, 1) := by decide +kernel
theorem dJ0_length_8abf5_10 : decode cJ0_length_8abf5 10 = .ok (.ireturn, 1) := by decide +kernel
theorem dJ0_charAt_5068e_0 : decode cJ0_charAt_5068e 0 = .ok (.aload_n 0, 1) := by decide +kernel
theorem dJ0_charAt_5068e_1 : decode cJ0_charAt_5068e 1 = .ok (.invokevirtual 492, 3) := by decide +kernel
theorem dJ0_charAt_5068e_4 : decode cJ0_charAt_5068e 4 = .ok (.ifCond .eq 12, 3) := by decide +kernel
theorem dJ0_charAt_5068e_7 : decode cJ0_charAt_5068e 7 = .ok (.aload_n 0, 1) := by decide +kernel
theorem dJ0_charAt_5068e_8 : decode cJ0_charAt_5068e 8 = .ok (.getfield 9, 3) := by decide +kernel
theorem dJ0_charAt_5068e_11 : decode cJ0_charAt_5068e 11 = .ok (.iload_n 1, 1) := by decide +kernel
theorem dJ0_charAt_5068e_12 : decode cJ0_charAt_5068e 12 = .ok (.invokestatic 495, 3) := by decide +kernel
theorem dJ0_charAt_5068e_15 : decode cJ0_charAt_5068e 15 = .ok (.ireturn, 1) := by decide +kernel
theorem dJ0_charAt_5068e_16 : decode cJ0_charAt_5068e 16 = .ok (.aload_n 0, 1) := by decide +kernel
theorem dJ0_charAt_5068e_17 : decode cJ0_charAt_5068e 17 = .ok (.getfield 9, 3) := by decide +kernel
theorem dJ0_charAt_5068e_20 : decode cJ0_charAt_5068e 20 = .ok (.iload_n 1, 1) := by decide +kernel
theorem dJ0_charAt_5068e_21 : decode cJ0_charAt_5068e 21 = .ok (.invokestatic 498, 3) := by decide +kernel
theorem dJ0_charAt_5068e_24 : decode cJ0_charAt_5068e 24 = .ok (.ireturn, 1) := by decide +kernel
theorem dJ0_coder_7d493_0 : decode cJ0_coder_7d493 0 = .ok (.getstatic 38, 3) := by decide +kernel
theorem dJ0_coder_7d493_3 : decode cJ0_coder_7d493 3 = .ok (.ifCond .eq 10, 3) := by decide +kernel
theorem dJ0_coder_7d493_6 : decode cJ0_coder_7d493 6 = .ok (.aload_n 0, 1) := by decide +kernel
theorem dJ0_coder_7d493_7 : decode cJ0_coder_7d493 7 = .ok (.getfield 15, 3) := by decide +kernel
theorem dJ0_coder_7d493_10 : decode cJ0_coder_7d493 10 = .ok (.goto 4, 3) := by decide +kernel
theorem dJ0_coder_7d493_13 : decode cJ0_coder_7d493 13 = .ok (.iconst 1, 1) := by decide +kernel
theorem dJ0_coder_7d493_14 : decode cJ0_coder_7d493 14 = .ok (.ireturn, 1) := by decide +kernel
theorem dJ0_isLatin1_aae02_0 : decode cJ0_isLatin1_aae02 0 = .ok (.getstatic 38, 3) := by decide +kernel
theorem dJ0_isLatin1_aae02_3 : decode cJ0_isLatin1_aae02 3 = .ok (.ifCond .eq 14, 3) := by decide +kernel
theorem dJ0_isLatin1_aae02_6 : decode cJ0_isLatin1_aae02 6 = .ok (.aload_n 0, 1) := by decide +kernel
theorem dJ0_isLatin1_aae02_7 : decode cJ0_isLatin1_aae02 7 = .ok (.getfield 15, 3) := by decide +kernel
theorem dJ0_isLatin1_aae02_10 : decode cJ0_isLatin1_aae02 10 = .ok (.ifCond .ne 7, 3) := by decide +kernel
theorem dJ0_isLatin1_aae02_13 : decode cJ0_isLatin1_aae02 13 = .ok (.iconst 1, 1) := by decide +kernel
theorem dJ0_isLatin1_aae02_14 : decode cJ0_isLatin1_aae02 14 = .ok (.goto 4, 3) := by decide +kernel
theorem dJ0_isLatin1_aae02_17 : decode cJ0_isLatin1_aae02 17 = .ok (.iconst 0, 1) := by decide +kernel
theorem dJ0_isLatin1_aae02_18 : decode cJ0_isLatin1_aae02 18 = .ok (.ireturn, 1) := by decide +kernel
theorem dJ0_checkIndex_df160_0 : decode cJ0_checkIndex_df160 0 = .ok (.iload_n 0, 1) := by decide +kernel
theorem dJ0_checkIndex_df160_1 : decode cJ0_checkIndex_df160 1 = .ok (.iload_n 1, 1) := by decide +kernel
theorem dJ0_checkIndex_df160_2 : decode cJ0_checkIndex_df160 2 = .ok (.getstatic 1053, 3) := by decide +kernel
theorem dJ0_checkIndex_df160_5 : decode cJ0_checkIndex_df160 5 = .ok (.invokestatic 1059, 3) := by decide +kernel
theorem dJ0_checkIndex_df160_8 : decode cJ0_checkIndex_df160 8 = .ok (.pop, 1) := by decide +kernel
theorem dJ0_checkIndex_df160_9 : decode cJ0_checkIndex_df160 9 = .ok (.return_, 1) := by decide +kernel
theorem dJ1_charAt_3b067_0 : decode cJ1_charAt_3b067 0 = .ok (.iload_n 1, 1) := by decide +kernel
theorem dJ1_charAt_3b067_1 : decode cJ1_charAt_3b067 1 = .ok (.aload_n 0, 1) := by decide +kernel
theorem dJ1_charAt_3b067_2 : decode cJ1_charAt_3b067 2 = .ok (.arraylength, 1) := by decide +kernel
theorem dJ1_charAt_3b067_3 : decode cJ1_charAt_3b067 3 = .ok (.invokestatic 9, 3) := by decide +kernel
theorem dJ1_charAt_3b067_6 : decode cJ1_charAt_3b067 6 = .ok (.aload_n 0, 1) := by decide +kernel
theorem dJ1_charAt_3b067_7 : decode cJ1_charAt_3b067 7 = .ok (.iload_n 1, 1) := by decide +kernel
theorem dJ1_charAt_3b067_8 : decode cJ1_charAt_3b067 8 = .ok (.baload, 1) := by decide +kernel
theorem dJ1_charAt_3b067_9 : decode cJ1_charAt_3b067 9 = .ok (.sipush 255, 3) := by decide +kernel
theorem dJ1_charAt_3b067_12 : decode cJ1_charAt_3b067 12 = .ok (.iand, 1) := by decide +kernel
theorem dJ1_charAt_3b067_13 : decode cJ1_charAt_3b067 13 = .ok (.i2c, 1) := by decide +kernel
theorem dJ1_charAt_3b067_14 : decode cJ1_charAt_3b067 14 = .ok (.ireturn, 1) := by decide +kernel
theorem dJ2_getChar_3b067_0 : decode cJ2_getChar_3b067 0 = .ok (.getstatic 44, 3) := by decide +kernel
theorem dJ2_getChar_3b067_3 : decode cJ2_getChar_3b067 3 = .ok (.ifCond .ne 25, 3) := by decide +kernel
theorem dJ2_getChar_3b067_6 : decode cJ2_getChar_3b067 6 = .ok (.iload_n 1, 1) := by decide +kernel
theorem dJ2_getChar_3b067_7 : decode cJ2_getChar_3b067 7 = .ok (.ifCond .lt 11, 3) := by decide +kernel
theorem dJ2_getChar_3b067_10 : decode cJ2_getChar_3b067 10 = .ok (.iload_n 1, 1) := by decide +kernel
theorem dJ2_getChar_3b067_11 : decode cJ2_getChar_3b067 11 = .ok (.aload_n 0, 1) := by decide +kernel
theorem dJ2_getChar_3b067_12 : decode cJ2_getChar_3b067 12 = .ok (.invokestatic 48, 3) := by decide +kernel
theorem dJ2_getChar_3b067_15 : decode cJ2_getChar_3b067 15 = .ok (.if_icmp .lt 13, 3) := by decide +kernel
theorem dJ2_getChar_3b067_18 : decode cJ2_getChar_3b067 18 = .ok (.new 52, 3) := by decide +kernel
theorem dJ2_getChar_3b067_21 : decode cJ2_getChar_3b067 21 = .ok (.dup, 1) := by decide +kernel
theorem dJ2_getChar_3b067_22 : decode cJ2_getChar_3b067 22 = .ok (.ldc 54, 2) := by decide +kernel
theorem dJ2_getChar_3b067_24 : decode cJ2_getChar_3b067 24 = .ok (.invokespecial 56, 3) := by decide +kernel
theorem dJ2_getChar_3b067_27 : decode cJ2_getChar_3b067 27 = .ok (.athrow, 1) := by decide +kernel
theorem dJ2_getChar_3b067_28 : decode cJ2_getChar_3b067 28 = .ok (.iload_n 1, 1) := by decide +kernel
theorem dJ2_getChar_3b067_29 : decode cJ2_getChar_3b067 29 = .ok (.iconst 1, 1) := by decide +kernel
theorem dJ2_getChar_3b067_30 : decode cJ2_getChar_3b067 30 = .ok (.ishl, 1) := by decide +kernel
theorem dJ2_getChar_3b067_31 : decode cJ2_getChar_3b067 31 = .ok (.istore_n 1, 1) := by decide +kernel
theorem dJ2_getChar_3b067_32 : decode cJ2_getChar_3b067 32 = .ok (.aload_n 0, 1) := by decide +kernel
theorem dJ2_getChar_3b067_33 : decode cJ2_getChar_3b067 33 = .ok (.iload_n 1, 1) := by decide +kernel
theorem dJ2_getChar_3b067_34 : decode cJ2_getChar_3b067 34 = .ok (.iinc 1 1, 3) := by decide +kernel
theorem dJ2_getChar_3b067_37 : decode cJ2_getChar_3b067 37 = .ok (.baload, 1) := by decide +kernel
theorem dJ2_getChar_3b067_38 : decode cJ2_getChar_3b067 38 = .ok (.sipush 255, 3) := by decide +kernel
theorem dJ2_getChar_3b067_41 : decode cJ2_getChar_3b067 41 = .ok (.iand, 1) := by decide +kernel
theorem dJ2_getChar_3b067_42 : decode cJ2_getChar_3b067 42 = .ok (.getstatic 59, 3) := by decide +kernel
theorem dJ2_getChar_3b067_45 : decode cJ2_getChar_3b067 45 = .ok (.ishl, 1) := by decide +kernel
theorem dJ2_getChar_3b067_46 : decode cJ2_getChar_3b067 46 = .ok (.aload_n 0, 1) := by decide +kernel
theorem dJ2_getChar_3b067_47 : decode cJ2_getChar_3b067 47 = .ok (.iload_n 1, 1) := by decide +kernel
theorem dJ2_getChar_3b067_48 : decode cJ2_getChar_3b067 48 = .ok (.baload, 1) := by decide +kernel
theorem dJ2_getChar_3b067_49 : decode cJ2_getChar_3b067 49 = .ok (.sipush 255, 3) := by decide +kernel
theorem dJ2_getChar_3b067_52 : decode cJ2_getChar_3b067 52 = .ok (.iand, 1) := by decide +kernel
theorem dJ2_getChar_3b067_53 : decode cJ2_getChar_3b067 53 = .ok (.getstatic 63, 3) := by decide +kernel
theorem dJ2_getChar_3b067_56 : decode cJ2_getChar_3b067 56 = .ok (.ishl, 1) := by decide +kernel
theorem dJ2_getChar_3b067_57 : decode cJ2_getChar_3b067 57 = .ok (.ior, 1) := by decide +kernel
theorem dJ2_getChar_3b067_58 : decode cJ2_getChar_3b067 58 = .ok (.i2c, 1) := by decide +kernel
theorem dJ2_getChar_3b067_59 : decode cJ2_getChar_3b067 59 = .ok (.ireturn, 1) := by decide +kernel
theorem dJ2_length_9d52b_0 : decode cJ2_length_9d52b 0 = .ok (.aload_n 0, 1) := by decide +kernel
theorem dJ2_length_9d52b_1 : decode cJ2_length_9d52b 1 = .ok (.arraylength, 1) := by decide +kernel
theorem dJ2_length_9d52b_2 : decode cJ2_length_9d52b 2 = .ok (.iconst 1, 1) := by decide +kernel
theorem dJ2_length_9d52b_3 : decode cJ2_length_9d52b 3 = .ok (.ishr, 1) := by decide +kernel
theorem dJ2_length_9d52b_4 : decode cJ2_length_9d52b 4 = .ok (.ireturn, 1) := by decide +kernel
theorem dJ2_charAt_3b067_0 : decode cJ2_charAt_3b067 0 = .ok (.iload_n 1, 1) := by decide +kernel
theorem dJ2_charAt_3b067_1 : decode cJ2_charAt_3b067 1 = .ok (.aload_n 0, 1) := by decide +kernel
theorem dJ2_charAt_3b067_2 : decode cJ2_charAt_3b067 2 = .ok (.invokestatic 67, 3) := by decide +kernel
theorem dJ2_charAt_3b067_5 : decode cJ2_charAt_3b067 5 = .ok (.aload_n 0, 1) := by decide +kernel
theorem dJ2_charAt_3b067_6 : decode cJ2_charAt_3b067 6 = .ok (.iload_n 1, 1) := by decide +kernel
theorem dJ2_charAt_3b067_7 : decode cJ2_charAt_3b067 7 = .ok (.invokestatic 71, 3) := by decide +kernel
theorem dJ2_charAt_3b067_10 : decode cJ2_charAt_3b067 10 = .ok (.ireturn, 1) := by decide +kernel
theorem dJ2_checkIndex_2214a_0 : decode cJ2_checkIndex_2214a 0 = .ok (.iload_n 0, 1) := by decide +kernel
theorem dJ2_checkIndex_2214a_1 : decode cJ2_checkIndex_2214a 1 = .ok (.aload_n 1, 1) := by decide +kernel
theorem dJ2_checkIndex_2214a_2 : decode cJ2_checkIndex_2214a 2 = .ok (.invokestatic 48, 3) := by decide +kernel
theorem dJ2_checkIndex_2214a_5 : decode cJ2_checkIndex_2214a 5 = .ok (.invokestatic 414, 3) := by decide +kernel
theorem dJ2_checkIndex_2214a_8 : decode cJ2_checkIndex_2214a 8 = .ok (.return_, 1) := by decide +kernel
theorem dJ7_fill_53178_0 : decode cJ7_fill_53178 0 = .ok (.iconst 0, 1) := by decide +kernel
theorem dJ7_fill_53178_1 : decode cJ7_fill_53178 1 = .ok (.istore_n 2, 1) := by decide +kernel
theorem dJ7_fill_53178_2 : decode cJ7_fill_53178 2 = .ok (.aload_n 0, 1) := by decide +kernel
theorem dJ7_fill_53178_3 : decode cJ7_fill_53178 3 = .ok (.arraylength, 1) := by decide +kernel
theorem dJ7_fill_53178_4 : decode cJ7_fill_53178 4 = .ok (.istore_n 3, 1) := by decide +kernel
theorem dJ7_fill_53178_5 : decode cJ7_fill_53178 5 = .ok (.iload_n 2, 1) := by decide +kernel
theorem dJ7_fill_53178_6 : decode cJ7_fill_53178 6 = .ok (.iload_n 3, 1) := by decide +kernel
theorem dJ7_fill_53178_7 : decode cJ7_fill_53178 7 = .ok (.if_icmp .ge 13, 3) := by decide +kernel
theorem dJ7_fill_53178_10 : decode cJ7_fill_53178 10 = .ok (.aload_n 0, 1) := by decide +kernel
theorem dJ7_fill_53178_11 : decode cJ7_fill_53178 11 = .ok (.iload_n 2, 1) := by decide +kernel
theorem dJ7_fill_53178_12 : decode cJ7_fill_53178 12 = .ok (.iload_n 1, 1) := by decide +kernel
theorem dJ7_fill_53178_13 : decode cJ7_fill_53178 13 = .ok (.iastore, 1) := by decide +kernel
theorem dJ7_fill_53178_14 : decode cJ7_fill_53178 14 = .ok (.iinc 2 1, 3) := by decide +kernel
theorem dJ7_fill_53178_17 : decode cJ7_fill_53178 17 = .ok (.goto (-12), 3) := by decide +kernel
theorem dJ7_fill_53178_20 : decode cJ7_fill_53178 20 = .ok (.return_, 1) := by decide +kernel
theorem dJ3_checkIndex_8e157_0 : decode cJ3_checkIndex_8e157 0 = .ok (.iload_n 0, 1) := by decide +kernel
theorem dJ3_checkIndex_8e157_1 : decode cJ3_checkIndex_8e157 1 = .ok (.ifCond .lt 8, 3) := by decide +kernel
theorem dJ3_checkIndex_8e157_4 : decode cJ3_checkIndex_8e157 4 = .ok (.iload_n 0, 1) := by decide +kernel
theorem dJ3_checkIndex_8e157_5 : decode cJ3_checkIndex_8e157 5 = .ok (.iload_n 1, 1) := by decide +kernel
theorem dJ3_checkIndex_8e157_6 : decode cJ3_checkIndex_8e157 6 = .ok (.if_icmp .lt 10, 3) := by decide +kernel
theorem dJ3_checkIndex_8e157_9 : decode cJ3_checkIndex_8e157 9 = .ok (.aload_n 2, 1) := by decide +kernel
theorem dJ3_checkIndex_8e157_10 : decode cJ3_checkIndex_8e157 10 = .ok (.iload_n 0, 1) := by decide +kernel
theorem dJ3_checkIndex_8e157_11 : decode cJ3_checkIndex_8e157 11 = .ok (.iload_n 1, 1) := by decide +kernel
theorem dJ3_checkIndex_8e157_12 : decode cJ3_checkIndex_8e157 12 = .ok (.invokestatic 95, 3) := by decide +kernel
theorem dJ3_checkIndex_8e157_15 : decode cJ3_checkIndex_8e157 15 = .ok (.athrow, 1) := by decide +kernel
theorem dJ3_checkIndex_8e157_16 : decode cJ3_checkIndex_8e157 16 = .ok (.iload_n 0, 1) := by decide +kernel
theorem dJ3_checkIndex_8e157_17 : decode cJ3_checkIndex_8e157 17 = .ok (.ireturn, 1) := by decide +kernel
