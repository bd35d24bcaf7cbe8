theorem dX12_init_0 : decode cX12_init 0 = .ok (.aload_n 0, 1) := by decide +kernel
theorem dX12_init_1 : decode cX12_init 1 = .ok (.invokespecial 1, 3) := by decide +kernel
theorem dX12_init_4 : decode cX12_init 4 = .ok (.aload_n 0, 1) := by decide +kernel
theorem dX12_init_5 : decode cX12_init 5 = .ok (.sipush 400, 3) := by decide +kernel
theorem dX12_init_8 : decode cX12_init 8 = .ok (.newarray .byte, 2) := by decide +kernel
theorem dX12_init_10 : decode cX12_init 10 = .ok (.putfield 7, 3) := by decide +kernel
theorem dX12_init_13 : decode cX12_init 13 = .ok (.aload_n 0, 1) := by decide +kernel
theorem dX12_init_14 : decode cX12_init 14 = .ok (.sipush 2400, 3) := by decide +kernel
theorem dX12_init_17 : decode cX12_init 17 = .ok (.newarray .int, 2) := by decide +kernel
theorem dX12_init_19 : decode cX12_init 19 = .ok (.putfield 13, 3) := by decide +kernel
theorem dX12_init_22 : decode cX12_init 22 = .ok (.aload_n 0, 1) := by decide +kernel
theorem dX12_init_23 : decode cX12_init 23 = .ok (.bipush 7, 2) := by decide +kernel
theorem dX12_init_25 : decode cX12_init 25 = .ok (.newarray .int, 2) := by decide +kernel
theorem dX12_init_27 : decode cX12_init 27 = .ok (.putfield 17, 3) := by decide +kernel
theorem dX12_init_30 : decode cX12_init 30 = .ok (.aload_n 0, 1) := by decide +kernel
theorem dX12_init_31 : decode cX12_init 31 = .ok (.sipush 360, 3) := by decide +kernel
theorem dX12_init_34 : decode cX12_init 34 = .ok (.newarray .int, 2) := by decide +kernel
theorem dX12_init_36 : decode cX12_init 36 = .ok (.putfield 20, 3) := by decide +kernel
theorem dX12_init_39 : decode cX12_init 39 = .ok (.aload_n 0, 1) := by decide +kernel
theorem dX12_init_40 : decode cX12_init 40 = .ok (.bipush 6, 2) := by decide +kernel
theorem dX12_init_42 : decode cX12_init 42 = .ok (.newarray .int, 2) := by decide +kernel
theorem dX12_init_44 : decode cX12_init 44 = .ok (.putfield 23, 3) := by decide +kernel
theorem dX12_init_47 : decode cX12_init 47 = .ok (.aload_n 0, 1) := by decide +kernel
theorem dX12_init_48 : decode cX12_init 48 = .ok (.sipush 270, 3) := by decide +kernel
theorem dX12_init_51 : decode cX12_init 51 = .ok (.newarray .int, 2) := by decide +kernel
theorem dX12_init_53 : decode cX12_init 53 = .ok (.putfield 26, 3) := by decide +kernel
theorem dX12_init_56 : decode cX12_init 56 = .ok (.aload_n 0, 1) := by decide +kernel
theorem dX12_init_57 : decode cX12_init 57 = .ok (.sipush 400, 3) := by decide +kernel
theorem dX12_init_60 : decode cX12_init 60 = .ok (.newarray .int, 2) := by decide +kernel
theorem dX12_init_62 : decode cX12_init 62 = .ok (.putfield 29, 3) := by decide +kernel
theorem dX12_init_65 : decode cX12_init 65 = .ok (.aload_n 0, 1) := by decide +kernel
theorem dX12_init_66 : decode cX12_init 66 = .ok (.bipush 64, 2) := by decide +kernel
theorem dX12_init_68 : decode cX12_init 68 = .ok (.newarray .long, 2) := by decide +kernel
theorem dX12_init_70 : decode cX12_init 70 = .ok (.putfield 32, 3) := by decide +kernel
theorem dX12_init_73 : decode cX12_init 73 = .ok (.aload_n 0, 1) := by decide +kernel
theorem dX12_init_74 : decode cX12_init 74 = .ok (.bipush 14, 2) := by decide +kernel
theorem dX12_init_76 : decode cX12_init 76 = .ok (.newarray .long, 2) := by decide +kernel
theorem dX12_init_78 : decode cX12_init 78 = .ok (.putfield 36, 3) := by decide +kernel
theorem dX12_init_81 : decode cX12_init 81 = .ok (.aload_n 0, 1) := by decide +kernel
theorem dX12_init_82 : decode cX12_init 82 = .ok (.sipush 328, 3) := by decide +kernel
theorem dX12_init_85 : decode cX12_init 85 = .ok (.newarray .int, 2) := by decide +kernel
theorem dX12_init_87 : decode cX12_init 87 = .ok (.putfield 39, 3) := by decide +kernel
theorem dX12_init_90 : decode cX12_init 90 = .ok (.aload_n 0, 1) := by decide +kernel
theorem dX12_init_91 : decode cX12_init 91 = .ok (.iconst (-1), 1) := by decide +kernel
theorem dX12_init_92 : decode cX12_init 92 = .ok (.putfield 42, 3) := by decide +kernel
theorem dX12_init_95 : decode cX12_init 95 = .ok (.aload_n 0, 1) := by decide +kernel
theorem dX12_init_96 : decode cX12_init 96 = .ok (.bipush 8, 2) := by decide +kernel
theorem dX12_init_98 : decode cX12_init 98 = .ok (.newarray .int, 2) := by decide +kernel
theorem dX12_init_100 : decode cX12_init 100 = .ok (.putfield 46, 3) := by decide +kernel
theorem dX12_init_103 : decode cX12_init 103 = .ok (.aload_n 0, 1) := by decide +kernel
theorem dX12_init_104 : decode cX12_init 104 = .ok (.sipush 2600, 3) := by decide +kernel
theorem dX12_init_107 : decode cX12_init 107 = .ok (.newarray .int, 2) := by decide +kernel
theorem dX12_init_109 : decode cX12_init 109 = .ok (.putfield 49, 3) := by decide +kernel
theorem dX12_init_112 : decode cX12_init 112 = .ok (.aload_n 0, 1) := by decide +kernel
theorem dX12_init_113 : decode cX12_init 113 = .ok (.sipush 130, 3) := by decide +kernel
theorem dX12_init_116 : decode cX12_init 116 = .ok (.newarray .int, 2) := by decide +kernel
theorem dX12_init_118 : decode cX12_init 118 = .ok (.putfield 52, 3) := by decide +kernel
theorem dX12_init_121 : decode cX12_init 121 = .ok (.aload_n 0, 1) := by decide +kernel
theorem dX12_init_122 : decode cX12_init 122 = .ok (.sipush 1312, 3) := by decide +kernel
theorem dX12_init_125 : decode cX12_init 125 = .ok (.newarray .int, 2) := by decide +kernel
theorem dX12_init_127 : decode cX12_init 127 = .ok (.putfield 55, 3) := by decide +kernel
theorem dX12_init_130 : decode cX12_init 130 = .ok (.aload_n 0, 1) := by decide +kernel
theorem dX12_init_131 : decode cX12_init 131 = .ok (.iconst 4, 1) := by decide +kernel
theorem dX12_init_132 : decode cX12_init 132 = .ok (.newarray .int, 2) := by decide +kernel
theorem dX12_init_134 : decode cX12_init 134 = .ok (.putfield 58, 3) := by decide +kernel
theorem dX12_init_137 : decode cX12_init 137 = .ok (.aload_n 0, 1) := by decide +kernel
theorem dX12_init_138 : decode cX12_init 138 = .ok (.iconst 4, 1) := by decide +kernel
theorem dX12_init_139 : decode cX12_init 139 = .ok (.newarray .int, 2) := by decide +kernel
theorem dX12_init_141 : decode cX12_init 141 = .ok (.putfield 61, 3) := by decide +kernel
theorem dX12_init_144 : decode cX12_init 144 = .ok (.aload_n 0, 1) := by decide +kernel
theorem dX12_init_145 : decode cX12_init 145 = .ok (.iconst 4, 1) := by decide +kernel
theorem dX12_init_146 : decode cX12_init 146 = .ok (.newarray .boolean, 2) := by decide +kernel
theorem dX12_init_148 : decode cX12_init 148 = .ok (.putfield 64, 3) := by decide +kernel
theorem dX12_init_151 : decode cX12_init 151 = .ok (.return_, 1) := by decide +kernel
theorem dX12_in_0 : decode cX12_in 0 = .ok (.lload_n 0, 1) := by decide +kernel
theorem dX12_in_1 : decode cX12_in 1 = .ok (.lload_n 2, 1) := by decide +kernel
theorem dX12_in_2 : decode cX12_in 2 = .ok (.lcmp, 1) := by decide +kernel
theorem dX12_in_3 : decode cX12_in 3 = .ok (.ifCond .lt 14, 3) := by decide +kernel
theorem dX12_in_6 : decode cX12_in 6 = .ok (.lload_n 0, 1) := by decide +kernel
theorem dX12_in_7 : decode cX12_in 7 = .ok (.lload 4, 2) := by decide +kernel
theorem dX12_in_9 : decode cX12_in 9 = .ok (.lcmp, 1) := by decide +kernel
theorem dX12_in_10 : decode cX12_in 10 = .ok (.ifCond .gt 7, 3) := by decide +kernel
theorem dX12_in_13 : decode cX12_in 13 = .ok (.iconst 1, 1) := by decide +kernel
theorem dX12_in_14 : decode cX12_in 14 = .ok (.goto 4, 3) := by decide +kernel
theorem dX12_in_17 : decode cX12_in 17 = .ok (.iconst 0, 1) := by decide +kernel
theorem dX12_in_18 : decode cX12_in 18 = .ok (.ireturn, 1) := by decide +kernel
theorem dX12_isOf_0 : decode cX12_isOf 0 = .ok (.iload_n 0, 1) := by decide +kernel
theorem dX12_isOf_1 : decode cX12_isOf 1 = .ok (.iload_n 1, 1) := by decide +kernel
theorem dX12_isOf_2 : decode cX12_isOf 2 = .ok (.ishr, 1) := by decide +kernel
theorem dX12_isOf_3 : decode cX12_isOf 3 = .ok (.iconst 1, 1) := by decide +kernel
theorem dX12_isOf_4 : decode cX12_isOf 4 = .ok (.iand, 1) := by decide +kernel
theorem dX12_isOf_5 : decode cX12_isOf 5 = .ok (.iconst 1, 1) := by decide +kernel
theorem dX12_isOf_6 : decode cX12_isOf 6 = .ok (.if_icmp .ne 7, 3) := by decide +kernel
theorem dX12_isOf_9 : decode cX12_isOf 9 = .ok (.iconst 1, 1) := by decide +kernel
theorem dX12_isOf_10 : decode cX12_isOf 10 = .ok (.goto 4, 3) := by decide +kernel
theorem dX12_isOf_13 : decode cX12_isOf 13 = .ok (.iconst 0, 1) := by decide +kernel
theorem dX12_isOf_14 : decode cX12_isOf 14 = .ok (.ireturn, 1) := by decide +kernel
theorem dX12_bits_0 : decode cX12_bits 0 = .ok (.iconst 0, 1) := by decide +kernel
theorem dX12_bits_1 : decode cX12_bits 1 = .ok (.istore_n 1, 1) := by decide +kernel
theorem dX12_bits_2 : decode cX12_bits 2 = .ok (.iload_n 0, 1) := by decide +kernel
theorem dX12_bits_3 : decode cX12_bits 3 = .ok (.istore_n 2, 1) := by decide +kernel
theorem dX12_bits_4 : decode cX12_bits 4 = .ok (.iload_n 2, 1) := by decide +kernel
theorem dX12_bits_5 : decode cX12_bits 5 = .ok (.ifCond .eq 15, 3) := by decide +kernel
theorem dX12_bits_8 : decode cX12_bits 8 = .ok (.iinc 1 1, 3) := by decide +kernel
theorem dX12_bits_11 : decode cX12_bits 11 = .ok (.iload_n 2, 1) := by decide +kernel
theorem dX12_bits_12 : decode cX12_bits 12 = .ok (.iload_n 2, 1) := by decide +kernel
theorem dX12_bits_13 : decode cX12_bits 13 = .ok (.iconst 1, 1) := by decide +kernel
theorem dX12_bits_14 : decode cX12_bits 14 = .ok (.isub, 1) := by decide +kernel
theorem dX12_bits_15 : decode cX12_bits 15 = .ok (.iand, 1) := by decide +kernel
theorem dX12_bits_16 : decode cX12_bits 16 = .ok (.istore_n 2, 1) := by decide +kernel
theorem dX12_bits_17 : decode cX12_bits 17 = .ok (.goto (-13), 3) := by decide +kernel
theorem dX12_bits_20 : decode cX12_bits 20 = .ok (.iload_n 1, 1) := by decide +kernel
theorem dX12_bits_21 : decode cX12_bits 21 = .ok (.ireturn, 1) := by decide +kernel
theorem dX12_four_0 : decode cX12_four 0 = .ok (.bipush 24, 2) := by decide +kernel
theorem dX12_four_2 : decode cX12_four 2 = .ok (.istore_n 2, 1) := by decide +kernel
theorem dX12_four_3 : decode cX12_four 3 = .ok (.iload_n 2, 1) := by decide +kernel
theorem dX12_four_4 : decode cX12_four 4 = .ok (.ifCond .lt 32, 3) := by decide +kernel
theorem dX12_four_7 : decode cX12_four 7 = .ok (.aload_n 0, 1) := by decide +kernel
theorem dX12_four_8 : decode cX12_four 8 = .ok (.getfield 7, 3) := by decide +kernel
theorem dX12_four_11 : decode cX12_four 11 = .ok (.aload_n 0, 1) := by decide +kernel
theorem dX12_four_12 : decode cX12_four 12 = .ok (.getfield 68, 3) := by decide +kernel
theorem dX12_four_15 : decode cX12_four 15 = .ok (.iload_n 1, 1) := by decide +kernel
theorem dX12_four_16 : decode cX12_four 16 = .ok (.iload_n 2, 1) := by decide +kernel
theorem dX12_four_17 : decode cX12_four 17 = .ok (.ishr, 1) := by decide +kernel
theorem dX12_four_18 : decode cX12_four 18 = .ok (.i2b, 1) := by decide +kernel
theorem dX12_four_19 : decode cX12_four 19 = .ok (.bastore, 1) := by decide +kernel
theorem dX12_four_20 : decode cX12_four 20 = .ok (.aload_n 0, 1) := by decide +kernel
theorem dX12_four_21 : decode cX12_four 21 = .ok (.dup, 1) := by decide +kernel
theorem dX12_four_22 : decode cX12_four 22 = .ok (.getfield 68, 3) := by decide +kernel
theorem dX12_four_25 : decode cX12_four 25 = .ok (.iconst 1, 1) := by decide +kernel
theorem dX12_four_26 : decode cX12_four 26 = .ok (.iadd, 1) := by decide +kernel
theorem dX12_four_27 : decode cX12_four 27 = .ok (.putfield 68, 3) := by decide +kernel
theorem dX12_four_30 : decode cX12_four 30 = .ok (.iinc 2 (-8), 3) := by decide +kernel
theorem dX12_four_33 : decode cX12_four 33 = .ok (.goto (-30), 3) := by decide +kernel
theorem dX12_four_36 : decode cX12_four 36 = .ok (.return_, 1) := by decide +kernel
theorem dX12_feed_0 : decode cX12_feed 0 = .ok (.aload_n 0, 1) := by decide +kernel
theorem dX12_feed_1 : decode cX12_feed 1 = .ok (.getfield 68, 3) := by decide +kernel
theorem dX12_feed_4 : decode cX12_feed 4 = .ok (.bipush 20, 2) := by decide +kernel
theorem dX12_feed_6 : decode cX12_feed 6 = .ok (.iadd, 1) := by decide +kernel
theorem dX12_feed_7 : decode cX12_feed 7 = .ok (.sipush 400, 3) := by decide +kernel
theorem dX12_feed_10 : decode cX12_feed 10 = .ok (.if_icmp .le 5, 3) := by decide +kernel
theorem dX12_feed_13 : decode cX12_feed 13 = .ok (.iconst (-1), 1) := by decide +kernel
theorem dX12_feed_14 : decode cX12_feed 14 = .ok (.ireturn, 1) := by decide +kernel
theorem dX12_feed_15 : decode cX12_feed 15 = .ok (.aload_n 0, 1) := by decide +kernel
theorem dX12_feed_16 : decode cX12_feed 16 = .ok (.iload_n 1, 1) := by decide +kernel
theorem dX12_feed_17 : decode cX12_feed 17 = .ok (.invokevirtual 71, 3) := by decide +kernel
theorem dX12_feed_20 : decode cX12_feed 20 = .ok (.aload_n 0, 1) := by decide +kernel
theorem dX12_feed_21 : decode cX12_feed 21 = .ok (.iload_n 2, 1) := by decide +kernel
theorem dX12_feed_22 : decode cX12_feed 22 = .ok (.invokevirtual 71, 3) := by decide +kernel
theorem dX12_feed_25 : decode cX12_feed 25 = .ok (.aload_n 0, 1) := by decide +kernel
theorem dX12_feed_26 : decode cX12_feed 26 = .ok (.iload_n 3, 1) := by decide +kernel
theorem dX12_feed_27 : decode cX12_feed 27 = .ok (.invokevirtual 71, 3) := by decide +kernel
theorem dX12_feed_30 : decode cX12_feed 30 = .ok (.aload_n 0, 1) := by decide +kernel
theorem dX12_feed_31 : decode cX12_feed 31 = .ok (.iload 4, 2) := by decide +kernel
theorem dX12_feed_33 : decode cX12_feed 33 = .ok (.invokevirtual 71, 3) := by decide +kernel
theorem dX12_feed_36 : decode cX12_feed 36 = .ok (.aload_n 0, 1) := by decide +kernel
theorem dX12_feed_37 : decode cX12_feed 37 = .ok (.iload 5, 2) := by decide +kernel
theorem dX12_feed_39 : decode cX12_feed 39 = .ok (.invokevirtual 71, 3) := by decide +kernel
theorem dX12_feed_42 : decode cX12_feed 42 = .ok (.aload_n 0, 1) := by decide +kernel
theorem dX12_feed_43 : decode cX12_feed 43 = .ok (.getfield 68, 3) := by decide +kernel
theorem dX12_feed_46 : decode cX12_feed 46 = .ok (.ireturn, 1) := by decide +kernel
theorem dX12_end_0 : decode cX12_end 0 = .ok (.iload_n 1, 1) := by decide +kernel
theorem dX12_end_1 : decode cX12_end 1 = .ok (.ifCond .lt 11, 3) := by decide +kernel
theorem dX12_end_4 : decode cX12_end 4 = .ok (.iload_n 1, 1) := by decide +kernel
theorem dX12_end_5 : decode cX12_end 5 = .ok (.aload_n 0, 1) := by decide +kernel
theorem dX12_end_6 : decode cX12_end 6 = .ok (.getfield 68, 3) := by decide +kernel
theorem dX12_end_9 : decode cX12_end 9 = .ok (.if_icmp .le 5, 3) := by decide +kernel
theorem dX12_end_12 : decode cX12_end 12 = .ok (.iconst (-1), 1) := by decide +kernel
theorem dX12_end_13 : decode cX12_end 13 = .ok (.ireturn, 1) := by decide +kernel
theorem dX12_end_14 : decode cX12_end 14 = .ok (.aload_n 0, 1) := by decide +kernel
theorem dX12_end_15 : decode cX12_end 15 = .ok (.iload_n 1, 1) := by decide +kernel
theorem dX12_end_16 : decode cX12_end 16 = .ok (.putfield 68, 3) := by decide +kernel
theorem dX12_end_19 : decode cX12_end 19 = .ok (.iload_n 1, 1) := by decide +kernel
theorem dX12_end_20 : decode cX12_end 20 = .ok (.ireturn, 1) := by decide +kernel
theorem dX12_fails_0 : decode cX12_fails 0 = .ok (.aload_n 0, 1) := by decide +kernel
theorem dX12_fails_1 : decode cX12_fails 1 = .ok (.getfield 75, 3) := by decide +kernel
theorem dX12_fails_4 : decode cX12_fails 4 = .ok (.ifCond .ne 15, 3) := by decide +kernel
theorem dX12_fails_7 : decode cX12_fails 7 = .ok (.aload_n 0, 1) := by decide +kernel
theorem dX12_fails_8 : decode cX12_fails 8 = .ok (.iconst 1, 1) := by decide +kernel
theorem dX12_fails_9 : decode cX12_fails 9 = .ok (.bipush 8, 2) := by decide +kernel
theorem dX12_fails_11 : decode cX12_fails 11 = .ok (.iload_n 2, 1) := by decide +kernel
theorem dX12_fails_12 : decode cX12_fails 12 = .ok (.imul, 1) := by decide +kernel
theorem dX12_fails_13 : decode cX12_fails 13 = .ok (.iadd, 1) := by decide +kernel
theorem dX12_fails_14 : decode cX12_fails 14 = .ok (.iload_n 1, 1) := by decide +kernel
theorem dX12_fails_15 : decode cX12_fails 15 = .ok (.iadd, 1) := by decide +kernel
theorem dX12_fails_16 : decode cX12_fails 16 = .ok (.putfield 75, 3) := by decide +kernel
theorem dX12_fails_19 : decode cX12_fails 19 = .ok (.iconst 0, 1) := by decide +kernel
theorem dX12_fails_20 : decode cX12_fails 20 = .ok (.ireturn, 1) := by decide +kernel
theorem dX12_see_0 : decode cX12_see 0 = .ok (.aload_n 0, 1) := by decide +kernel
theorem dX12_see_1 : decode cX12_see 1 = .ok (.getfield 78, 3) := by decide +kernel
theorem dX12_see_4 : decode cX12_see 4 = .ok (.aload_n 0, 1) := by decide +kernel
theorem dX12_see_5 : decode cX12_see 5 = .ok (.getfield 68, 3) := by decide +kernel
theorem dX12_see_8 : decode cX12_see 8 = .ok (.if_icmp .ge 30, 3) := by decide +kernel
theorem dX12_see_11 : decode cX12_see 11 = .ok (.aload_n 0, 1) := by decide +kernel
theorem dX12_see_12 : decode cX12_see 12 = .ok (.getfield 7, 3) := by decide +kernel
theorem dX12_see_15 : decode cX12_see 15 = .ok (.aload_n 0, 1) := by decide +kernel
theorem dX12_see_16 : decode cX12_see 16 = .ok (.getfield 78, 3) := by decide +kernel
theorem dX12_see_19 : decode cX12_see 19 = .ok (.baload, 1) := by decide +kernel
theorem dX12_see_20 : decode cX12_see 20 = .ok (.bipush 32, 2) := by decide +kernel
theorem dX12_see_22 : decode cX12_see 22 = .ok (.if_icmp .ne 16, 3) := by decide +kernel
theorem dX12_see_25 : decode cX12_see 25 = .ok (.aload_n 0, 1) := by decide +kernel
theorem dX12_see_26 : decode cX12_see 26 = .ok (.dup, 1) := by decide +kernel
theorem dX12_see_27 : decode cX12_see 27 = .ok (.getfield 78, 3) := by decide +kernel
theorem dX12_see_30 : decode cX12_see 30 = .ok (.iconst 1, 1) := by decide +kernel
theorem dX12_see_31 : decode cX12_see 31 = .ok (.iadd, 1) := by decide +kernel
theorem dX12_see_32 : decode cX12_see 32 = .ok (.putfield 78, 3) := by decide +kernel
theorem dX12_see_35 : decode cX12_see 35 = .ok (.goto (-35), 3) := by decide +kernel
theorem dX12_see_38 : decode cX12_see 38 = .ok (.aload_n 0, 1) := by decide +kernel
theorem dX12_see_39 : decode cX12_see 39 = .ok (.getfield 78, 3) := by decide +kernel
theorem dX12_see_42 : decode cX12_see 42 = .ok (.aload_n 0, 1) := by decide +kernel
theorem dX12_see_43 : decode cX12_see 43 = .ok (.getfield 68, 3) := by decide +kernel
theorem dX12_see_46 : decode cX12_see 46 = .ok (.if_icmp .ge 19, 3) := by decide +kernel
theorem dX12_see_49 : decode cX12_see 49 = .ok (.aload_n 0, 1) := by decide +kernel
theorem dX12_see_50 : decode cX12_see 50 = .ok (.getfield 7, 3) := by decide +kernel
theorem dX12_see_53 : decode cX12_see 53 = .ok (.aload_n 0, 1) := by decide +kernel
theorem dX12_see_54 : decode cX12_see 54 = .ok (.getfield 78, 3) := by decide +kernel
theorem dX12_see_57 : decode cX12_see 57 = .ok (.baload, 1) := by decide +kernel
theorem dX12_see_58 : decode cX12_see 58 = .ok (.sipush 255, 3) := by decide +kernel
theorem dX12_see_61 : decode cX12_see 61 = .ok (.iand, 1) := by decide +kernel
theorem dX12_see_62 : decode cX12_see 62 = .ok (.goto 4, 3) := by decide +kernel
theorem dX12_see_65 : decode cX12_see 65 = .ok (.iconst (-1), 1) := by decide +kernel
theorem dX12_see_66 : decode cX12_see 66 = .ok (.ireturn, 1) := by decide +kernel
theorem dX12_isDigit_0 : decode cX12_isDigit 0 = .ok (.iload_n 1, 1) := by decide +kernel
theorem dX12_isDigit_1 : decode cX12_isDigit 1 = .ok (.aload_n 0, 1) := by decide +kernel
theorem dX12_isDigit_2 : decode cX12_isDigit 2 = .ok (.getfield 68, 3) := by decide +kernel
theorem dX12_isDigit_5 : decode cX12_isDigit 5 = .ok (.if_icmp .ge 29, 3) := by decide +kernel
theorem dX12_isDigit_8 : decode cX12_isDigit 8 = .ok (.aload_n 0, 1) := by decide +kernel
theorem dX12_isDigit_9 : decode cX12_isDigit 9 = .ok (.getfield 7, 3) := by decide +kernel
theorem dX12_isDigit_12 : decode cX12_isDigit 12 = .ok (.iload_n 1, 1) := by decide +kernel
theorem dX12_isDigit_13 : decode cX12_isDigit 13 = .ok (.baload, 1) := by decide +kernel
theorem dX12_isDigit_14 : decode cX12_isDigit 14 = .ok (.bipush 48, 2) := by decide +kernel
theorem dX12_isDigit_16 : decode cX12_isDigit 16 = .ok (.if_icmp .lt 18, 3) := by decide +kernel
theorem dX12_isDigit_19 : decode cX12_isDigit 19 = .ok (.aload_n 0, 1) := by decide +kernel
theorem dX12_isDigit_20 : decode cX12_isDigit 20 = .ok (.getfield 7, 3) := by decide +kernel
theorem dX12_isDigit_23 : decode cX12_isDigit 23 = .ok (.iload_n 1, 1) := by decide +kernel
theorem dX12_isDigit_24 : decode cX12_isDigit 24 = .ok (.baload, 1) := by decide +kernel
theorem dX12_isDigit_25 : decode cX12_isDigit 25 = .ok (.bipush 57, 2) := by decide +kernel
theorem dX12_isDigit_27 : decode cX12_isDigit 27 = .ok (.if_icmp .gt 7, 3) := by decide +kernel
theorem dX12_isDigit_30 : decode cX12_isDigit 30 = .ok (.iconst 1, 1) := by decide +kernel
theorem dX12_isDigit_31 : decode cX12_isDigit 31 = .ok (.goto 4, 3) := by decide +kernel
theorem dX12_isDigit_34 : decode cX12_isDigit 34 = .ok (.iconst 0, 1) := by decide +kernel
theorem dX12_isDigit_35 : decode cX12_isDigit 35 = .ok (.ireturn, 1) := by decide +kernel
theorem dX12_isLetter_0 : decode cX12_isLetter 0 = .ok (.iload_n 1, 1) := by decide +kernel
theorem dX12_isLetter_1 : decode cX12_isLetter 1 = .ok (.aload_n 0, 1) := by decide +kernel
theorem dX12_isLetter_2 : decode cX12_isLetter 2 = .ok (.getfield 68, 3) := by decide +kernel
theorem dX12_isLetter_5 : decode cX12_isLetter 5 = .ok (.if_icmp .ge 29, 3) := by decide +kernel
theorem dX12_isLetter_8 : decode cX12_isLetter 8 = .ok (.aload_n 0, 1) := by decide +kernel
theorem dX12_isLetter_9 : decode cX12_isLetter 9 = .ok (.getfield 7, 3) := by decide +kernel
theorem dX12_isLetter_12 : decode cX12_isLetter 12 = .ok (.iload_n 1, 1) := by decide +kernel
theorem dX12_isLetter_13 : decode cX12_isLetter 13 = .ok (.baload, 1) := by decide +kernel
theorem dX12_isLetter_14 : decode cX12_isLetter 14 = .ok (.bipush 97, 2) := by decide +kernel
theorem dX12_isLetter_16 : decode cX12_isLetter 16 = .ok (.if_icmp .lt 18, 3) := by decide +kernel
theorem dX12_isLetter_19 : decode cX12_isLetter 19 = .ok (.aload_n 0, 1) := by decide +kernel
theorem dX12_isLetter_20 : decode cX12_isLetter 20 = .ok (.getfield 7, 3) := by decide +kernel
theorem dX12_isLetter_23 : decode cX12_isLetter 23 = .ok (.iload_n 1, 1) := by decide +kernel
theorem dX12_isLetter_24 : decode cX12_isLetter 24 = .ok (.baload, 1) := by decide +kernel
theorem dX12_isLetter_25 : decode cX12_isLetter 25 = .ok (.bipush 122, 2) := by decide +kernel
theorem dX12_isLetter_27 : decode cX12_isLetter 27 = .ok (.if_icmp .gt 7, 3) := by decide +kernel
theorem dX12_isLetter_30 : decode cX12_isLetter 30 = .ok (.iconst 1, 1) := by decide +kernel
theorem dX12_isLetter_31 : decode cX12_isLetter 31 = .ok (.goto 4, 3) := by decide +kernel
theorem dX12_isLetter_34 : decode cX12_isLetter 34 = .ok (.iconst 0, 1) := by decide +kernel
theorem dX12_isLetter_35 : decode cX12_isLetter 35 = .ok (.ireturn, 1) := by decide +kernel
theorem dX12_isWord_0 : decode cX12_isWord 0 = .ok (.aload_n 0, 1) := by decide +kernel
theorem dX12_isWord_1 : decode cX12_isWord 1 = .ok (.invokevirtual 81, 3) := by decide +kernel
theorem dX12_isWord_4 : decode cX12_isWord 4 = .ok (.pop, 1) := by decide +kernel
theorem dX12_isWord_5 : decode cX12_isWord 5 = .ok (.lconst 0, 1) := by decide +kernel
theorem dX12_isWord_6 : decode cX12_isWord 6 = .ok (.lstore_n 3, 1) := by decide +kernel
theorem dX12_isWord_7 : decode cX12_isWord 7 = .ok (.iconst 0, 1) := by decide +kernel
theorem dX12_isWord_8 : decode cX12_isWord 8 = .ok (.istore 5, 2) := by decide +kernel
theorem dX12_isWord_10 : decode cX12_isWord 10 = .ok (.aload_n 0, 1) := by decide +kernel
theorem dX12_isWord_11 : decode cX12_isWord 11 = .ok (.aload_n 0, 1) := by decide +kernel
theorem dX12_isWord_12 : decode cX12_isWord 12 = .ok (.getfield 78, 3) := by decide +kernel
theorem dX12_isWord_15 : decode cX12_isWord 15 = .ok (.iload 5, 2) := by decide +kernel
theorem dX12_isWord_17 : decode cX12_isWord 17 = .ok (.iadd, 1) := by decide +kernel
theorem dX12_isWord_18 : decode cX12_isWord 18 = .ok (.invokevirtual 85, 3) := by decide +kernel
theorem dX12_isWord_21 : decode cX12_isWord 21 = .ok (.ifCond .eq 35, 3) := by decide +kernel
theorem dX12_isWord_24 : decode cX12_isWord 24 = .ok (.iload 5, 2) := by decide +kernel
theorem dX12_isWord_26 : decode cX12_isWord 26 = .ok (.bipush 8, 2) := by decide +kernel
theorem dX12_isWord_28 : decode cX12_isWord 28 = .ok (.if_icmp .ge 22, 3) := by decide +kernel
theorem dX12_isWord_31 : decode cX12_isWord 31 = .ok (.lload_n 3, 1) := by decide +kernel
theorem dX12_isWord_32 : decode cX12_isWord 32 = .ok (.bipush 8, 2) := by decide +kernel
theorem dX12_isWord_34 : decode cX12_isWord 34 = .ok (.lshl, 1) := by decide +kernel
theorem dX12_isWord_35 : decode cX12_isWord 35 = .ok (.aload_n 0, 1) := by decide +kernel
theorem dX12_isWord_36 : decode cX12_isWord 36 = .ok (.getfield 7, 3) := by decide +kernel
theorem dX12_isWord_39 : decode cX12_isWord 39 = .ok (.aload_n 0, 1) := by decide +kernel
theorem dX12_isWord_40 : decode cX12_isWord 40 = .ok (.getfield 78, 3) := by decide +kernel
theorem dX12_isWord_43 : decode cX12_isWord 43 = .ok (.iload 5, 2) := by decide +kernel
theorem dX12_isWord_45 : decode cX12_isWord 45 = .ok (.iadd, 1) := by decide +kernel
theorem dX12_isWord_46 : decode cX12_isWord 46 = .ok (.baload, 1) := by decide +kernel
theorem dX12_isWord_47 : decode cX12_isWord 47 = .ok (.i2l, 1) := by decide +kernel
theorem dX12_isWord_48 : decode cX12_isWord 48 = .ok (.lor, 1) := by decide +kernel
theorem dX12_isWord_49 : decode cX12_isWord 49 = .ok (.lstore_n 3, 1) := by decide +kernel
theorem dX12_isWord_50 : decode cX12_isWord 50 = .ok (.iinc 5 1, 3) := by decide +kernel
theorem dX12_isWord_53 : decode cX12_isWord 53 = .ok (.goto (-43), 3) := by decide +kernel
theorem dX12_isWord_56 : decode cX12_isWord 56 = .ok (.iload 5, 2) := by decide +kernel
theorem dX12_isWord_58 : decode cX12_isWord 58 = .ok (.ifCond .le 20, 3) := by decide +kernel
theorem dX12_isWord_61 : decode cX12_isWord 61 = .ok (.iload 5, 2) := by decide +kernel
theorem dX12_isWord_63 : decode cX12_isWord 63 = .ok (.bipush 8, 2) := by decide +kernel
theorem dX12_isWord_65 : decode cX12_isWord 65 = .ok (.if_icmp .ge 13, 3) := by decide +kernel
theorem dX12_isWord_68 : decode cX12_isWord 68 = .ok (.lload_n 3, 1) := by decide +kernel
theorem dX12_isWord_69 : decode cX12_isWord 69 = .ok (.lload_n 1, 1) := by decide +kernel
theorem dX12_isWord_70 : decode cX12_isWord 70 = .ok (.lcmp, 1) := by decide +kernel
theorem dX12_isWord_71 : decode cX12_isWord 71 = .ok (.ifCond .ne 7, 3) := by decide +kernel
theorem dX12_isWord_74 : decode cX12_isWord 74 = .ok (.iconst 1, 1) := by decide +kernel
theorem dX12_isWord_75 : decode cX12_isWord 75 = .ok (.goto 4, 3) := by decide +kernel
theorem dX12_isWord_78 : decode cX12_isWord 78 = .ok (.iconst 0, 1) := by decide +kernel
theorem dX12_isWord_79 : decode cX12_isWord 79 = .ok (.ireturn, 1) := by decide +kernel
theorem dX12_passWord_0 : decode cX12_passWord 0 = .ok (.aload_n 0, 1) := by decide +kernel
theorem dX12_passWord_1 : decode cX12_passWord 1 = .ok (.aload_n 0, 1) := by decide +kernel
theorem dX12_passWord_2 : decode cX12_passWord 2 = .ok (.getfield 78, 3) := by decide +kernel
theorem dX12_passWord_5 : decode cX12_passWord 5 = .ok (.invokevirtual 85, 3) := by decide +kernel
theorem dX12_passWord_8 : decode cX12_passWord 8 = .ok (.ifCond .eq 16, 3) := by decide +kernel
theorem dX12_passWord_11 : decode cX12_passWord 11 = .ok (.aload_n 0, 1) := by decide +kernel
theorem dX12_passWord_12 : decode cX12_passWord 12 = .ok (.dup, 1) := by decide +kernel
theorem dX12_passWord_13 : decode cX12_passWord 13 = .ok (.getfield 78, 3) := by decide +kernel
theorem dX12_passWord_16 : decode cX12_passWord 16 = .ok (.iconst 1, 1) := by decide +kernel
theorem dX12_passWord_17 : decode cX12_passWord 17 = .ok (.iadd, 1) := by decide +kernel
theorem dX12_passWord_18 : decode cX12_passWord 18 = .ok (.putfield 78, 3) := by decide +kernel
theorem dX12_passWord_21 : decode cX12_passWord 21 = .ok (.goto (-21), 3) := by decide +kernel
theorem dX12_passWord_24 : decode cX12_passWord 24 = .ok (.return_, 1) := by decide +kernel
theorem dX12_takesWord_0 : decode cX12_takesWord 0 = .ok (.aload_n 0, 1) := by decide +kernel
theorem dX12_takesWord_1 : decode cX12_takesWord 1 = .ok (.lload_n 1, 1) := by decide +kernel
theorem dX12_takesWord_2 : decode cX12_takesWord 2 = .ok (.invokevirtual 89, 3) := by decide +kernel
theorem dX12_takesWord_5 : decode cX12_takesWord 5 = .ok (.ifCond .ne 5, 3) := by decide +kernel
theorem dX12_takesWord_8 : decode cX12_takesWord 8 = .ok (.iconst 0, 1) := by decide +kernel
theorem dX12_takesWord_9 : decode cX12_takesWord 9 = .ok (.ireturn, 1) := by decide +kernel
theorem dX12_takesWord_10 : decode cX12_takesWord 10 = .ok (.aload_n 0, 1) := by decide +kernel
theorem dX12_takesWord_11 : decode cX12_takesWord 11 = .ok (.invokevirtual 93, 3) := by decide +kernel
theorem dX12_takesWord_14 : decode cX12_takesWord 14 = .ok (.iconst 1, 1) := by decide +kernel
theorem dX12_takesWord_15 : decode cX12_takesWord 15 = .ok (.ireturn, 1) := by decide +kernel
theorem dX12_numberHere_0 : decode cX12_numberHere 0 = .ok (.aload_n 0, 1) := by decide +kernel
theorem dX12_numberHere_1 : decode cX12_numberHere 1 = .ok (.invokevirtual 81, 3) := by decide +kernel
theorem dX12_numberHere_4 : decode cX12_numberHere 4 = .ok (.pop, 1) := by decide +kernel
theorem dX12_numberHere_5 : decode cX12_numberHere 5 = .ok (.aload_n 0, 1) := by decide +kernel
theorem dX12_numberHere_6 : decode cX12_numberHere 6 = .ok (.aload_n 0, 1) := by decide +kernel
theorem dX12_numberHere_7 : decode cX12_numberHere 7 = .ok (.getfield 78, 3) := by decide +kernel
theorem dX12_numberHere_10 : decode cX12_numberHere 10 = .ok (.invokevirtual 96, 3) := by decide +kernel
theorem dX12_numberHere_13 : decode cX12_numberHere 13 = .ok (.ifCond .ne 13, 3) := by decide +kernel
theorem dX12_numberHere_16 : decode cX12_numberHere 16 = .ok (.aload_n 0, 1) := by decide +kernel
theorem dX12_numberHere_17 : decode cX12_numberHere 17 = .ok (.iconst 0, 1) := by decide +kernel
theorem dX12_numberHere_18 : decode cX12_numberHere 18 = .ok (.aload_n 0, 1) := by decide +kernel
theorem dX12_numberHere_19 : decode cX12_numberHere 19 = .ok (.getfield 78, 3) := by decide +kernel
theorem dX12_numberHere_22 : decode cX12_numberHere 22 = .ok (.invokevirtual 99, 3) := by decide +kernel
theorem dX12_numberHere_25 : decode cX12_numberHere 25 = .ok (.ireturn, 1) := by decide +kernel
theorem dX12_numberHere_26 : decode cX12_numberHere 26 = .ok (.aload_n 0, 1) := by decide +kernel
theorem dX12_numberHere_27 : decode cX12_numberHere 27 = .ok (.getfield 78, 3) := by decide +kernel
theorem dX12_numberHere_30 : decode cX12_numberHere 30 = .ok (.istore_n 3, 1) := by decide +kernel
theorem dX12_numberHere_31 : decode cX12_numberHere 31 = .ok (.iconst 0, 1) := by decide +kernel
theorem dX12_numberHere_32 : decode cX12_numberHere 32 = .ok (.istore 4, 2) := by decide +kernel
theorem dX12_numberHere_34 : decode cX12_numberHere 34 = .ok (.aload_n 0, 1) := by decide +kernel
theorem dX12_numberHere_35 : decode cX12_numberHere 35 = .ok (.aload_n 0, 1) := by decide +kernel
theorem dX12_numberHere_36 : decode cX12_numberHere 36 = .ok (.getfield 78, 3) := by decide +kernel
theorem dX12_numberHere_39 : decode cX12_numberHere 39 = .ok (.invokevirtual 96, 3) := by decide +kernel
theorem dX12_numberHere_42 : decode cX12_numberHere 42 = .ok (.ifCond .eq 46, 3) := by decide +kernel
theorem dX12_numberHere_45 : decode cX12_numberHere 45 = .ok (.aload_n 0, 1) := by decide +kernel
theorem dX12_numberHere_46 : decode cX12_numberHere 46 = .ok (.getfield 78, 3) := by decide +kernel
theorem dX12_numberHere_49 : decode cX12_numberHere 49 = .ok (.iload_n 3, 1) := by decide +kernel
theorem dX12_numberHere_50 : decode cX12_numberHere 50 = .ok (.isub, 1) := by decide +kernel
theorem dX12_numberHere_51 : decode cX12_numberHere 51 = .ok (.iconst 5, 1) := by decide +kernel
theorem dX12_numberHere_52 : decode cX12_numberHere 52 = .ok (.if_icmp .ge 23, 3) := by decide +kernel
theorem dX12_numberHere_55 : decode cX12_numberHere 55 = .ok (.bipush 10, 2) := by decide +kernel
theorem dX12_numberHere_57 : decode cX12_numberHere 57 = .ok (.iload 4, 2) := by decide +kernel
theorem dX12_numberHere_59 : decode cX12_numberHere 59 = .ok (.imul, 1) := by decide +kernel
theorem dX12_numberHere_60 : decode cX12_numberHere 60 = .ok (.aload_n 0, 1) := by decide +kernel
theorem dX12_numberHere_61 : decode cX12_numberHere 61 = .ok (.getfield 7, 3) := by decide +kernel
theorem dX12_numberHere_64 : decode cX12_numberHere 64 = .ok (.aload_n 0, 1) := by decide +kernel
theorem dX12_numberHere_65 : decode cX12_numberHere 65 = .ok (.getfield 78, 3) := by decide +kernel
theorem dX12_numberHere_68 : decode cX12_numberHere 68 = .ok (.baload, 1) := by decide +kernel
theorem dX12_numberHere_69 : decode cX12_numberHere 69 = .ok (.iadd, 1) := by decide +kernel
theorem dX12_numberHere_70 : decode cX12_numberHere 70 = .ok (.bipush 48, 2) := by decide +kernel
theorem dX12_numberHere_72 : decode cX12_numberHere 72 = .ok (.isub, 1) := by decide +kernel
theorem dX12_numberHere_73 : decode cX12_numberHere 73 = .ok (.istore 4, 2) := by decide +kernel
theorem dX12_numberHere_75 : decode cX12_numberHere 75 = .ok (.aload_n 0, 1) := by decide +kernel
theorem dX12_numberHere_76 : decode cX12_numberHere 76 = .ok (.dup, 1) := by decide +kernel
theorem dX12_numberHere_77 : decode cX12_numberHere 77 = .ok (.getfield 78, 3) := by decide +kernel
theorem dX12_numberHere_80 : decode cX12_numberHere 80 = .ok (.iconst 1, 1) := by decide +kernel
theorem dX12_numberHere_81 : decode cX12_numberHere 81 = .ok (.iadd, 1) := by decide +kernel
theorem dX12_numberHere_82 : decode cX12_numberHere 82 = .ok (.putfield 78, 3) := by decide +kernel
theorem dX12_numberHere_85 : decode cX12_numberHere 85 = .ok (.goto (-51), 3) := by decide +kernel
theorem dX12_numberHere_88 : decode cX12_numberHere 88 = .ok (.aload_n 0, 1) := by decide +kernel
theorem dX12_numberHere_89 : decode cX12_numberHere 89 = .ok (.iload 4, 2) := by decide +kernel
theorem dX12_numberHere_91 : decode cX12_numberHere 91 = .ok (.putfield 103, 3) := by decide +kernel
theorem dX12_numberHere_94 : decode cX12_numberHere 94 = .ok (.aload_n 0, 1) := by decide +kernel
theorem dX12_numberHere_95 : decode cX12_numberHere 95 = .ok (.getfield 78, 3) := by decide +kernel
theorem dX12_numberHere_98 : decode cX12_numberHere 98 = .ok (.iload_n 3, 1) := by decide +kernel
theorem dX12_numberHere_99 : decode cX12_numberHere 99 = .ok (.isub, 1) := by decide +kernel
theorem dX12_numberHere_100 : decode cX12_numberHere 100 = .ok (.iconst 5, 1) := by decide +kernel
theorem dX12_numberHere_101 : decode cX12_numberHere 101 = .ok (.if_icmp .gt 16, 3) := by decide +kernel
theorem dX12_numberHere_104 : decode cX12_numberHere 104 = .ok (.iload 4, 2) := by decide +kernel
theorem dX12_numberHere_106 : decode cX12_numberHere 106 = .ok (.i2l, 1) := by decide +kernel
theorem dX12_numberHere_107 : decode cX12_numberHere 107 = .ok (.iload_n 1, 1) := by decide +kernel
theorem dX12_numberHere_108 : decode cX12_numberHere 108 = .ok (.i2l, 1) := by decide +kernel
theorem dX12_numberHere_109 : decode cX12_numberHere 109 = .ok (.iload_n 2, 1) := by decide +kernel
theorem dX12_numberHere_110 : decode cX12_numberHere 110 = .ok (.i2l, 1) := by decide +kernel
theorem dX12_numberHere_111 : decode cX12_numberHere 111 = .ok (.invokestatic 106, 3) := by decide +kernel
theorem dX12_numberHere_114 : decode cX12_numberHere 114 = .ok (.ifCond .ne 12, 3) := by decide +kernel
theorem dX12_numberHere_117 : decode cX12_numberHere 117 = .ok (.aload_n 0, 1) := by decide +kernel
theorem dX12_numberHere_118 : decode cX12_numberHere 118 = .ok (.iconst 1, 1) := by decide +kernel
theorem dX12_numberHere_119 : decode cX12_numberHere 119 = .ok (.iload_n 3, 1) := by decide +kernel
theorem dX12_numberHere_120 : decode cX12_numberHere 120 = .ok (.invokevirtual 99, 3) := by decide +kernel
theorem dX12_numberHere_123 : decode cX12_numberHere 123 = .ok (.ifCond .eq 7, 3) := by decide +kernel
theorem dX12_numberHere_126 : decode cX12_numberHere 126 = .ok (.iconst 1, 1) := by decide +kernel
theorem dX12_numberHere_127 : decode cX12_numberHere 127 = .ok (.goto 4, 3) := by decide +kernel
theorem dX12_numberHere_130 : decode cX12_numberHere 130 = .ok (.iconst 0, 1) := by decide +kernel
theorem dX12_numberHere_131 : decode cX12_numberHere 131 = .ok (.ireturn, 1) := by decide +kernel
theorem dX12_wordHere_0 : decode cX12_wordHere 0 = .ok (.aload_n 0, 1) := by decide +kernel
theorem dX12_wordHere_1 : decode cX12_wordHere 1 = .ok (.ldc2_w 110, 3) := by decide +kernel
theorem dX12_wordHere_4 : decode cX12_wordHere 4 = .ok (.invokevirtual 89, 3) := by decide +kernel
theorem dX12_wordHere_7 : decode cX12_wordHere 7 = .ok (.ifCond .eq 5, 3) := by decide +kernel
theorem dX12_wordHere_10 : decode cX12_wordHere 10 = .ok (.iconst 0, 1) := by decide +kernel
theorem dX12_wordHere_11 : decode cX12_wordHere 11 = .ok (.ireturn, 1) := by decide +kernel
theorem dX12_wordHere_12 : decode cX12_wordHere 12 = .ok (.aload_n 0, 1) := by decide +kernel
theorem dX12_wordHere_13 : decode cX12_wordHere 13 = .ok (.ldc2_w 112, 3) := by decide +kernel
theorem dX12_wordHere_16 : decode cX12_wordHere 16 = .ok (.invokevirtual 89, 3) := by decide +kernel
theorem dX12_wordHere_19 : decode cX12_wordHere 19 = .ok (.ifCond .eq 5, 3) := by decide +kernel
theorem dX12_wordHere_22 : decode cX12_wordHere 22 = .ok (.iconst 1, 1) := by decide +kernel
theorem dX12_wordHere_23 : decode cX12_wordHere 23 = .ok (.ireturn, 1) := by decide +kernel
theorem dX12_wordHere_24 : decode cX12_wordHere 24 = .ok (.aload_n 0, 1) := by decide +kernel
theorem dX12_wordHere_25 : decode cX12_wordHere 25 = .ok (.ldc2_w 114, 3) := by decide +kernel
theorem dX12_wordHere_28 : decode cX12_wordHere 28 = .ok (.invokevirtual 89, 3) := by decide +kernel
theorem dX12_wordHere_31 : decode cX12_wordHere 31 = .ok (.ifCond .eq 5, 3) := by decide +kernel
theorem dX12_wordHere_34 : decode cX12_wordHere 34 = .ok (.iconst 2, 1) := by decide +kernel
theorem dX12_wordHere_35 : decode cX12_wordHere 35 = .ok (.ireturn, 1) := by decide +kernel
theorem dX12_wordHere_36 : decode cX12_wordHere 36 = .ok (.aload_n 0, 1) := by decide +kernel
theorem dX12_wordHere_37 : decode cX12_wordHere 37 = .ok (.ldc2_w 116, 3) := by decide +kernel
theorem dX12_wordHere_40 : decode cX12_wordHere 40 = .ok (.invokevirtual 89, 3) := by decide +kernel
theorem dX12_wordHere_43 : decode cX12_wordHere 43 = .ok (.ifCond .eq 5, 3) := by decide +kernel
theorem dX12_wordHere_46 : decode cX12_wordHere 46 = .ok (.iconst 3, 1) := by decide +kernel
theorem dX12_wordHere_47 : decode cX12_wordHere 47 = .ok (.ireturn, 1) := by decide +kernel
theorem dX12_wordHere_48 : decode cX12_wordHere 48 = .ok (.aload_n 0, 1) := by decide +kernel
theorem dX12_wordHere_49 : decode cX12_wordHere 49 = .ok (.ldc2_w 118, 3) := by decide +kernel
theorem dX12_wordHere_52 : decode cX12_wordHere 52 = .ok (.invokevirtual 89, 3) := by decide +kernel
theorem dX12_wordHere_55 : decode cX12_wordHere 55 = .ok (.ifCond .eq 5, 3) := by decide +kernel
theorem dX12_wordHere_58 : decode cX12_wordHere 58 = .ok (.iconst 4, 1) := by decide +kernel
theorem dX12_wordHere_59 : decode cX12_wordHere 59 = .ok (.ireturn, 1) := by decide +kernel
theorem dX12_wordHere_60 : decode cX12_wordHere 60 = .ok (.aload_n 0, 1) := by decide +kernel
theorem dX12_wordHere_61 : decode cX12_wordHere 61 = .ok (.ldc2_w 120, 3) := by decide +kernel
theorem dX12_wordHere_64 : decode cX12_wordHere 64 = .ok (.invokevirtual 89, 3) := by decide +kernel
theorem dX12_wordHere_67 : decode cX12_wordHere 67 = .ok (.ifCond .eq 5, 3) := by decide +kernel
theorem dX12_wordHere_70 : decode cX12_wordHere 70 = .ok (.iconst 5, 1) := by decide +kernel
theorem dX12_wordHere_71 : decode cX12_wordHere 71 = .ok (.ireturn, 1) := by decide +kernel
theorem dX12_wordHere_72 : decode cX12_wordHere 72 = .ok (.aload_n 0, 1) := by decide +kernel
theorem dX12_wordHere_73 : decode cX12_wordHere 73 = .ok (.ldc2_w 122, 3) := by decide +kernel
theorem dX12_wordHere_76 : decode cX12_wordHere 76 = .ok (.invokevirtual 89, 3) := by decide +kernel
theorem dX12_wordHere_79 : decode cX12_wordHere 79 = .ok (.ifCond .eq 6, 3) := by decide +kernel
theorem dX12_wordHere_82 : decode cX12_wordHere 82 = .ok (.bipush 6, 2) := by decide +kernel
theorem dX12_wordHere_84 : decode cX12_wordHere 84 = .ok (.ireturn, 1) := by decide +kernel
theorem dX12_wordHere_85 : decode cX12_wordHere 85 = .ok (.aload_n 0, 1) := by decide +kernel
theorem dX12_wordHere_86 : decode cX12_wordHere 86 = .ok (.ldc2_w 124, 3) := by decide +kernel
theorem dX12_wordHere_89 : decode cX12_wordHere 89 = .ok (.invokevirtual 89, 3) := by decide +kernel
theorem dX12_wordHere_92 : decode cX12_wordHere 92 = .ok (.ifCond .eq 6, 3) := by decide +kernel
theorem dX12_wordHere_95 : decode cX12_wordHere 95 = .ok (.bipush 7, 2) := by decide +kernel
theorem dX12_wordHere_97 : decode cX12_wordHere 97 = .ok (.ireturn, 1) := by decide +kernel
theorem dX12_wordHere_98 : decode cX12_wordHere 98 = .ok (.aload_n 0, 1) := by decide +kernel
theorem dX12_wordHere_99 : decode cX12_wordHere 99 = .ok (.ldc2_w 126, 3) := by decide +kernel
theorem dX12_wordHere_102 : decode cX12_wordHere 102 = .ok (.invokevirtual 89, 3) := by decide +kernel
theorem dX12_wordHere_105 : decode cX12_wordHere 105 = .ok (.ifCond .eq 6, 3) := by decide +kernel
theorem dX12_wordHere_108 : decode cX12_wordHere 108 = .ok (.bipush 8, 2) := by decide +kernel
theorem dX12_wordHere_110 : decode cX12_wordHere 110 = .ok (.ireturn, 1) := by decide +kernel
theorem dX12_wordHere_111 : decode cX12_wordHere 111 = .ok (.aload_n 0, 1) := by decide +kernel
theorem dX12_wordHere_112 : decode cX12_wordHere 112 = .ok (.ldc2_w 128, 3) := by decide +kernel
theorem dX12_wordHere_115 : decode cX12_wordHere 115 = .ok (.invokevirtual 89, 3) := by decide +kernel
theorem dX12_wordHere_118 : decode cX12_wordHere 118 = .ok (.ifCond .eq 6, 3) := by decide +kernel
theorem dX12_wordHere_121 : decode cX12_wordHere 121 = .ok (.bipush 9, 2) := by decide +kernel
theorem dX12_wordHere_123 : decode cX12_wordHere 123 = .ok (.ireturn, 1) := by decide +kernel
theorem dX12_wordHere_124 : decode cX12_wordHere 124 = .ok (.aload_n 0, 1) := by decide +kernel
theorem dX12_wordHere_125 : decode cX12_wordHere 125 = .ok (.ldc2_w 130, 3) := by decide +kernel
theorem dX12_wordHere_128 : decode cX12_wordHere 128 = .ok (.invokevirtual 89, 3) := by decide +kernel
theorem dX12_wordHere_131 : decode cX12_wordHere 131 = .ok (.ifCond .eq 6, 3) := by decide +kernel
theorem dX12_wordHere_134 : decode cX12_wordHere 134 = .ok (.bipush 10, 2) := by decide +kernel
theorem dX12_wordHere_136 : decode cX12_wordHere 136 = .ok (.ireturn, 1) := by decide +kernel
theorem dX12_wordHere_137 : decode cX12_wordHere 137 = .ok (.aload_n 0, 1) := by decide +kernel
theorem dX12_wordHere_138 : decode cX12_wordHere 138 = .ok (.ldc2_w 132, 3) := by decide +kernel
theorem dX12_wordHere_141 : decode cX12_wordHere 141 = .ok (.invokevirtual 89, 3) := by decide +kernel
theorem dX12_wordHere_144 : decode cX12_wordHere 144 = .ok (.ifCond .eq 6, 3) := by decide +kernel
theorem dX12_wordHere_147 : decode cX12_wordHere 147 = .ok (.bipush 11, 2) := by decide +kernel
theorem dX12_wordHere_149 : decode cX12_wordHere 149 = .ok (.ireturn, 1) := by decide +kernel
theorem dX12_wordHere_150 : decode cX12_wordHere 150 = .ok (.aload_n 0, 1) := by decide +kernel
theorem dX12_wordHere_151 : decode cX12_wordHere 151 = .ok (.ldc2_w 134, 3) := by decide +kernel
theorem dX12_wordHere_154 : decode cX12_wordHere 154 = .ok (.invokevirtual 89, 3) := by decide +kernel
theorem dX12_wordHere_157 : decode cX12_wordHere 157 = .ok (.ifCond .eq 8, 3) := by decide +kernel
theorem dX12_wordHere_160 : decode cX12_wordHere 160 = .ok (.bipush 12, 2) := by decide +kernel
theorem dX12_wordHere_162 : decode cX12_wordHere 162 = .ok (.goto 19, 3) := by decide +kernel
theorem dX12_wordHere_165 : decode cX12_wordHere 165 = .ok (.aload_n 0, 1) := by decide +kernel
theorem dX12_wordHere_166 : decode cX12_wordHere 166 = .ok (.ldc2_w 136, 3) := by decide +kernel
theorem dX12_wordHere_169 : decode cX12_wordHere 169 = .ok (.invokevirtual 89, 3) := by decide +kernel
theorem dX12_wordHere_172 : decode cX12_wordHere 172 = .ok (.ifCond .eq 8, 3) := by decide +kernel
theorem dX12_wordHere_175 : decode cX12_wordHere 175 = .ok (.bipush 13, 2) := by decide +kernel
theorem dX12_wordHere_177 : decode cX12_wordHere 177 = .ok (.goto 4, 3) := by decide +kernel
theorem dX12_wordHere_180 : decode cX12_wordHere 180 = .ok (.iconst (-1), 1) := by decide +kernel
theorem dX12_wordHere_181 : decode cX12_wordHere 181 = .ok (.ireturn, 1) := by decide +kernel
theorem dX12_puts_0 : decode cX12_puts 0 = .ok (.aload_n 0, 1) := by decide +kernel
theorem dX12_puts_1 : decode cX12_puts 1 = .ok (.getfield 13, 3) := by decide +kernel
theorem dX12_puts_4 : decode cX12_puts 4 = .ok (.sipush 400, 3) := by decide +kernel
theorem dX12_puts_7 : decode cX12_puts 7 = .ok (.aload_n 0, 1) := by decide +kernel
theorem dX12_puts_8 : decode cX12_puts 8 = .ok (.getfield 138, 3) := by decide +kernel
theorem dX12_puts_11 : decode cX12_puts 11 = .ok (.imul, 1) := by decide +kernel
theorem dX12_puts_12 : decode cX12_puts 12 = .ok (.aload_n 0, 1) := by decide +kernel
theorem dX12_puts_13 : decode cX12_puts 13 = .ok (.getfield 17, 3) := by decide +kernel
theorem dX12_puts_16 : decode cX12_puts 16 = .ok (.aload_n 0, 1) := by decide +kernel
theorem dX12_puts_17 : decode cX12_puts 17 = .ok (.getfield 138, 3) := by decide +kernel
theorem dX12_puts_20 : decode cX12_puts 20 = .ok (.iaload, 1) := by decide +kernel
theorem dX12_puts_21 : decode cX12_puts 21 = .ok (.iadd, 1) := by decide +kernel
theorem dX12_puts_22 : decode cX12_puts 22 = .ok (.iload_n 1, 1) := by decide +kernel
theorem dX12_puts_23 : decode cX12_puts 23 = .ok (.bipush 16, 2) := by decide +kernel
theorem dX12_puts_25 : decode cX12_puts 25 = .ok (.iload_n 2, 1) := by decide +kernel
theorem dX12_puts_26 : decode cX12_puts 26 = .ok (.imul, 1) := by decide +kernel
theorem dX12_puts_27 : decode cX12_puts 27 = .ok (.iadd, 1) := by decide +kernel
theorem dX12_puts_28 : decode cX12_puts 28 = .ok (.iastore, 1) := by decide +kernel
theorem dX12_puts_29 : decode cX12_puts 29 = .ok (.aload_n 0, 1) := by decide +kernel
theorem dX12_puts_30 : decode cX12_puts 30 = .ok (.getfield 17, 3) := by decide +kernel
theorem dX12_puts_33 : decode cX12_puts 33 = .ok (.aload_n 0, 1) := by decide +kernel
theorem dX12_puts_34 : decode cX12_puts 34 = .ok (.getfield 138, 3) := by decide +kernel
theorem dX12_puts_37 : decode cX12_puts 37 = .ok (.dup2, 1) := by decide +kernel
theorem dX12_puts_38 : decode cX12_puts 38 = .ok (.iaload, 1) := by decide +kernel
theorem dX12_puts_39 : decode cX12_puts 39 = .ok (.iconst 1, 1) := by decide +kernel
theorem dX12_puts_40 : decode cX12_puts 40 = .ok (.iadd, 1) := by decide +kernel
theorem dX12_puts_41 : decode cX12_puts 41 = .ok (.iastore, 1) := by decide +kernel
theorem dX12_puts_42 : decode cX12_puts 42 = .ok (.return_, 1) := by decide +kernel
theorem dX12_makes_0 : decode cX12_makes 0 = .ok (.aload_n 0, 1) := by decide +kernel
theorem dX12_makes_1 : decode cX12_makes 1 = .ok (.getfield 141, 3) := by decide +kernel
theorem dX12_makes_4 : decode cX12_makes 4 = .ok (.bipush 60, 2) := by decide +kernel
theorem dX12_makes_6 : decode cX12_makes 6 = .ok (.if_icmp .ne 10, 3) := by decide +kernel
theorem dX12_makes_9 : decode cX12_makes 9 = .ok (.aload_n 0, 1) := by decide +kernel
theorem dX12_makes_10 : decode cX12_makes 10 = .ok (.iconst 3, 1) := by decide +kernel
theorem dX12_makes_11 : decode cX12_makes 11 = .ok (.iload_n 1, 1) := by decide +kernel
theorem dX12_makes_12 : decode cX12_makes 12 = .ok (.invokevirtual 99, 3) := by decide +kernel
theorem dX12_makes_15 : decode cX12_makes 15 = .ok (.ireturn, 1) := by decide +kernel
theorem dX12_makes_16 : decode cX12_makes 16 = .ok (.aload_n 0, 1) := by decide +kernel
theorem dX12_makes_17 : decode cX12_makes 17 = .ok (.dup, 1) := by decide +kernel
theorem dX12_makes_18 : decode cX12_makes 18 = .ok (.getfield 141, 3) := by decide +kernel
theorem dX12_makes_21 : decode cX12_makes 21 = .ok (.iconst 1, 1) := by decide +kernel
theorem dX12_makes_22 : decode cX12_makes 22 = .ok (.iadd, 1) := by decide +kernel
theorem dX12_makes_23 : decode cX12_makes 23 = .ok (.putfield 141, 3) := by decide +kernel
theorem dX12_makes_26 : decode cX12_makes 26 = .ok (.iconst 1, 1) := by decide +kernel
theorem dX12_makes_27 : decode cX12_makes 27 = .ok (.ireturn, 1) := by decide +kernel
theorem dX12_opens_0 : decode cX12_opens 0 = .ok (.aload_n 0, 1) := by decide +kernel
theorem dX12_opens_1 : decode cX12_opens 1 = .ok (.getfield 144, 3) := by decide +kernel
theorem dX12_opens_4 : decode cX12_opens 4 = .ok (.bipush 10, 2) := by decide +kernel
theorem dX12_opens_6 : decode cX12_opens 6 = .ok (.if_icmp .ne 13, 3) := by decide +kernel
theorem dX12_opens_9 : decode cX12_opens 9 = .ok (.aload_n 0, 1) := by decide +kernel
theorem dX12_opens_10 : decode cX12_opens 10 = .ok (.iconst 2, 1) := by decide +kernel
theorem dX12_opens_11 : decode cX12_opens 11 = .ok (.aload_n 0, 1) := by decide +kernel
theorem dX12_opens_12 : decode cX12_opens 12 = .ok (.getfield 78, 3) := by decide +kernel
theorem dX12_opens_15 : decode cX12_opens 15 = .ok (.invokevirtual 99, 3) := by decide +kernel
theorem dX12_opens_18 : decode cX12_opens 18 = .ok (.ireturn, 1) := by decide +kernel
theorem dX12_opens_19 : decode cX12_opens 19 = .ok (.aload_n 0, 1) := by decide +kernel
theorem dX12_opens_20 : decode cX12_opens 20 = .ok (.dup, 1) := by decide +kernel
theorem dX12_opens_21 : decode cX12_opens 21 = .ok (.getfield 144, 3) := by decide +kernel
theorem dX12_opens_24 : decode cX12_opens 24 = .ok (.iconst 1, 1) := by decide +kernel
theorem dX12_opens_25 : decode cX12_opens 25 = .ok (.iadd, 1) := by decide +kernel
theorem dX12_opens_26 : decode cX12_opens 26 = .ok (.putfield 144, 3) := by decide +kernel
theorem dX12_opens_29 : decode cX12_opens 29 = .ok (.aload_n 0, 1) := by decide +kernel
theorem dX12_opens_30 : decode cX12_opens 30 = .ok (.getfield 29, 3) := by decide +kernel
theorem dX12_opens_33 : decode cX12_opens 33 = .ok (.aload_n 0, 1) := by decide +kernel
theorem dX12_opens_34 : decode cX12_opens 34 = .ok (.getfield 147, 3) := by decide +kernel
theorem dX12_opens_37 : decode cX12_opens 37 = .ok (.iload_n 1, 1) := by decide +kernel
theorem dX12_opens_38 : decode cX12_opens 38 = .ok (.iastore, 1) := by decide +kernel
theorem dX12_opens_39 : decode cX12_opens 39 = .ok (.aload_n 0, 1) := by decide +kernel
theorem dX12_opens_40 : decode cX12_opens 40 = .ok (.dup, 1) := by decide +kernel
theorem dX12_opens_41 : decode cX12_opens 41 = .ok (.getfield 147, 3) := by decide +kernel
theorem dX12_opens_44 : decode cX12_opens 44 = .ok (.iconst 1, 1) := by decide +kernel
theorem dX12_opens_45 : decode cX12_opens 45 = .ok (.iadd, 1) := by decide +kernel
theorem dX12_opens_46 : decode cX12_opens 46 = .ok (.putfield 147, 3) := by decide +kernel
theorem dX12_opens_49 : decode cX12_opens 49 = .ok (.iconst 1, 1) := by decide +kernel
theorem dX12_opens_50 : decode cX12_opens 50 = .ok (.ireturn, 1) := by decide +kernel
theorem dX12_strength_0 : decode cX12_strength 0 = .ok (.iload_n 0, 1) := by decide +kernel
theorem dX12_strength_1 : decode cX12_strength 1 = .ok (.bipush 13, 2) := by decide +kernel
theorem dX12_strength_3 : decode cX12_strength 3 = .ok (.if_icmp .ne 7, 3) := by decide +kernel
theorem dX12_strength_6 : decode cX12_strength 6 = .ok (.iconst 1, 1) := by decide +kernel
theorem dX12_strength_7 : decode cX12_strength 7 = .ok (.goto 24, 3) := by decide +kernel
theorem dX12_strength_10 : decode cX12_strength 10 = .ok (.iload_n 0, 1) := by decide +kernel
theorem dX12_strength_11 : decode cX12_strength 11 = .ok (.bipush 12, 2) := by decide +kernel
theorem dX12_strength_13 : decode cX12_strength 13 = .ok (.if_icmp .ne 7, 3) := by decide +kernel
theorem dX12_strength_16 : decode cX12_strength 16 = .ok (.iconst 2, 1) := by decide +kernel
theorem dX12_strength_17 : decode cX12_strength 17 = .ok (.goto 14, 3) := by decide +kernel
theorem dX12_strength_20 : decode cX12_strength 20 = .ok (.iload_n 0, 1) := by decide +kernel
theorem dX12_strength_21 : decode cX12_strength 21 = .ok (.bipush 11, 2) := by decide +kernel
theorem dX12_strength_23 : decode cX12_strength 23 = .ok (.if_icmp .ne 7, 3) := by decide +kernel
theorem dX12_strength_26 : decode cX12_strength 26 = .ok (.iconst 3, 1) := by decide +kernel
theorem dX12_strength_27 : decode cX12_strength 27 = .ok (.goto 4, 3) := by decide +kernel
theorem dX12_strength_30 : decode cX12_strength 30 = .ok (.iconst 0, 1) := by decide +kernel
theorem dX12_strength_31 : decode cX12_strength 31 = .ok (.ireturn, 1) := by decide +kernel
theorem dX12_settles_0 : decode cX12_settles 0 = .ok (.aload_n 0, 1) := by decide +kernel
theorem dX12_settles_1 : decode cX12_settles 1 = .ok (.getfield 147, 3) := by decide +kernel
theorem dX12_settles_4 : decode cX12_settles 4 = .ok (.ifCond .le 72, 3) := by decide +kernel
theorem dX12_settles_7 : decode cX12_settles 7 = .ok (.aload_n 0, 1) := by decide +kernel
theorem dX12_settles_8 : decode cX12_settles 8 = .ok (.getfield 29, 3) := by decide +kernel
theorem dX12_settles_11 : decode cX12_settles 11 = .ok (.aload_n 0, 1) := by decide +kernel
theorem dX12_settles_12 : decode cX12_settles 12 = .ok (.getfield 147, 3) := by decide +kernel
theorem dX12_settles_15 : decode cX12_settles 15 = .ok (.iconst 1, 1) := by decide +kernel
theorem dX12_settles_16 : decode cX12_settles 16 = .ok (.isub, 1) := by decide +kernel
theorem dX12_settles_17 : decode cX12_settles 17 = .ok (.iaload, 1) := by decide +kernel
theorem dX12_settles_18 : decode cX12_settles 18 = .ok (.invokestatic 150, 3) := by decide +kernel
theorem dX12_settles_21 : decode cX12_settles 21 = .ok (.iload_n 1, 1) := by decide +kernel
theorem dX12_settles_22 : decode cX12_settles 22 = .ok (.if_icmp .lt 54, 3) := by decide +kernel
theorem dX12_settles_25 : decode cX12_settles 25 = .ok (.aload_n 0, 1) := by decide +kernel
theorem dX12_settles_26 : decode cX12_settles 26 = .ok (.dup, 1) := by decide +kernel
theorem dX12_settles_27 : decode cX12_settles 27 = .ok (.getfield 147, 3) := by decide +kernel
theorem dX12_settles_30 : decode cX12_settles 30 = .ok (.iconst 1, 1) := by decide +kernel
theorem dX12_settles_31 : decode cX12_settles 31 = .ok (.isub, 1) := by decide +kernel
theorem dX12_settles_32 : decode cX12_settles 32 = .ok (.putfield 147, 3) := by decide +kernel
theorem dX12_settles_35 : decode cX12_settles 35 = .ok (.aload_n 0, 1) := by decide +kernel
theorem dX12_settles_36 : decode cX12_settles 36 = .ok (.aload_n 0, 1) := by decide +kernel
theorem dX12_settles_37 : decode cX12_settles 37 = .ok (.getfield 29, 3) := by decide +kernel
theorem dX12_settles_40 : decode cX12_settles 40 = .ok (.aload_n 0, 1) := by decide +kernel
theorem dX12_settles_41 : decode cX12_settles 41 = .ok (.getfield 147, 3) := by decide +kernel
theorem dX12_settles_44 : decode cX12_settles 44 = .ok (.iaload, 1) := by decide +kernel
theorem dX12_settles_45 : decode cX12_settles 45 = .ok (.iconst 0, 1) := by decide +kernel
theorem dX12_settles_46 : decode cX12_settles 46 = .ok (.invokevirtual 154, 3) := by decide +kernel
theorem dX12_settles_49 : decode cX12_settles 49 = .ok (.aload_n 0, 1) := by decide +kernel
theorem dX12_settles_50 : decode cX12_settles 50 = .ok (.getfield 29, 3) := by decide +kernel
theorem dX12_settles_53 : decode cX12_settles 53 = .ok (.aload_n 0, 1) := by decide +kernel
theorem dX12_settles_54 : decode cX12_settles 54 = .ok (.getfield 147, 3) := by decide +kernel
theorem dX12_settles_57 : decode cX12_settles 57 = .ok (.iaload, 1) := by decide +kernel
theorem dX12_settles_58 : decode cX12_settles 58 = .ok (.bipush 11, 2) := by decide +kernel
theorem dX12_settles_60 : decode cX12_settles 60 = .ok (.if_icmp .ne (-60), 3) := by decide +kernel
theorem dX12_settles_63 : decode cX12_settles 63 = .ok (.aload_n 0, 1) := by decide +kernel
theorem dX12_settles_64 : decode cX12_settles 64 = .ok (.dup, 1) := by decide +kernel
theorem dX12_settles_65 : decode cX12_settles 65 = .ok (.getfield 144, 3) := by decide +kernel
theorem dX12_settles_68 : decode cX12_settles 68 = .ok (.iconst 1, 1) := by decide +kernel
theorem dX12_settles_69 : decode cX12_settles 69 = .ok (.isub, 1) := by decide +kernel
theorem dX12_settles_70 : decode cX12_settles 70 = .ok (.putfield 144, 3) := by decide +kernel
theorem dX12_settles_73 : decode cX12_settles 73 = .ok (.goto (-73), 3) := by decide +kernel
theorem dX12_settles_76 : decode cX12_settles 76 = .ok (.return_, 1) := by decide +kernel
theorem dX12_value_0 : decode cX12_value 0 = .ok (.aload_n 0, 1) := by decide +kernel
theorem dX12_value_1 : decode cX12_value 1 = .ok (.invokevirtual 81, 3) := by decide +kernel
theorem dX12_value_4 : decode cX12_value 4 = .ok (.pop, 1) := by decide +kernel
theorem dX12_value_5 : decode cX12_value 5 = .ok (.aload_n 0, 1) := by decide +kernel
theorem dX12_value_6 : decode cX12_value 6 = .ok (.getfield 78, 3) := by decide +kernel
theorem dX12_value_9 : decode cX12_value 9 = .ok (.istore_n 1, 1) := by decide +kernel
theorem dX12_value_10 : decode cX12_value 10 = .ok (.aload_n 0, 1) := by decide +kernel
theorem dX12_value_11 : decode cX12_value 11 = .ok (.aload_n 0, 1) := by decide +kernel
theorem dX12_value_12 : decode cX12_value 12 = .ok (.getfield 78, 3) := by decide +kernel
theorem dX12_value_15 : decode cX12_value 15 = .ok (.invokevirtual 96, 3) := by decide +kernel
theorem dX12_value_18 : decode cX12_value 18 = .ok (.ifCond .eq 34, 3) := by decide +kernel
theorem dX12_value_21 : decode cX12_value 21 = .ok (.aload_n 0, 1) := by decide +kernel
theorem dX12_value_22 : decode cX12_value 22 = .ok (.iconst 0, 1) := by decide +kernel
theorem dX12_value_23 : decode cX12_value 23 = .ok (.ldc 158, 2) := by decide +kernel
theorem dX12_value_25 : decode cX12_value 25 = .ok (.invokevirtual 159, 3) := by decide +kernel
theorem dX12_value_28 : decode cX12_value 28 = .ok (.ifCond .eq 11, 3) := by decide +kernel
theorem dX12_value_31 : decode cX12_value 31 = .ok (.aload_n 0, 1) := by decide +kernel
theorem dX12_value_32 : decode cX12_value 32 = .ok (.iload_n 1, 1) := by decide +kernel
theorem dX12_value_33 : decode cX12_value 33 = .ok (.invokevirtual 162, 3) := by decide +kernel
theorem dX12_value_36 : decode cX12_value 36 = .ok (.ifCond .ne 5, 3) := by decide +kernel
theorem dX12_value_39 : decode cX12_value 39 = .ok (.iconst 0, 1) := by decide +kernel
theorem dX12_value_40 : decode cX12_value 40 = .ok (.ireturn, 1) := by decide +kernel
theorem dX12_value_41 : decode cX12_value 41 = .ok (.aload_n 0, 1) := by decide +kernel
theorem dX12_value_42 : decode cX12_value 42 = .ok (.iconst 0, 1) := by decide +kernel
theorem dX12_value_43 : decode cX12_value 43 = .ok (.aload_n 0, 1) := by decide +kernel
theorem dX12_value_44 : decode cX12_value 44 = .ok (.getfield 103, 3) := by decide +kernel
theorem dX12_value_47 : decode cX12_value 47 = .ok (.invokevirtual 154, 3) := by decide +kernel
theorem dX12_value_50 : decode cX12_value 50 = .ok (.iconst 1, 1) := by decide +kernel
theorem dX12_value_51 : decode cX12_value 51 = .ok (.ireturn, 1) := by decide +kernel
theorem dX12_value_52 : decode cX12_value 52 = .ok (.aload_n 0, 1) := by decide +kernel
theorem dX12_value_53 : decode cX12_value 53 = .ok (.invokevirtual 165, 3) := by decide +kernel
theorem dX12_value_56 : decode cX12_value 56 = .ok (.istore_n 2, 1) := by decide +kernel
theorem dX12_value_57 : decode cX12_value 57 = .ok (.iload_n 2, 1) := by decide +kernel
theorem dX12_value_58 : decode cX12_value 58 = .ok (.ifCond .ge 10, 3) := by decide +kernel
theorem dX12_value_61 : decode cX12_value 61 = .ok (.aload_n 0, 1) := by decide +kernel
theorem dX12_value_62 : decode cX12_value 62 = .ok (.iconst 0, 1) := by decide +kernel
theorem dX12_value_63 : decode cX12_value 63 = .ok (.iload_n 1, 1) := by decide +kernel
theorem dX12_value_64 : decode cX12_value 64 = .ok (.invokevirtual 99, 3) := by decide +kernel
theorem dX12_value_67 : decode cX12_value 67 = .ok (.ireturn, 1) := by decide +kernel
theorem dX12_value_68 : decode cX12_value 68 = .ok (.aload_n 0, 1) := by decide +kernel
theorem dX12_value_69 : decode cX12_value 69 = .ok (.iload_n 1, 1) := by decide +kernel
theorem dX12_value_70 : decode cX12_value 70 = .ok (.invokevirtual 162, 3) := by decide +kernel
theorem dX12_value_73 : decode cX12_value 73 = .ok (.ifCond .ne 5, 3) := by decide +kernel
theorem dX12_value_76 : decode cX12_value 76 = .ok (.iconst 0, 1) := by decide +kernel
theorem dX12_value_77 : decode cX12_value 77 = .ok (.ireturn, 1) := by decide +kernel
theorem dX12_value_78 : decode cX12_value 78 = .ok (.aload_n 0, 1) := by decide +kernel
theorem dX12_value_79 : decode cX12_value 79 = .ok (.invokevirtual 93, 3) := by decide +kernel
theorem dX12_value_82 : decode cX12_value 82 = .ok (.aload_n 0, 1) := by decide +kernel
theorem dX12_value_83 : decode cX12_value 83 = .ok (.iconst 1, 1) := by decide +kernel
theorem dX12_value_84 : decode cX12_value 84 = .ok (.iload_n 2, 1) := by decide +kernel
theorem dX12_value_85 : decode cX12_value 85 = .ok (.invokevirtual 154, 3) := by decide +kernel
theorem dX12_value_88 : decode cX12_value 88 = .ok (.iconst 1, 1) := by decide +kernel
theorem dX12_value_89 : decode cX12_value 89 = .ok (.ireturn, 1) := by decide +kernel
theorem dX12_term_0 : decode cX12_term 0 = .ok (.aload_n 0, 1) := by decide +kernel
theorem dX12_term_1 : decode cX12_term 1 = .ok (.invokevirtual 168, 3) := by decide +kernel
theorem dX12_term_4 : decode cX12_term 4 = .ok (.ifCond .ne 5, 3) := by decide +kernel
theorem dX12_term_7 : decode cX12_term 7 = .ok (.iconst 0, 1) := by decide +kernel
theorem dX12_term_8 : decode cX12_term 8 = .ok (.ireturn, 1) := by decide +kernel
theorem dX12_term_9 : decode cX12_term 9 = .ok (.aload_n 0, 1) := by decide +kernel
theorem dX12_term_10 : decode cX12_term 10 = .ok (.invokevirtual 81, 3) := by decide +kernel
theorem dX12_term_13 : decode cX12_term 13 = .ok (.bipush 42, 2) := by decide +kernel
theorem dX12_term_15 : decode cX12_term 15 = .ok (.if_icmp .eq 21, 3) := by decide +kernel
theorem dX12_term_18 : decode cX12_term 18 = .ok (.aload_n 0, 1) := by decide +kernel
theorem dX12_term_19 : decode cX12_term 19 = .ok (.invokevirtual 81, 3) := by decide +kernel
theorem dX12_term_22 : decode cX12_term 22 = .ok (.bipush 47, 2) := by decide +kernel
theorem dX12_term_24 : decode cX12_term 24 = .ok (.if_icmp .eq 12, 3) := by decide +kernel
theorem dX12_term_27 : decode cX12_term 27 = .ok (.aload_n 0, 1) := by decide +kernel
theorem dX12_term_28 : decode cX12_term 28 = .ok (.invokevirtual 81, 3) := by decide +kernel
theorem dX12_term_31 : decode cX12_term 31 = .ok (.bipush 37, 2) := by decide +kernel
theorem dX12_term_33 : decode cX12_term 33 = .ok (.if_icmp .ne 70, 3) := by decide +kernel
theorem dX12_term_36 : decode cX12_term 36 = .ok (.aload_n 0, 1) := by decide +kernel
theorem dX12_term_37 : decode cX12_term 37 = .ok (.getfield 7, 3) := by decide +kernel
theorem dX12_term_40 : decode cX12_term 40 = .ok (.aload_n 0, 1) := by decide +kernel
theorem dX12_term_41 : decode cX12_term 41 = .ok (.getfield 78, 3) := by decide +kernel
theorem dX12_term_44 : decode cX12_term 44 = .ok (.baload, 1) := by decide +kernel
theorem dX12_term_45 : decode cX12_term 45 = .ok (.bipush 42, 2) := by decide +kernel
theorem dX12_term_47 : decode cX12_term 47 = .ok (.if_icmp .ne 7, 3) := by decide +kernel
theorem dX12_term_50 : decode cX12_term 50 = .ok (.iconst 4, 1) := by decide +kernel
theorem dX12_term_51 : decode cX12_term 51 = .ok (.goto 23, 3) := by decide +kernel
theorem dX12_term_54 : decode cX12_term 54 = .ok (.aload_n 0, 1) := by decide +kernel
theorem dX12_term_55 : decode cX12_term 55 = .ok (.getfield 7, 3) := by decide +kernel
theorem dX12_term_58 : decode cX12_term 58 = .ok (.aload_n 0, 1) := by decide +kernel
theorem dX12_term_59 : decode cX12_term 59 = .ok (.getfield 78, 3) := by decide +kernel
theorem dX12_term_62 : decode cX12_term 62 = .ok (.baload, 1) := by decide +kernel
theorem dX12_term_63 : decode cX12_term 63 = .ok (.bipush 47, 2) := by decide +kernel
theorem dX12_term_65 : decode cX12_term 65 = .ok (.if_icmp .ne 7, 3) := by decide +kernel
theorem dX12_term_68 : decode cX12_term 68 = .ok (.iconst 5, 1) := by decide +kernel
theorem dX12_term_69 : decode cX12_term 69 = .ok (.goto 5, 3) := by decide +kernel
theorem dX12_term_72 : decode cX12_term 72 = .ok (.bipush 14, 2) := by decide +kernel
theorem dX12_term_74 : decode cX12_term 74 = .ok (.istore_n 1, 1) := by decide +kernel
theorem dX12_term_75 : decode cX12_term 75 = .ok (.aload_n 0, 1) := by decide +kernel
theorem dX12_term_76 : decode cX12_term 76 = .ok (.dup, 1) := by decide +kernel
theorem dX12_term_77 : decode cX12_term 77 = .ok (.getfield 78, 3) := by decide +kernel
theorem dX12_term_80 : decode cX12_term 80 = .ok (.iconst 1, 1) := by decide +kernel
theorem dX12_term_81 : decode cX12_term 81 = .ok (.iadd, 1) := by decide +kernel
theorem dX12_term_82 : decode cX12_term 82 = .ok (.putfield 78, 3) := by decide +kernel
theorem dX12_term_85 : decode cX12_term 85 = .ok (.aload_n 0, 1) := by decide +kernel
theorem dX12_term_86 : decode cX12_term 86 = .ok (.invokevirtual 168, 3) := by decide +kernel
theorem dX12_term_89 : decode cX12_term 89 = .ok (.ifCond .ne 5, 3) := by decide +kernel
theorem dX12_term_92 : decode cX12_term 92 = .ok (.iconst 0, 1) := by decide +kernel
theorem dX12_term_93 : decode cX12_term 93 = .ok (.ireturn, 1) := by decide +kernel
theorem dX12_term_94 : decode cX12_term 94 = .ok (.aload_n 0, 1) := by decide +kernel
theorem dX12_term_95 : decode cX12_term 95 = .ok (.iload_n 1, 1) := by decide +kernel
theorem dX12_term_96 : decode cX12_term 96 = .ok (.iconst 0, 1) := by decide +kernel
theorem dX12_term_97 : decode cX12_term 97 = .ok (.invokevirtual 154, 3) := by decide +kernel
theorem dX12_term_100 : decode cX12_term 100 = .ok (.goto (-91), 3) := by decide +kernel
theorem dX12_term_103 : decode cX12_term 103 = .ok (.iconst 1, 1) := by decide +kernel
theorem dX12_term_104 : decode cX12_term 104 = .ok (.ireturn, 1) := by decide +kernel
theorem dX12_sum_0 : decode cX12_sum 0 = .ok (.aload_n 0, 1) := by decide +kernel
theorem dX12_sum_1 : decode cX12_sum 1 = .ok (.invokevirtual 172, 3) := by decide +kernel
theorem dX12_sum_4 : decode cX12_sum 4 = .ok (.ifCond .ne 5, 3) := by decide +kernel
theorem dX12_sum_7 : decode cX12_sum 7 = .ok (.iconst 0, 1) := by decide +kernel
theorem dX12_sum_8 : decode cX12_sum 8 = .ok (.ireturn, 1) := by decide +kernel
theorem dX12_sum_9 : decode cX12_sum 9 = .ok (.aload_n 0, 1) := by decide +kernel
theorem dX12_sum_10 : decode cX12_sum 10 = .ok (.invokevirtual 81, 3) := by decide +kernel
theorem dX12_sum_13 : decode cX12_sum 13 = .ok (.bipush 43, 2) := by decide +kernel
theorem dX12_sum_15 : decode cX12_sum 15 = .ok (.if_icmp .eq 12, 3) := by decide +kernel
theorem dX12_sum_18 : decode cX12_sum 18 = .ok (.aload_n 0, 1) := by decide +kernel
theorem dX12_sum_19 : decode cX12_sum 19 = .ok (.invokevirtual 81, 3) := by decide +kernel
theorem dX12_sum_22 : decode cX12_sum 22 = .ok (.bipush 45, 2) := by decide +kernel
theorem dX12_sum_24 : decode cX12_sum 24 = .ok (.if_icmp .ne 51, 3) := by decide +kernel
theorem dX12_sum_27 : decode cX12_sum 27 = .ok (.aload_n 0, 1) := by decide +kernel
theorem dX12_sum_28 : decode cX12_sum 28 = .ok (.getfield 7, 3) := by decide +kernel
theorem dX12_sum_31 : decode cX12_sum 31 = .ok (.aload_n 0, 1) := by decide +kernel
theorem dX12_sum_32 : decode cX12_sum 32 = .ok (.getfield 78, 3) := by decide +kernel
theorem dX12_sum_35 : decode cX12_sum 35 = .ok (.baload, 1) := by decide +kernel
theorem dX12_sum_36 : decode cX12_sum 36 = .ok (.bipush 43, 2) := by decide +kernel
theorem dX12_sum_38 : decode cX12_sum 38 = .ok (.if_icmp .ne 7, 3) := by decide +kernel
theorem dX12_sum_41 : decode cX12_sum 41 = .ok (.iconst 2, 1) := by decide +kernel
theorem dX12_sum_42 : decode cX12_sum 42 = .ok (.goto 4, 3) := by decide +kernel
theorem dX12_sum_45 : decode cX12_sum 45 = .ok (.iconst 3, 1) := by decide +kernel
theorem dX12_sum_46 : decode cX12_sum 46 = .ok (.istore_n 1, 1) := by decide +kernel
theorem dX12_sum_47 : decode cX12_sum 47 = .ok (.aload_n 0, 1) := by decide +kernel
theorem dX12_sum_48 : decode cX12_sum 48 = .ok (.dup, 1) := by decide +kernel
theorem dX12_sum_49 : decode cX12_sum 49 = .ok (.getfield 78, 3) := by decide +kernel
theorem dX12_sum_52 : decode cX12_sum 52 = .ok (.iconst 1, 1) := by decide +kernel
theorem dX12_sum_53 : decode cX12_sum 53 = .ok (.iadd, 1) := by decide +kernel
theorem dX12_sum_54 : decode cX12_sum 54 = .ok (.putfield 78, 3) := by decide +kernel
theorem dX12_sum_57 : decode cX12_sum 57 = .ok (.aload_n 0, 1) := by decide +kernel
theorem dX12_sum_58 : decode cX12_sum 58 = .ok (.invokevirtual 172, 3) := by decide +kernel
theorem dX12_sum_61 : decode cX12_sum 61 = .ok (.ifCond .ne 5, 3) := by decide +kernel
theorem dX12_sum_64 : decode cX12_sum 64 = .ok (.iconst 0, 1) := by decide +kernel
theorem dX12_sum_65 : decode cX12_sum 65 = .ok (.ireturn, 1) := by decide +kernel
theorem dX12_sum_66 : decode cX12_sum 66 = .ok (.aload_n 0, 1) := by decide +kernel
theorem dX12_sum_67 : decode cX12_sum 67 = .ok (.iload_n 1, 1) := by decide +kernel
theorem dX12_sum_68 : decode cX12_sum 68 = .ok (.iconst 0, 1) := by decide +kernel
theorem dX12_sum_69 : decode cX12_sum 69 = .ok (.invokevirtual 154, 3) := by decide +kernel
theorem dX12_sum_72 : decode cX12_sum 72 = .ok (.goto (-63), 3) := by decide +kernel
theorem dX12_sum_75 : decode cX12_sum 75 = .ok (.iconst 1, 1) := by decide +kernel
theorem dX12_sum_76 : decode cX12_sum 76 = .ok (.ireturn, 1) := by decide +kernel
theorem dX12_compare_0 : decode cX12_compare 0 = .ok (.aload_n 0, 1) := by decide +kernel
theorem dX12_compare_1 : decode cX12_compare 1 = .ok (.invokevirtual 175, 3) := by decide +kernel
theorem dX12_compare_4 : decode cX12_compare 4 = .ok (.ifCond .ne 5, 3) := by decide +kernel
theorem dX12_compare_7 : decode cX12_compare 7 = .ok (.iconst 0, 1) := by decide +kernel
theorem dX12_compare_8 : decode cX12_compare 8 = .ok (.ireturn, 1) := by decide +kernel
theorem dX12_compare_9 : decode cX12_compare 9 = .ok (.aload_n 0, 1) := by decide +kernel
theorem dX12_compare_10 : decode cX12_compare 10 = .ok (.invokevirtual 81, 3) := by decide +kernel
theorem dX12_compare_13 : decode cX12_compare 13 = .ok (.istore_n 1, 1) := by decide +kernel
theorem dX12_compare_14 : decode cX12_compare 14 = .ok (.aload_n 0, 1) := by decide +kernel
theorem dX12_compare_15 : decode cX12_compare 15 = .ok (.getfield 78, 3) := by decide +kernel
theorem dX12_compare_18 : decode cX12_compare 18 = .ok (.istore_n 2, 1) := by decide +kernel
theorem dX12_compare_19 : decode cX12_compare 19 = .ok (.iload_n 1, 1) := by decide +kernel
theorem dX12_compare_20 : decode cX12_compare 20 = .ok (.bipush 60, 2) := by decide +kernel
theorem dX12_compare_22 : decode cX12_compare 22 = .ok (.if_icmp .eq 22, 3) := by decide +kernel
theorem dX12_compare_25 : decode cX12_compare 25 = .ok (.iload_n 1, 1) := by decide +kernel
theorem dX12_compare_26 : decode cX12_compare 26 = .ok (.bipush 61, 2) := by decide +kernel
theorem dX12_compare_28 : decode cX12_compare 28 = .ok (.if_icmp .eq 16, 3) := by decide +kernel
theorem dX12_compare_31 : decode cX12_compare 31 = .ok (.iload_n 1, 1) := by decide +kernel
theorem dX12_compare_32 : decode cX12_compare 32 = .ok (.bipush 62, 2) := by decide +kernel
theorem dX12_compare_34 : decode cX12_compare 34 = .ok (.if_icmp .eq 10, 3) := by decide +kernel
theorem dX12_compare_37 : decode cX12_compare 37 = .ok (.aload_n 0, 1) := by decide +kernel
theorem dX12_compare_38 : decode cX12_compare 38 = .ok (.iconst 0, 1) := by decide +kernel
theorem dX12_compare_39 : decode cX12_compare 39 = .ok (.iload_n 2, 1) := by decide +kernel
theorem dX12_compare_40 : decode cX12_compare 40 = .ok (.invokevirtual 99, 3) := by decide +kernel
theorem dX12_compare_43 : decode cX12_compare 43 = .ok (.ireturn, 1) := by decide +kernel
theorem dX12_compare_44 : decode cX12_compare 44 = .ok (.aload_n 0, 1) := by decide +kernel
theorem dX12_compare_45 : decode cX12_compare 45 = .ok (.dup, 1) := by decide +kernel
theorem dX12_compare_46 : decode cX12_compare 46 = .ok (.getfield 78, 3) := by decide +kernel
theorem dX12_compare_49 : decode cX12_compare 49 = .ok (.iconst 1, 1) := by decide +kernel
theorem dX12_compare_50 : decode cX12_compare 50 = .ok (.iadd, 1) := by decide +kernel
theorem dX12_compare_51 : decode cX12_compare 51 = .ok (.putfield 78, 3) := by decide +kernel
theorem dX12_compare_54 : decode cX12_compare 54 = .ok (.iload_n 1, 1) := by decide +kernel
theorem dX12_compare_55 : decode cX12_compare 55 = .ok (.bipush 61, 2) := by decide +kernel
theorem dX12_compare_57 : decode cX12_compare 57 = .ok (.if_icmp .eq 32, 3) := by decide +kernel
theorem dX12_compare_60 : decode cX12_compare 60 = .ok (.aload_n 0, 1) := by decide +kernel
theorem dX12_compare_61 : decode cX12_compare 61 = .ok (.getfield 78, 3) := by decide +kernel
theorem dX12_compare_64 : decode cX12_compare 64 = .ok (.aload_n 0, 1) := by decide +kernel
theorem dX12_compare_65 : decode cX12_compare 65 = .ok (.getfield 68, 3) := by decide +kernel
theorem dX12_compare_68 : decode cX12_compare 68 = .ok (.if_icmp .ge 21, 3) := by decide +kernel
theorem dX12_compare_71 : decode cX12_compare 71 = .ok (.aload_n 0, 1) := by decide +kernel
theorem dX12_compare_72 : decode cX12_compare 72 = .ok (.getfield 7, 3) := by decide +kernel
theorem dX12_compare_75 : decode cX12_compare 75 = .ok (.aload_n 0, 1) := by decide +kernel
theorem dX12_compare_76 : decode cX12_compare 76 = .ok (.getfield 78, 3) := by decide +kernel
theorem dX12_compare_79 : decode cX12_compare 79 = .ok (.baload, 1) := by decide +kernel
theorem dX12_compare_80 : decode cX12_compare 80 = .ok (.bipush 61, 2) := by decide +kernel
theorem dX12_compare_82 : decode cX12_compare 82 = .ok (.if_icmp .ne 7, 3) := by decide +kernel
theorem dX12_compare_85 : decode cX12_compare 85 = .ok (.iconst 1, 1) := by decide +kernel
theorem dX12_compare_86 : decode cX12_compare 86 = .ok (.goto 4, 3) := by decide +kernel
theorem dX12_compare_89 : decode cX12_compare 89 = .ok (.iconst 0, 1) := by decide +kernel
theorem dX12_compare_90 : decode cX12_compare 90 = .ok (.istore_n 3, 1) := by decide +kernel
theorem dX12_compare_91 : decode cX12_compare 91 = .ok (.iload_n 3, 1) := by decide +kernel
theorem dX12_compare_92 : decode cX12_compare 92 = .ok (.ifCond .eq 13, 3) := by decide +kernel
theorem dX12_compare_95 : decode cX12_compare 95 = .ok (.aload_n 0, 1) := by decide +kernel
theorem dX12_compare_96 : decode cX12_compare 96 = .ok (.dup, 1) := by decide +kernel
theorem dX12_compare_97 : decode cX12_compare 97 = .ok (.getfield 78, 3) := by decide +kernel
theorem dX12_compare_100 : decode cX12_compare 100 = .ok (.iconst 1, 1) := by decide +kernel
theorem dX12_compare_101 : decode cX12_compare 101 = .ok (.iadd, 1) := by decide +kernel
theorem dX12_compare_102 : decode cX12_compare 102 = .ok (.putfield 78, 3) := by decide +kernel
theorem dX12_compare_105 : decode cX12_compare 105 = .ok (.aload_n 0, 1) := by decide +kernel
theorem dX12_compare_106 : decode cX12_compare 106 = .ok (.iload_n 2, 1) := by decide +kernel
theorem dX12_compare_107 : decode cX12_compare 107 = .ok (.invokevirtual 162, 3) := by decide +kernel
theorem dX12_compare_110 : decode cX12_compare 110 = .ok (.ifCond .ne 5, 3) := by decide +kernel
theorem dX12_compare_113 : decode cX12_compare 113 = .ok (.iconst 0, 1) := by decide +kernel
theorem dX12_compare_114 : decode cX12_compare 114 = .ok (.ireturn, 1) := by decide +kernel
theorem dX12_compare_115 : decode cX12_compare 115 = .ok (.iload_n 1, 1) := by decide +kernel
theorem dX12_compare_116 : decode cX12_compare 116 = .ok (.bipush 60, 2) := by decide +kernel
theorem dX12_compare_118 : decode cX12_compare 118 = .ok (.if_icmp .ne 15, 3) := by decide +kernel
theorem dX12_compare_121 : decode cX12_compare 121 = .ok (.iload_n 3, 1) := by decide +kernel
theorem dX12_compare_122 : decode cX12_compare 122 = .ok (.ifCond .eq 7, 3) := by decide +kernel
theorem dX12_compare_125 : decode cX12_compare 125 = .ok (.iconst 1, 1) := by decide +kernel
theorem dX12_compare_126 : decode cX12_compare 126 = .ok (.goto 26, 3) := by decide +kernel
theorem dX12_compare_129 : decode cX12_compare 129 = .ok (.iconst 0, 1) := by decide +kernel
theorem dX12_compare_130 : decode cX12_compare 130 = .ok (.goto 22, 3) := by decide +kernel
theorem dX12_compare_133 : decode cX12_compare 133 = .ok (.iload_n 1, 1) := by decide +kernel
theorem dX12_compare_134 : decode cX12_compare 134 = .ok (.bipush 61, 2) := by decide +kernel
theorem dX12_compare_136 : decode cX12_compare 136 = .ok (.if_icmp .ne 7, 3) := by decide +kernel
theorem dX12_compare_139 : decode cX12_compare 139 = .ok (.iconst 2, 1) := by decide +kernel
theorem dX12_compare_140 : decode cX12_compare 140 = .ok (.goto 12, 3) := by decide +kernel
theorem dX12_compare_143 : decode cX12_compare 143 = .ok (.iload_n 3, 1) := by decide +kernel
theorem dX12_compare_144 : decode cX12_compare 144 = .ok (.ifCond .eq 7, 3) := by decide +kernel
theorem dX12_compare_147 : decode cX12_compare 147 = .ok (.iconst 3, 1) := by decide +kernel
theorem dX12_compare_148 : decode cX12_compare 148 = .ok (.goto 4, 3) := by decide +kernel
theorem dX12_compare_151 : decode cX12_compare 151 = .ok (.iconst 4, 1) := by decide +kernel
theorem dX12_compare_152 : decode cX12_compare 152 = .ok (.istore 4, 2) := by decide +kernel
theorem dX12_compare_154 : decode cX12_compare 154 = .ok (.aload_n 0, 1) := by decide +kernel
theorem dX12_compare_155 : decode cX12_compare 155 = .ok (.invokevirtual 175, 3) := by decide +kernel
theorem dX12_compare_158 : decode cX12_compare 158 = .ok (.ifCond .ne 5, 3) := by decide +kernel
theorem dX12_compare_161 : decode cX12_compare 161 = .ok (.iconst 0, 1) := by decide +kernel
theorem dX12_compare_162 : decode cX12_compare 162 = .ok (.ireturn, 1) := by decide +kernel
theorem dX12_compare_163 : decode cX12_compare 163 = .ok (.aload_n 0, 1) := by decide +kernel
theorem dX12_compare_164 : decode cX12_compare 164 = .ok (.bipush 6, 2) := by decide +kernel
theorem dX12_compare_166 : decode cX12_compare 166 = .ok (.iload 4, 2) := by decide +kernel
theorem dX12_compare_168 : decode cX12_compare 168 = .ok (.iadd, 1) := by decide +kernel
theorem dX12_compare_169 : decode cX12_compare 169 = .ok (.iconst 0, 1) := by decide +kernel
theorem dX12_compare_170 : decode cX12_compare 170 = .ok (.invokevirtual 154, 3) := by decide +kernel
theorem dX12_compare_173 : decode cX12_compare 173 = .ok (.iconst 1, 1) := by decide +kernel
theorem dX12_compare_174 : decode cX12_compare 174 = .ok (.ireturn, 1) := by decide +kernel
theorem dX12_fact_0 : decode cX12_fact 0 = .ok (.iconst 1, 1) := by decide +kernel
theorem dX12_fact_1 : decode cX12_fact 1 = .ok (.istore_n 1, 1) := by decide +kernel
theorem dX12_fact_2 : decode cX12_fact 2 = .ok (.iload_n 1, 1) := by decide +kernel
theorem dX12_fact_3 : decode cX12_fact 3 = .ok (.ifCond .eq 72, 3) := by decide +kernel
theorem dX12_fact_6 : decode cX12_fact 6 = .ok (.iconst 0, 1) := by decide +kernel
theorem dX12_fact_7 : decode cX12_fact 7 = .ok (.istore_n 1, 1) := by decide +kernel
theorem dX12_fact_8 : decode cX12_fact 8 = .ok (.aload_n 0, 1) := by decide +kernel
theorem dX12_fact_9 : decode cX12_fact 9 = .ok (.invokevirtual 81, 3) := by decide +kernel
theorem dX12_fact_12 : decode cX12_fact 12 = .ok (.istore_n 2, 1) := by decide +kernel
theorem dX12_fact_13 : decode cX12_fact 13 = .ok (.aload_n 0, 1) := by decide +kernel
theorem dX12_fact_14 : decode cX12_fact 14 = .ok (.ldc2_w 178, 3) := by decide +kernel
theorem dX12_fact_17 : decode cX12_fact 17 = .ok (.invokevirtual 89, 3) := by decide +kernel
theorem dX12_fact_20 : decode cX12_fact 20 = .ok (.ifCond .eq 23, 3) := by decide +kernel
theorem dX12_fact_23 : decode cX12_fact 23 = .ok (.aload_n 0, 1) := by decide +kernel
theorem dX12_fact_24 : decode cX12_fact 24 = .ok (.bipush 11, 2) := by decide +kernel
theorem dX12_fact_26 : decode cX12_fact 26 = .ok (.invokevirtual 180, 3) := by decide +kernel
theorem dX12_fact_29 : decode cX12_fact 29 = .ok (.ifCond .ne 5, 3) := by decide +kernel
theorem dX12_fact_32 : decode cX12_fact 32 = .ok (.iconst 0, 1) := by decide +kernel
theorem dX12_fact_33 : decode cX12_fact 33 = .ok (.ireturn, 1) := by decide +kernel
theorem dX12_fact_34 : decode cX12_fact 34 = .ok (.aload_n 0, 1) := by decide +kernel
theorem dX12_fact_35 : decode cX12_fact 35 = .ok (.invokevirtual 93, 3) := by decide +kernel
theorem dX12_fact_38 : decode cX12_fact 38 = .ok (.iconst 1, 1) := by decide +kernel
theorem dX12_fact_39 : decode cX12_fact 39 = .ok (.istore_n 1, 1) := by decide +kernel
theorem dX12_fact_40 : decode cX12_fact 40 = .ok (.goto 32, 3) := by decide +kernel
theorem dX12_fact_43 : decode cX12_fact 43 = .ok (.iload_n 2, 1) := by decide +kernel
theorem dX12_fact_44 : decode cX12_fact 44 = .ok (.bipush 91, 2) := by decide +kernel
theorem dX12_fact_46 : decode cX12_fact 46 = .ok (.if_icmp .ne 26, 3) := by decide +kernel
theorem dX12_fact_49 : decode cX12_fact 49 = .ok (.aload_n 0, 1) := by decide +kernel
theorem dX12_fact_50 : decode cX12_fact 50 = .ok (.bipush 91, 2) := by decide +kernel
theorem dX12_fact_52 : decode cX12_fact 52 = .ok (.invokevirtual 180, 3) := by decide +kernel
theorem dX12_fact_55 : decode cX12_fact 55 = .ok (.ifCond .ne 5, 3) := by decide +kernel
theorem dX12_fact_58 : decode cX12_fact 58 = .ok (.iconst 0, 1) := by decide +kernel
theorem dX12_fact_59 : decode cX12_fact 59 = .ok (.ireturn, 1) := by decide +kernel
theorem dX12_fact_60 : decode cX12_fact 60 = .ok (.aload_n 0, 1) := by decide +kernel
theorem dX12_fact_61 : decode cX12_fact 61 = .ok (.dup, 1) := by decide +kernel
theorem dX12_fact_62 : decode cX12_fact 62 = .ok (.getfield 78, 3) := by decide +kernel
theorem dX12_fact_65 : decode cX12_fact 65 = .ok (.iconst 1, 1) := by decide +kernel
theorem dX12_fact_66 : decode cX12_fact 66 = .ok (.iadd, 1) := by decide +kernel
theorem dX12_fact_67 : decode cX12_fact 67 = .ok (.putfield 78, 3) := by decide +kernel
theorem dX12_fact_70 : decode cX12_fact 70 = .ok (.iconst 1, 1) := by decide +kernel
theorem dX12_fact_71 : decode cX12_fact 71 = .ok (.istore_n 1, 1) := by decide +kernel
theorem dX12_fact_72 : decode cX12_fact 72 = .ok (.goto (-70), 3) := by decide +kernel
theorem dX12_fact_75 : decode cX12_fact 75 = .ok (.aload_n 0, 1) := by decide +kernel
theorem dX12_fact_76 : decode cX12_fact 76 = .ok (.invokevirtual 183, 3) := by decide +kernel
theorem dX12_fact_79 : decode cX12_fact 79 = .ok (.ireturn, 1) := by decide +kernel
theorem dX12_isInside_0 : decode cX12_isInside 0 = .ok (.iconst 0, 1) := by decide +kernel
theorem dX12_isInside_1 : decode cX12_isInside 1 = .ok (.istore_n 1, 1) := by decide +kernel
theorem dX12_isInside_2 : decode cX12_isInside 2 = .ok (.iload_n 1, 1) := by decide +kernel
theorem dX12_isInside_3 : decode cX12_isInside 3 = .ok (.aload_n 0, 1) := by decide +kernel
theorem dX12_isInside_4 : decode cX12_isInside 4 = .ok (.getfield 147, 3) := by decide +kernel
theorem dX12_isInside_7 : decode cX12_isInside 7 = .ok (.if_icmp .ge 22, 3) := by decide +kernel
theorem dX12_isInside_10 : decode cX12_isInside 10 = .ok (.aload_n 0, 1) := by decide +kernel
theorem dX12_isInside_11 : decode cX12_isInside 11 = .ok (.getfield 29, 3) := by decide +kernel
theorem dX12_isInside_14 : decode cX12_isInside 14 = .ok (.iload_n 1, 1) := by decide +kernel
theorem dX12_isInside_15 : decode cX12_isInside 15 = .ok (.iaload, 1) := by decide +kernel
theorem dX12_isInside_16 : decode cX12_isInside 16 = .ok (.bipush 91, 2) := by decide +kernel
theorem dX12_isInside_18 : decode cX12_isInside 18 = .ok (.if_icmp .ne 5, 3) := by decide +kernel
theorem dX12_isInside_21 : decode cX12_isInside 21 = .ok (.iconst 1, 1) := by decide +kernel
theorem dX12_isInside_22 : decode cX12_isInside 22 = .ok (.ireturn, 1) := by decide +kernel
theorem dX12_isInside_23 : decode cX12_isInside 23 = .ok (.iinc 1 1, 3) := by decide +kernel
theorem dX12_isInside_26 : decode cX12_isInside 26 = .ok (.goto (-24), 3) := by decide +kernel
theorem dX12_isInside_29 : decode cX12_isInside 29 = .ok (.iconst 0, 1) := by decide +kernel
theorem dX12_isInside_30 : decode cX12_isInside 30 = .ok (.ireturn, 1) := by decide +kernel
theorem dX12_closes_0 : decode cX12_closes 0 = .ok (.aload_n 0, 1) := by decide +kernel
theorem dX12_closes_1 : decode cX12_closes 1 = .ok (.iconst 3, 1) := by decide +kernel
theorem dX12_closes_2 : decode cX12_closes 2 = .ok (.invokevirtual 186, 3) := by decide +kernel
theorem dX12_closes_5 : decode cX12_closes 5 = .ok (.aload_n 0, 1) := by decide +kernel
theorem dX12_closes_6 : decode cX12_closes 6 = .ok (.invokevirtual 81, 3) := by decide +kernel
theorem dX12_closes_9 : decode cX12_closes 9 = .ok (.bipush 93, 2) := by decide +kernel
theorem dX12_closes_11 : decode cX12_closes 11 = .ok (.if_icmp .ne 53, 3) := by decide +kernel
theorem dX12_closes_14 : decode cX12_closes 14 = .ok (.aload_n 0, 1) := by decide +kernel
theorem dX12_closes_15 : decode cX12_closes 15 = .ok (.invokevirtual 189, 3) := by decide +kernel
theorem dX12_closes_18 : decode cX12_closes 18 = .ok (.ifCond .eq 46, 3) := by decide +kernel
theorem dX12_closes_21 : decode cX12_closes 21 = .ok (.aload_n 0, 1) := by decide +kernel
theorem dX12_closes_22 : decode cX12_closes 22 = .ok (.iconst 1, 1) := by decide +kernel
theorem dX12_closes_23 : decode cX12_closes 23 = .ok (.invokevirtual 186, 3) := by decide +kernel
theorem dX12_closes_26 : decode cX12_closes 26 = .ok (.aload_n 0, 1) := by decide +kernel
theorem dX12_closes_27 : decode cX12_closes 27 = .ok (.dup, 1) := by decide +kernel
theorem dX12_closes_28 : decode cX12_closes 28 = .ok (.getfield 147, 3) := by decide +kernel
theorem dX12_closes_31 : decode cX12_closes 31 = .ok (.iconst 1, 1) := by decide +kernel
theorem dX12_closes_32 : decode cX12_closes 32 = .ok (.isub, 1) := by decide +kernel
theorem dX12_closes_33 : decode cX12_closes 33 = .ok (.putfield 147, 3) := by decide +kernel
theorem dX12_closes_36 : decode cX12_closes 36 = .ok (.aload_n 0, 1) := by decide +kernel
theorem dX12_closes_37 : decode cX12_closes 37 = .ok (.dup, 1) := by decide +kernel
theorem dX12_closes_38 : decode cX12_closes 38 = .ok (.getfield 144, 3) := by decide +kernel
theorem dX12_closes_41 : decode cX12_closes 41 = .ok (.iconst 1, 1) := by decide +kernel
theorem dX12_closes_42 : decode cX12_closes 42 = .ok (.isub, 1) := by decide +kernel
theorem dX12_closes_43 : decode cX12_closes 43 = .ok (.putfield 144, 3) := by decide +kernel
theorem dX12_closes_46 : decode cX12_closes 46 = .ok (.aload_n 0, 1) := by decide +kernel
theorem dX12_closes_47 : decode cX12_closes 47 = .ok (.dup, 1) := by decide +kernel
theorem dX12_closes_48 : decode cX12_closes 48 = .ok (.getfield 78, 3) := by decide +kernel
theorem dX12_closes_51 : decode cX12_closes 51 = .ok (.iconst 1, 1) := by decide +kernel
theorem dX12_closes_52 : decode cX12_closes 52 = .ok (.iadd, 1) := by decide +kernel
theorem dX12_closes_53 : decode cX12_closes 53 = .ok (.putfield 78, 3) := by decide +kernel
theorem dX12_closes_56 : decode cX12_closes 56 = .ok (.aload_n 0, 1) := by decide +kernel
theorem dX12_closes_57 : decode cX12_closes 57 = .ok (.iconst 3, 1) := by decide +kernel
theorem dX12_closes_58 : decode cX12_closes 58 = .ok (.invokevirtual 186, 3) := by decide +kernel
theorem dX12_closes_61 : decode cX12_closes 61 = .ok (.goto (-56), 3) := by decide +kernel
theorem dX12_closes_64 : decode cX12_closes 64 = .ok (.return_, 1) := by decide +kernel
theorem dX12_tested_0 : decode cX12_tested 0 = .ok (.aload_n 0, 1) := by decide +kernel
theorem dX12_tested_1 : decode cX12_tested 1 = .ok (.iconst 0, 1) := by decide +kernel
theorem dX12_tested_2 : decode cX12_tested 2 = .ok (.putfield 147, 3) := by decide +kernel
theorem dX12_tested_5 : decode cX12_tested 5 = .ok (.aload_n 0, 1) := by decide +kernel
theorem dX12_tested_6 : decode cX12_tested 6 = .ok (.iconst 0, 1) := by decide +kernel
theorem dX12_tested_7 : decode cX12_tested 7 = .ok (.putfield 144, 3) := by decide +kernel
theorem dX12_tested_10 : decode cX12_tested 10 = .ok (.iconst 1, 1) := by decide +kernel
theorem dX12_tested_11 : decode cX12_tested 11 = .ok (.istore_n 1, 1) := by decide +kernel
theorem dX12_tested_12 : decode cX12_tested 12 = .ok (.iload_n 1, 1) := by decide +kernel
theorem dX12_tested_13 : decode cX12_tested 13 = .ok (.ifCond .eq 99, 3) := by decide +kernel
theorem dX12_tested_16 : decode cX12_tested 16 = .ok (.aload_n 0, 1) := by decide +kernel
theorem dX12_tested_17 : decode cX12_tested 17 = .ok (.invokevirtual 192, 3) := by decide +kernel
theorem dX12_tested_20 : decode cX12_tested 20 = .ok (.ifCond .ne 5, 3) := by decide +kernel
theorem dX12_tested_23 : decode cX12_tested 23 = .ok (.iconst 0, 1) := by decide +kernel
theorem dX12_tested_24 : decode cX12_tested 24 = .ok (.ireturn, 1) := by decide +kernel
theorem dX12_tested_25 : decode cX12_tested 25 = .ok (.aload_n 0, 1) := by decide +kernel
theorem dX12_tested_26 : decode cX12_tested 26 = .ok (.invokevirtual 195, 3) := by decide +kernel
theorem dX12_tested_29 : decode cX12_tested 29 = .ok (.aload_n 0, 1) := by decide +kernel
theorem dX12_tested_30 : decode cX12_tested 30 = .ok (.ldc2_w 198, 3) := by decide +kernel
theorem dX12_tested_33 : decode cX12_tested 33 = .ok (.invokevirtual 89, 3) := by decide +kernel
theorem dX12_tested_36 : decode cX12_tested 36 = .ok (.ifCond .ne 13, 3) := by decide +kernel
theorem dX12_tested_39 : decode cX12_tested 39 = .ok (.aload_n 0, 1) := by decide +kernel
theorem dX12_tested_40 : decode cX12_tested 40 = .ok (.ldc2_w 200, 3) := by decide +kernel
theorem dX12_tested_43 : decode cX12_tested 43 = .ok (.invokevirtual 89, 3) := by decide +kernel
theorem dX12_tested_46 : decode cX12_tested 46 = .ok (.ifCond .eq 7, 3) := by decide +kernel
theorem dX12_tested_49 : decode cX12_tested 49 = .ok (.iconst 1, 1) := by decide +kernel
theorem dX12_tested_50 : decode cX12_tested 50 = .ok (.goto 4, 3) := by decide +kernel
theorem dX12_tested_53 : decode cX12_tested 53 = .ok (.iconst 0, 1) := by decide +kernel
theorem dX12_tested_54 : decode cX12_tested 54 = .ok (.istore_n 1, 1) := by decide +kernel
theorem dX12_tested_55 : decode cX12_tested 55 = .ok (.iload_n 1, 1) := by decide +kernel
theorem dX12_tested_56 : decode cX12_tested 56 = .ok (.ifCond .eq (-44), 3) := by decide +kernel
theorem dX12_tested_59 : decode cX12_tested 59 = .ok (.aload_n 0, 1) := by decide +kernel
theorem dX12_tested_60 : decode cX12_tested 60 = .ok (.ldc2_w 198, 3) := by decide +kernel
theorem dX12_tested_63 : decode cX12_tested 63 = .ok (.invokevirtual 89, 3) := by decide +kernel
theorem dX12_tested_66 : decode cX12_tested 66 = .ok (.ifCond .eq 8, 3) := by decide +kernel
theorem dX12_tested_69 : decode cX12_tested 69 = .ok (.bipush 12, 2) := by decide +kernel
theorem dX12_tested_71 : decode cX12_tested 71 = .ok (.goto 5, 3) := by decide +kernel
theorem dX12_tested_74 : decode cX12_tested 74 = .ok (.bipush 13, 2) := by decide +kernel
theorem dX12_tested_76 : decode cX12_tested 76 = .ok (.istore_n 2, 1) := by decide +kernel
theorem dX12_tested_77 : decode cX12_tested 77 = .ok (.aload_n 0, 1) := by decide +kernel
theorem dX12_tested_78 : decode cX12_tested 78 = .ok (.invokevirtual 93, 3) := by decide +kernel
theorem dX12_tested_81 : decode cX12_tested 81 = .ok (.aload_n 0, 1) := by decide +kernel
theorem dX12_tested_82 : decode cX12_tested 82 = .ok (.iload_n 2, 1) := by decide +kernel
theorem dX12_tested_83 : decode cX12_tested 83 = .ok (.invokestatic 150, 3) := by decide +kernel
theorem dX12_tested_86 : decode cX12_tested 86 = .ok (.invokevirtual 186, 3) := by decide +kernel
theorem dX12_tested_89 : decode cX12_tested 89 = .ok (.aload_n 0, 1) := by decide +kernel
theorem dX12_tested_90 : decode cX12_tested 90 = .ok (.getfield 29, 3) := by decide +kernel
theorem dX12_tested_93 : decode cX12_tested 93 = .ok (.aload_n 0, 1) := by decide +kernel
theorem dX12_tested_94 : decode cX12_tested 94 = .ok (.getfield 147, 3) := by decide +kernel
theorem dX12_tested_97 : decode cX12_tested 97 = .ok (.iload_n 2, 1) := by decide +kernel
theorem dX12_tested_98 : decode cX12_tested 98 = .ok (.iastore, 1) := by decide +kernel
theorem dX12_tested_99 : decode cX12_tested 99 = .ok (.aload_n 0, 1) := by decide +kernel
theorem dX12_tested_100 : decode cX12_tested 100 = .ok (.dup, 1) := by decide +kernel
theorem dX12_tested_101 : decode cX12_tested 101 = .ok (.getfield 147, 3) := by decide +kernel
theorem dX12_tested_104 : decode cX12_tested 104 = .ok (.iconst 1, 1) := by decide +kernel
theorem dX12_tested_105 : decode cX12_tested 105 = .ok (.iadd, 1) := by decide +kernel
theorem dX12_tested_106 : decode cX12_tested 106 = .ok (.putfield 147, 3) := by decide +kernel
theorem dX12_tested_109 : decode cX12_tested 109 = .ok (.goto (-97), 3) := by decide +kernel
theorem dX12_tested_112 : decode cX12_tested 112 = .ok (.aload_n 0, 1) := by decide +kernel
theorem dX12_tested_113 : decode cX12_tested 113 = .ok (.invokevirtual 189, 3) := by decide +kernel
theorem dX12_tested_116 : decode cX12_tested 116 = .ok (.ifCond .eq 18, 3) := by decide +kernel
theorem dX12_tested_119 : decode cX12_tested 119 = .ok (.aload_n 0, 1) := by decide +kernel
theorem dX12_tested_120 : decode cX12_tested 120 = .ok (.invokevirtual 81, 3) := by decide +kernel
theorem dX12_tested_123 : decode cX12_tested 123 = .ok (.pop, 1) := by decide +kernel
theorem dX12_tested_124 : decode cX12_tested 124 = .ok (.aload_n 0, 1) := by decide +kernel
theorem dX12_tested_125 : decode cX12_tested 125 = .ok (.iconst 0, 1) := by decide +kernel
theorem dX12_tested_126 : decode cX12_tested 126 = .ok (.aload_n 0, 1) := by decide +kernel
theorem dX12_tested_127 : decode cX12_tested 127 = .ok (.getfield 78, 3) := by decide +kernel
theorem dX12_tested_130 : decode cX12_tested 130 = .ok (.invokevirtual 99, 3) := by decide +kernel
theorem dX12_tested_133 : decode cX12_tested 133 = .ok (.ireturn, 1) := by decide +kernel
theorem dX12_tested_134 : decode cX12_tested 134 = .ok (.aload_n 0, 1) := by decide +kernel
theorem dX12_tested_135 : decode cX12_tested 135 = .ok (.iconst 1, 1) := by decide +kernel
theorem dX12_tested_136 : decode cX12_tested 136 = .ok (.invokevirtual 186, 3) := by decide +kernel
theorem dX12_tested_139 : decode cX12_tested 139 = .ok (.iconst 1, 1) := by decide +kernel
theorem dX12_tested_140 : decode cX12_tested 140 = .ok (.ireturn, 1) := by decide +kernel
theorem dX12_isDoingHere_0 : decode cX12_isDoingHere 0 = .ok (.aload_n 0, 1) := by decide +kernel
theorem dX12_isDoingHere_1 : decode cX12_isDoingHere 1 = .ok (.invokevirtual 93, 3) := by decide +kernel
theorem dX12_isDoingHere_4 : decode cX12_isDoingHere 4 = .ok (.bipush 60, 2) := by decide +kernel
theorem dX12_isDoingHere_6 : decode cX12_isDoingHere 6 = .ok (.aload_n 0, 1) := by decide +kernel
theorem dX12_isDoingHere_7 : decode cX12_isDoingHere 7 = .ok (.getfield 138, 3) := by decide +kernel
theorem dX12_isDoingHere_10 : decode cX12_isDoingHere 10 = .ok (.imul, 1) := by decide +kernel
theorem dX12_isDoingHere_11 : decode cX12_isDoingHere 11 = .ok (.iconst 5, 1) := by decide +kernel
theorem dX12_isDoingHere_12 : decode cX12_isDoingHere 12 = .ok (.aload_n 0, 1) := by decide +kernel
theorem dX12_isDoingHere_13 : decode cX12_isDoingHere 13 = .ok (.getfield 23, 3) := by decide +kernel
theorem dX12_isDoingHere_16 : decode cX12_isDoingHere 16 = .ok (.aload_n 0, 1) := by decide +kernel
theorem dX12_isDoingHere_17 : decode cX12_isDoingHere 17 = .ok (.getfield 138, 3) := by decide +kernel
theorem dX12_isDoingHere_20 : decode cX12_isDoingHere 20 = .ok (.iaload, 1) := by decide +kernel
theorem dX12_isDoingHere_21 : decode cX12_isDoingHere 21 = .ok (.imul, 1) := by decide +kernel
theorem dX12_isDoingHere_22 : decode cX12_isDoingHere 22 = .ok (.iadd, 1) := by decide +kernel
theorem dX12_isDoingHere_23 : decode cX12_isDoingHere 23 = .ok (.istore_n 2, 1) := by decide +kernel
theorem dX12_isDoingHere_24 : decode cX12_isDoingHere 24 = .ok (.aload_n 0, 1) := by decide +kernel
theorem dX12_isDoingHere_25 : decode cX12_isDoingHere 25 = .ok (.getfield 20, 3) := by decide +kernel
theorem dX12_isDoingHere_28 : decode cX12_isDoingHere 28 = .ok (.iload_n 2, 1) := by decide +kernel
theorem dX12_isDoingHere_29 : decode cX12_isDoingHere 29 = .ok (.iload_n 1, 1) := by decide +kernel
theorem dX12_isDoingHere_30 : decode cX12_isDoingHere 30 = .ok (.iastore, 1) := by decide +kernel
theorem dX12_isDoingHere_31 : decode cX12_isDoingHere 31 = .ok (.aload_n 0, 1) := by decide +kernel
theorem dX12_isDoingHere_32 : decode cX12_isDoingHere 32 = .ok (.getfield 20, 3) := by decide +kernel
theorem dX12_isDoingHere_35 : decode cX12_isDoingHere 35 = .ok (.iload_n 2, 1) := by decide +kernel
theorem dX12_isDoingHere_36 : decode cX12_isDoingHere 36 = .ok (.iconst 1, 1) := by decide +kernel
theorem dX12_isDoingHere_37 : decode cX12_isDoingHere 37 = .ok (.iadd, 1) := by decide +kernel
theorem dX12_isDoingHere_38 : decode cX12_isDoingHere 38 = .ok (.aload_n 0, 1) := by decide +kernel
theorem dX12_isDoingHere_39 : decode cX12_isDoingHere 39 = .ok (.getfield 17, 3) := by decide +kernel
theorem dX12_isDoingHere_42 : decode cX12_isDoingHere 42 = .ok (.aload_n 0, 1) := by decide +kernel
theorem dX12_isDoingHere_43 : decode cX12_isDoingHere 43 = .ok (.getfield 138, 3) := by decide +kernel
theorem dX12_isDoingHere_46 : decode cX12_isDoingHere 46 = .ok (.iaload, 1) := by decide +kernel
theorem dX12_isDoingHere_47 : decode cX12_isDoingHere 47 = .ok (.iastore, 1) := by decide +kernel
theorem dX12_isDoingHere_48 : decode cX12_isDoingHere 48 = .ok (.iload_n 1, 1) := by decide +kernel
theorem dX12_isDoingHere_49 : decode cX12_isDoingHere 49 = .ok (.iconst 1, 1) := by decide +kernel
theorem dX12_isDoingHere_50 : decode cX12_isDoingHere 50 = .ok (.if_icmp .ne 12, 3) := by decide +kernel
theorem dX12_isDoingHere_53 : decode cX12_isDoingHere 53 = .ok (.aload_n 0, 1) := by decide +kernel
theorem dX12_isDoingHere_54 : decode cX12_isDoingHere 54 = .ok (.invokevirtual 175, 3) := by decide +kernel
theorem dX12_isDoingHere_57 : decode cX12_isDoingHere 57 = .ok (.ifCond .ne 5, 3) := by decide +kernel
theorem dX12_isDoingHere_60 : decode cX12_isDoingHere 60 = .ok (.iconst 0, 1) := by decide +kernel
theorem dX12_isDoingHere_61 : decode cX12_isDoingHere 61 = .ok (.ireturn, 1) := by decide +kernel
theorem dX12_isDoingHere_62 : decode cX12_isDoingHere 62 = .ok (.aload_n 0, 1) := by decide +kernel
theorem dX12_isDoingHere_63 : decode cX12_isDoingHere 63 = .ok (.getfield 20, 3) := by decide +kernel
theorem dX12_isDoingHere_66 : decode cX12_isDoingHere 66 = .ok (.iload_n 2, 1) := by decide +kernel
theorem dX12_isDoingHere_67 : decode cX12_isDoingHere 67 = .ok (.iconst 2, 1) := by decide +kernel
theorem dX12_isDoingHere_68 : decode cX12_isDoingHere 68 = .ok (.iadd, 1) := by decide +kernel
theorem dX12_isDoingHere_69 : decode cX12_isDoingHere 69 = .ok (.aload_n 0, 1) := by decide +kernel
theorem dX12_isDoingHere_70 : decode cX12_isDoingHere 70 = .ok (.getfield 17, 3) := by decide +kernel
theorem dX12_isDoingHere_73 : decode cX12_isDoingHere 73 = .ok (.aload_n 0, 1) := by decide +kernel
theorem dX12_isDoingHere_74 : decode cX12_isDoingHere 74 = .ok (.getfield 138, 3) := by decide +kernel
theorem dX12_isDoingHere_77 : decode cX12_isDoingHere 77 = .ok (.iaload, 1) := by decide +kernel
theorem dX12_isDoingHere_78 : decode cX12_isDoingHere 78 = .ok (.iastore, 1) := by decide +kernel
theorem dX12_isDoingHere_79 : decode cX12_isDoingHere 79 = .ok (.aload_n 0, 1) := by decide +kernel
theorem dX12_isDoingHere_80 : decode cX12_isDoingHere 80 = .ok (.getfield 20, 3) := by decide +kernel
theorem dX12_isDoingHere_83 : decode cX12_isDoingHere 83 = .ok (.iload_n 2, 1) := by decide +kernel
theorem dX12_isDoingHere_84 : decode cX12_isDoingHere 84 = .ok (.iconst 3, 1) := by decide +kernel
theorem dX12_isDoingHere_85 : decode cX12_isDoingHere 85 = .ok (.iadd, 1) := by decide +kernel
theorem dX12_isDoingHere_86 : decode cX12_isDoingHere 86 = .ok (.iconst (-1), 1) := by decide +kernel
theorem dX12_isDoingHere_87 : decode cX12_isDoingHere 87 = .ok (.iastore, 1) := by decide +kernel
theorem dX12_isDoingHere_88 : decode cX12_isDoingHere 88 = .ok (.iload_n 1, 1) := by decide +kernel
theorem dX12_isDoingHere_89 : decode cX12_isDoingHere 89 = .ok (.ifCond .eq 13, 3) := by decide +kernel
theorem dX12_isDoingHere_92 : decode cX12_isDoingHere 92 = .ok (.aload_n 0, 1) := by decide +kernel
theorem dX12_isDoingHere_93 : decode cX12_isDoingHere 93 = .ok (.ldc2_w 202, 3) := by decide +kernel
theorem dX12_isDoingHere_96 : decode cX12_isDoingHere 96 = .ok (.invokevirtual 204, 3) := by decide +kernel
theorem dX12_isDoingHere_99 : decode cX12_isDoingHere 99 = .ok (.ifCond .eq 29, 3) := by decide +kernel
theorem dX12_isDoingHere_102 : decode cX12_isDoingHere 102 = .ok (.aload_n 0, 1) := by decide +kernel
theorem dX12_isDoingHere_103 : decode cX12_isDoingHere 103 = .ok (.getfield 20, 3) := by decide +kernel
theorem dX12_isDoingHere_106 : decode cX12_isDoingHere 106 = .ok (.iload_n 2, 1) := by decide +kernel
theorem dX12_isDoingHere_107 : decode cX12_isDoingHere 107 = .ok (.iconst 3, 1) := by decide +kernel
theorem dX12_isDoingHere_108 : decode cX12_isDoingHere 108 = .ok (.iadd, 1) := by decide +kernel
theorem dX12_isDoingHere_109 : decode cX12_isDoingHere 109 = .ok (.aload_n 0, 1) := by decide +kernel
theorem dX12_isDoingHere_110 : decode cX12_isDoingHere 110 = .ok (.getfield 17, 3) := by decide +kernel
theorem dX12_isDoingHere_113 : decode cX12_isDoingHere 113 = .ok (.aload_n 0, 1) := by decide +kernel
theorem dX12_isDoingHere_114 : decode cX12_isDoingHere 114 = .ok (.getfield 138, 3) := by decide +kernel
theorem dX12_isDoingHere_117 : decode cX12_isDoingHere 117 = .ok (.iaload, 1) := by decide +kernel
theorem dX12_isDoingHere_118 : decode cX12_isDoingHere 118 = .ok (.iastore, 1) := by decide +kernel
theorem dX12_isDoingHere_119 : decode cX12_isDoingHere 119 = .ok (.aload_n 0, 1) := by decide +kernel
theorem dX12_isDoingHere_120 : decode cX12_isDoingHere 120 = .ok (.invokevirtual 207, 3) := by decide +kernel
theorem dX12_isDoingHere_123 : decode cX12_isDoingHere 123 = .ok (.ifCond .ne 5, 3) := by decide +kernel
theorem dX12_isDoingHere_126 : decode cX12_isDoingHere 126 = .ok (.iconst 0, 1) := by decide +kernel
theorem dX12_isDoingHere_127 : decode cX12_isDoingHere 127 = .ok (.ireturn, 1) := by decide +kernel
theorem dX12_isDoingHere_128 : decode cX12_isDoingHere 128 = .ok (.aload_n 0, 1) := by decide +kernel
theorem dX12_isDoingHere_129 : decode cX12_isDoingHere 129 = .ok (.getfield 20, 3) := by decide +kernel
theorem dX12_isDoingHere_132 : decode cX12_isDoingHere 132 = .ok (.iload_n 2, 1) := by decide +kernel
theorem dX12_isDoingHere_133 : decode cX12_isDoingHere 133 = .ok (.iconst 4, 1) := by decide +kernel
theorem dX12_isDoingHere_134 : decode cX12_isDoingHere 134 = .ok (.iadd, 1) := by decide +kernel
theorem dX12_isDoingHere_135 : decode cX12_isDoingHere 135 = .ok (.aload_n 0, 1) := by decide +kernel
theorem dX12_isDoingHere_136 : decode cX12_isDoingHere 136 = .ok (.getfield 17, 3) := by decide +kernel
theorem dX12_isDoingHere_139 : decode cX12_isDoingHere 139 = .ok (.aload_n 0, 1) := by decide +kernel
theorem dX12_isDoingHere_140 : decode cX12_isDoingHere 140 = .ok (.getfield 138, 3) := by decide +kernel
theorem dX12_isDoingHere_143 : decode cX12_isDoingHere 143 = .ok (.iaload, 1) := by decide +kernel
theorem dX12_isDoingHere_144 : decode cX12_isDoingHere 144 = .ok (.iastore, 1) := by decide +kernel
theorem dX12_isDoingHere_145 : decode cX12_isDoingHere 145 = .ok (.aload_n 0, 1) := by decide +kernel
theorem dX12_isDoingHere_146 : decode cX12_isDoingHere 146 = .ok (.getfield 23, 3) := by decide +kernel
theorem dX12_isDoingHere_149 : decode cX12_isDoingHere 149 = .ok (.aload_n 0, 1) := by decide +kernel
theorem dX12_isDoingHere_150 : decode cX12_isDoingHere 150 = .ok (.getfield 138, 3) := by decide +kernel
theorem dX12_isDoingHere_153 : decode cX12_isDoingHere 153 = .ok (.dup2, 1) := by decide +kernel
theorem dX12_isDoingHere_154 : decode cX12_isDoingHere 154 = .ok (.iaload, 1) := by decide +kernel
theorem dX12_isDoingHere_155 : decode cX12_isDoingHere 155 = .ok (.iconst 1, 1) := by decide +kernel
theorem dX12_isDoingHere_156 : decode cX12_isDoingHere 156 = .ok (.iadd, 1) := by decide +kernel
theorem dX12_isDoingHere_157 : decode cX12_isDoingHere 157 = .ok (.iastore, 1) := by decide +kernel
theorem dX12_isDoingHere_158 : decode cX12_isDoingHere 158 = .ok (.iconst 1, 1) := by decide +kernel
theorem dX12_isDoingHere_159 : decode cX12_isDoingHere 159 = .ok (.ireturn, 1) := by decide +kernel
theorem dX12_cellHere_0 : decode cX12_cellHere 0 = .ok (.aload_n 0, 1) := by decide +kernel
theorem dX12_cellHere_1 : decode cX12_cellHere 1 = .ok (.iload_n 2, 1) := by decide +kernel
theorem dX12_cellHere_2 : decode cX12_cellHere 2 = .ok (.iload_n 3, 1) := by decide +kernel
theorem dX12_cellHere_3 : decode cX12_cellHere 3 = .ok (.invokevirtual 159, 3) := by decide +kernel
theorem dX12_cellHere_6 : decode cX12_cellHere 6 = .ok (.ifCond .ne 5, 3) := by decide +kernel
theorem dX12_cellHere_9 : decode cX12_cellHere 9 = .ok (.iconst 0, 1) := by decide +kernel
theorem dX12_cellHere_10 : decode cX12_cellHere 10 = .ok (.ireturn, 1) := by decide +kernel
theorem dX12_cellHere_11 : decode cX12_cellHere 11 = .ok (.aload_n 0, 1) := by decide +kernel
theorem dX12_cellHere_12 : decode cX12_cellHere 12 = .ok (.getfield 26, 3) := by decide +kernel
theorem dX12_cellHere_15 : decode cX12_cellHere 15 = .ok (.iload_n 1, 1) := by decide +kernel
theorem dX12_cellHere_16 : decode cX12_cellHere 16 = .ok (.aload_n 0, 1) := by decide +kernel
theorem dX12_cellHere_17 : decode cX12_cellHere 17 = .ok (.getfield 103, 3) := by decide +kernel
theorem dX12_cellHere_20 : decode cX12_cellHere 20 = .ok (.iastore, 1) := by decide +kernel
theorem dX12_cellHere_21 : decode cX12_cellHere 21 = .ok (.iconst 1, 1) := by decide +kernel
theorem dX12_cellHere_22 : decode cX12_cellHere 22 = .ok (.ireturn, 1) := by decide +kernel
theorem dX12_otherHere_0 : decode cX12_otherHere 0 = .ok (.aload_n 0, 1) := by decide +kernel
theorem dX12_otherHere_1 : decode cX12_otherHere 1 = .ok (.invokevirtual 81, 3) := by decide +kernel
theorem dX12_otherHere_4 : decode cX12_otherHere 4 = .ok (.pop, 1) := by decide +kernel
theorem dX12_otherHere_5 : decode cX12_otherHere 5 = .ok (.aload_n 0, 1) := by decide +kernel
theorem dX12_otherHere_6 : decode cX12_otherHere 6 = .ok (.getfield 78, 3) := by decide +kernel
theorem dX12_otherHere_9 : decode cX12_otherHere 9 = .ok (.istore 4, 2) := by decide +kernel
theorem dX12_otherHere_11 : decode cX12_otherHere 11 = .ok (.aload_n 0, 1) := by decide +kernel
theorem dX12_otherHere_12 : decode cX12_otherHere 12 = .ok (.iload_n 1, 1) := by decide +kernel
theorem dX12_otherHere_13 : decode cX12_otherHere 13 = .ok (.iconst 0, 1) := by decide +kernel
theorem dX12_otherHere_14 : decode cX12_otherHere 14 = .ok (.iload_n 3, 1) := by decide +kernel
theorem dX12_otherHere_15 : decode cX12_otherHere 15 = .ok (.invokevirtual 210, 3) := by decide +kernel
theorem dX12_otherHere_18 : decode cX12_otherHere 18 = .ok (.ifCond .eq 32, 3) := by decide +kernel
theorem dX12_otherHere_21 : decode cX12_otherHere 21 = .ok (.aload_n 0, 1) := by decide +kernel
theorem dX12_otherHere_22 : decode cX12_otherHere 22 = .ok (.getfield 26, 3) := by decide +kernel
theorem dX12_otherHere_25 : decode cX12_otherHere 25 = .ok (.iload_n 1, 1) := by decide +kernel
theorem dX12_otherHere_26 : decode cX12_otherHere 26 = .ok (.iaload, 1) := by decide +kernel
theorem dX12_otherHere_27 : decode cX12_otherHere 27 = .ok (.aload_n 0, 1) := by decide +kernel
theorem dX12_otherHere_28 : decode cX12_otherHere 28 = .ok (.getfield 26, 3) := by decide +kernel
theorem dX12_otherHere_31 : decode cX12_otherHere 31 = .ok (.iload_n 2, 1) := by decide +kernel
theorem dX12_otherHere_32 : decode cX12_otherHere 32 = .ok (.iaload, 1) := by decide +kernel
theorem dX12_otherHere_33 : decode cX12_otherHere 33 = .ok (.if_icmp .ne 13, 3) := by decide +kernel
theorem dX12_otherHere_36 : decode cX12_otherHere 36 = .ok (.aload_n 0, 1) := by decide +kernel
theorem dX12_otherHere_37 : decode cX12_otherHere 37 = .ok (.iconst 1, 1) := by decide +kernel
theorem dX12_otherHere_38 : decode cX12_otherHere 38 = .ok (.iload 4, 2) := by decide +kernel
theorem dX12_otherHere_40 : decode cX12_otherHere 40 = .ok (.invokevirtual 99, 3) := by decide +kernel
theorem dX12_otherHere_43 : decode cX12_otherHere 43 = .ok (.ifCond .eq 7, 3) := by decide +kernel
theorem dX12_otherHere_46 : decode cX12_otherHere 46 = .ok (.iconst 1, 1) := by decide +kernel
theorem dX12_otherHere_47 : decode cX12_otherHere 47 = .ok (.goto 4, 3) := by decide +kernel
theorem dX12_otherHere_50 : decode cX12_otherHere 50 = .ok (.iconst 0, 1) := by decide +kernel
theorem dX12_otherHere_51 : decode cX12_otherHere 51 = .ok (.ireturn, 1) := by decide +kernel
theorem dX12_areFactsHere_0 : decode cX12_areFactsHere 0 = .ok (.aload_n 0, 1) := by decide +kernel
theorem dX12_areFactsHere_1 : decode cX12_areFactsHere 1 = .ok (.getfield 26, 3) := by decide +kernel
theorem dX12_areFactsHere_4 : decode cX12_areFactsHere 4 = .ok (.iconst 0, 1) := by decide +kernel
theorem dX12_areFactsHere_5 : decode cX12_areFactsHere 5 = .ok (.iaload, 1) := by decide +kernel
theorem dX12_areFactsHere_6 : decode cX12_areFactsHere 6 = .ok (.ifCond .le 10, 3) := by decide +kernel
theorem dX12_areFactsHere_9 : decode cX12_areFactsHere 9 = .ok (.aload_n 0, 1) := by decide +kernel
theorem dX12_areFactsHere_10 : decode cX12_areFactsHere 10 = .ok (.iconst 4, 1) := by decide +kernel
theorem dX12_areFactsHere_11 : decode cX12_areFactsHere 11 = .ok (.iload_n 1, 1) := by decide +kernel
theorem dX12_areFactsHere_12 : decode cX12_areFactsHere 12 = .ok (.invokevirtual 99, 3) := by decide +kernel
theorem dX12_areFactsHere_15 : decode cX12_areFactsHere 15 = .ok (.ireturn, 1) := by decide +kernel
theorem dX12_areFactsHere_16 : decode cX12_areFactsHere 16 = .ok (.aload_n 0, 1) := by decide +kernel
theorem dX12_areFactsHere_17 : decode cX12_areFactsHere 17 = .ok (.invokevirtual 93, 3) := by decide +kernel
theorem dX12_areFactsHere_20 : decode cX12_areFactsHere 20 = .ok (.aload_n 0, 1) := by decide +kernel
theorem dX12_areFactsHere_21 : decode cX12_areFactsHere 21 = .ok (.iconst 0, 1) := by decide +kernel
theorem dX12_areFactsHere_22 : decode cX12_areFactsHere 22 = .ok (.iconst 1, 1) := by decide +kernel
theorem dX12_areFactsHere_23 : decode cX12_areFactsHere 23 = .ok (.bipush 8, 2) := by decide +kernel
theorem dX12_areFactsHere_25 : decode cX12_areFactsHere 25 = .ok (.invokevirtual 210, 3) := by decide +kernel
theorem dX12_areFactsHere_28 : decode cX12_areFactsHere 28 = .ok (.ifCond .eq 22, 3) := by decide +kernel
theorem dX12_areFactsHere_31 : decode cX12_areFactsHere 31 = .ok (.aload_n 0, 1) := by decide +kernel
theorem dX12_areFactsHere_32 : decode cX12_areFactsHere 32 = .ok (.iconst 1, 1) := by decide +kernel
theorem dX12_areFactsHere_33 : decode cX12_areFactsHere 33 = .ok (.iconst 0, 1) := by decide +kernel
theorem dX12_areFactsHere_34 : decode cX12_areFactsHere 34 = .ok (.iconst 1, 1) := by decide +kernel
theorem dX12_areFactsHere_35 : decode cX12_areFactsHere 35 = .ok (.aload_n 0, 1) := by decide +kernel
theorem dX12_areFactsHere_36 : decode cX12_areFactsHere 36 = .ok (.getfield 26, 3) := by decide +kernel
theorem dX12_areFactsHere_39 : decode cX12_areFactsHere 39 = .ok (.iconst 0, 1) := by decide +kernel
theorem dX12_areFactsHere_40 : decode cX12_areFactsHere 40 = .ok (.iaload, 1) := by decide +kernel
theorem dX12_areFactsHere_41 : decode cX12_areFactsHere 41 = .ok (.ishl, 1) := by decide +kernel
theorem dX12_areFactsHere_42 : decode cX12_areFactsHere 42 = .ok (.iconst 1, 1) := by decide +kernel
theorem dX12_areFactsHere_43 : decode cX12_areFactsHere 43 = .ok (.isub, 1) := by decide +kernel
theorem dX12_areFactsHere_44 : decode cX12_areFactsHere 44 = .ok (.invokevirtual 210, 3) := by decide +kernel
theorem dX12_areFactsHere_47 : decode cX12_areFactsHere 47 = .ok (.ifCond .ne 5, 3) := by decide +kernel
theorem dX12_areFactsHere_50 : decode cX12_areFactsHere 50 = .ok (.iconst 0, 1) := by decide +kernel
theorem dX12_areFactsHere_51 : decode cX12_areFactsHere 51 = .ok (.ireturn, 1) := by decide +kernel
theorem dX12_areFactsHere_52 : decode cX12_areFactsHere 52 = .ok (.iconst 0, 1) := by decide +kernel
theorem dX12_areFactsHere_53 : decode cX12_areFactsHere 53 = .ok (.istore_n 2, 1) := by decide +kernel
theorem dX12_areFactsHere_54 : decode cX12_areFactsHere 54 = .ok (.iload_n 2, 1) := by decide +kernel
theorem dX12_areFactsHere_55 : decode cX12_areFactsHere 55 = .ok (.bipush 49, 2) := by decide +kernel
theorem dX12_areFactsHere_57 : decode cX12_areFactsHere 57 = .ok (.if_icmp .ge 20, 3) := by decide +kernel
theorem dX12_areFactsHere_60 : decode cX12_areFactsHere 60 = .ok (.aload_n 0, 1) := by decide +kernel
theorem dX12_areFactsHere_61 : decode cX12_areFactsHere 61 = .ok (.getfield 26, 3) := by decide +kernel
theorem dX12_areFactsHere_64 : decode cX12_areFactsHere 64 = .ok (.sipush 130, 3) := by decide +kernel
theorem dX12_areFactsHere_67 : decode cX12_areFactsHere 67 = .ok (.iload_n 2, 1) := by decide +kernel
theorem dX12_areFactsHere_68 : decode cX12_areFactsHere 68 = .ok (.iadd, 1) := by decide +kernel
theorem dX12_areFactsHere_69 : decode cX12_areFactsHere 69 = .ok (.iconst 5, 1) := by decide +kernel
theorem dX12_areFactsHere_70 : decode cX12_areFactsHere 70 = .ok (.iastore, 1) := by decide +kernel
theorem dX12_areFactsHere_71 : decode cX12_areFactsHere 71 = .ok (.iinc 2 1, 3) := by decide +kernel
theorem dX12_areFactsHere_74 : decode cX12_areFactsHere 74 = .ok (.goto (-20), 3) := by decide +kernel
theorem dX12_areFactsHere_77 : decode cX12_areFactsHere 77 = .ok (.iconst 1, 1) := by decide +kernel
theorem dX12_areFactsHere_78 : decode cX12_areFactsHere 78 = .ok (.ireturn, 1) := by decide +kernel
theorem dX12_isPersonHere_0 : decode cX12_isPersonHere 0 = .ok (.aload_n 0, 1) := by decide +kernel
theorem dX12_isPersonHere_1 : decode cX12_isPersonHere 1 = .ok (.getfield 26, 3) := by decide +kernel
theorem dX12_isPersonHere_4 : decode cX12_isPersonHere 4 = .ok (.iconst 2, 1) := by decide +kernel
theorem dX12_isPersonHere_5 : decode cX12_isPersonHere 5 = .ok (.iaload, 1) := by decide +kernel
theorem dX12_isPersonHere_6 : decode cX12_isPersonHere 6 = .ok (.bipush 7, 2) := by decide +kernel
theorem dX12_isPersonHere_8 : decode cX12_isPersonHere 8 = .ok (.if_icmp .ne 10, 3) := by decide +kernel
theorem dX12_isPersonHere_11 : decode cX12_isPersonHere 11 = .ok (.aload_n 0, 1) := by decide +kernel
theorem dX12_isPersonHere_12 : decode cX12_isPersonHere 12 = .ok (.iconst 4, 1) := by decide +kernel
theorem dX12_isPersonHere_13 : decode cX12_isPersonHere 13 = .ok (.iload_n 1, 1) := by decide +kernel
theorem dX12_isPersonHere_14 : decode cX12_isPersonHere 14 = .ok (.invokevirtual 99, 3) := by decide +kernel
theorem dX12_isPersonHere_17 : decode cX12_isPersonHere 17 = .ok (.ireturn, 1) := by decide +kernel
theorem dX12_isPersonHere_18 : decode cX12_isPersonHere 18 = .ok (.aload_n 0, 1) := by decide +kernel
theorem dX12_isPersonHere_19 : decode cX12_isPersonHere 19 = .ok (.invokevirtual 93, 3) := by decide +kernel
theorem dX12_isPersonHere_22 : decode cX12_isPersonHere 22 = .ok (.aload_n 0, 1) := by decide +kernel
theorem dX12_isPersonHere_23 : decode cX12_isPersonHere 23 = .ok (.iconst 0, 1) := by decide +kernel
theorem dX12_isPersonHere_24 : decode cX12_isPersonHere 24 = .ok (.iconst 1, 1) := by decide +kernel
theorem dX12_isPersonHere_25 : decode cX12_isPersonHere 25 = .ok (.aload_n 0, 1) := by decide +kernel
theorem dX12_isPersonHere_26 : decode cX12_isPersonHere 26 = .ok (.getfield 26, 3) := by decide +kernel
theorem dX12_isPersonHere_29 : decode cX12_isPersonHere 29 = .ok (.iconst 0, 1) := by decide +kernel
theorem dX12_isPersonHere_30 : decode cX12_isPersonHere 30 = .ok (.iaload, 1) := by decide +kernel
theorem dX12_isPersonHere_31 : decode cX12_isPersonHere 31 = .ok (.ishl, 1) := by decide +kernel
theorem dX12_isPersonHere_32 : decode cX12_isPersonHere 32 = .ok (.iconst 1, 1) := by decide +kernel
theorem dX12_isPersonHere_33 : decode cX12_isPersonHere 33 = .ok (.isub, 1) := by decide +kernel
theorem dX12_isPersonHere_34 : decode cX12_isPersonHere 34 = .ok (.invokevirtual 159, 3) := by decide +kernel
theorem dX12_isPersonHere_37 : decode cX12_isPersonHere 37 = .ok (.ifCond .ne 5, 3) := by decide +kernel
theorem dX12_isPersonHere_40 : decode cX12_isPersonHere 40 = .ok (.iconst 0, 1) := by decide +kernel
theorem dX12_isPersonHere_41 : decode cX12_isPersonHere 41 = .ok (.ireturn, 1) := by decide +kernel
theorem dX12_isPersonHere_42 : decode cX12_isPersonHere 42 = .ok (.iconst 0, 1) := by decide +kernel
theorem dX12_isPersonHere_43 : decode cX12_isPersonHere 43 = .ok (.istore_n 2, 1) := by decide +kernel
theorem dX12_isPersonHere_44 : decode cX12_isPersonHere 44 = .ok (.iload_n 2, 1) := by decide +kernel
theorem dX12_isPersonHere_45 : decode cX12_isPersonHere 45 = .ok (.bipush 8, 2) := by decide +kernel
theorem dX12_isPersonHere_47 : decode cX12_isPersonHere 47 = .ok (.if_icmp .ge 90, 3) := by decide +kernel
theorem dX12_isPersonHere_50 : decode cX12_isPersonHere 50 = .ok (.aload_n 0, 1) := by decide +kernel
theorem dX12_isPersonHere_51 : decode cX12_isPersonHere 51 = .ok (.getfield 103, 3) := by decide +kernel
theorem dX12_isPersonHere_54 : decode cX12_isPersonHere 54 = .ok (.iload_n 2, 1) := by decide +kernel
theorem dX12_isPersonHere_55 : decode cX12_isPersonHere 55 = .ok (.invokestatic 214, 3) := by decide +kernel
theorem dX12_isPersonHere_58 : decode cX12_isPersonHere 58 = .ok (.istore_n 3, 1) := by decide +kernel
theorem dX12_isPersonHere_59 : decode cX12_isPersonHere 59 = .ok (.aload_n 0, 1) := by decide +kernel
theorem dX12_isPersonHere_60 : decode cX12_isPersonHere 60 = .ok (.getfield 26, 3) := by decide +kernel
theorem dX12_isPersonHere_63 : decode cX12_isPersonHere 63 = .ok (.bipush 11, 2) := by decide +kernel
theorem dX12_isPersonHere_65 : decode cX12_isPersonHere 65 = .ok (.bipush 16, 2) := by decide +kernel
theorem dX12_isPersonHere_67 : decode cX12_isPersonHere 67 = .ok (.aload_n 0, 1) := by decide +kernel
theorem dX12_isPersonHere_68 : decode cX12_isPersonHere 68 = .ok (.getfield 26, 3) := by decide +kernel
theorem dX12_isPersonHere_71 : decode cX12_isPersonHere 71 = .ok (.iconst 2, 1) := by decide +kernel
theorem dX12_isPersonHere_72 : decode cX12_isPersonHere 72 = .ok (.iaload, 1) := by decide +kernel
theorem dX12_isPersonHere_73 : decode cX12_isPersonHere 73 = .ok (.imul, 1) := by decide +kernel
theorem dX12_isPersonHere_74 : decode cX12_isPersonHere 74 = .ok (.iadd, 1) := by decide +kernel
theorem dX12_isPersonHere_75 : decode cX12_isPersonHere 75 = .ok (.iconst 2, 1) := by decide +kernel
theorem dX12_isPersonHere_76 : decode cX12_isPersonHere 76 = .ok (.iload_n 2, 1) := by decide +kernel
theorem dX12_isPersonHere_77 : decode cX12_isPersonHere 77 = .ok (.imul, 1) := by decide +kernel
theorem dX12_isPersonHere_78 : decode cX12_isPersonHere 78 = .ok (.iadd, 1) := by decide +kernel
theorem dX12_isPersonHere_79 : decode cX12_isPersonHere 79 = .ok (.iload_n 3, 1) := by decide +kernel
theorem dX12_isPersonHere_80 : decode cX12_isPersonHere 80 = .ok (.ifCond .eq 16, 3) := by decide +kernel
theorem dX12_isPersonHere_83 : decode cX12_isPersonHere 83 = .ok (.aload_n 0, 1) := by decide +kernel
theorem dX12_isPersonHere_84 : decode cX12_isPersonHere 84 = .ok (.getfield 26, 3) := by decide +kernel
theorem dX12_isPersonHere_87 : decode cX12_isPersonHere 87 = .ok (.iconst 1, 1) := by decide +kernel
theorem dX12_isPersonHere_88 : decode cX12_isPersonHere 88 = .ok (.iaload, 1) := by decide +kernel
theorem dX12_isPersonHere_89 : decode cX12_isPersonHere 89 = .ok (.iload_n 2, 1) := by decide +kernel
theorem dX12_isPersonHere_90 : decode cX12_isPersonHere 90 = .ok (.ishr, 1) := by decide +kernel
theorem dX12_isPersonHere_91 : decode cX12_isPersonHere 91 = .ok (.iconst 1, 1) := by decide +kernel
theorem dX12_isPersonHere_92 : decode cX12_isPersonHere 92 = .ok (.iand, 1) := by decide +kernel
theorem dX12_isPersonHere_93 : decode cX12_isPersonHere 93 = .ok (.goto 4, 3) := by decide +kernel
theorem dX12_isPersonHere_96 : decode cX12_isPersonHere 96 = .ok (.iconst 2, 1) := by decide +kernel
theorem dX12_isPersonHere_97 : decode cX12_isPersonHere 97 = .ok (.iastore, 1) := by decide +kernel
theorem dX12_isPersonHere_98 : decode cX12_isPersonHere 98 = .ok (.aload_n 0, 1) := by decide +kernel
theorem dX12_isPersonHere_99 : decode cX12_isPersonHere 99 = .ok (.getfield 26, 3) := by decide +kernel
theorem dX12_isPersonHere_102 : decode cX12_isPersonHere 102 = .ok (.bipush 11, 2) := by decide +kernel
theorem dX12_isPersonHere_104 : decode cX12_isPersonHere 104 = .ok (.bipush 16, 2) := by decide +kernel
theorem dX12_isPersonHere_106 : decode cX12_isPersonHere 106 = .ok (.aload_n 0, 1) := by decide +kernel
theorem dX12_isPersonHere_107 : decode cX12_isPersonHere 107 = .ok (.getfield 26, 3) := by decide +kernel
theorem dX12_isPersonHere_110 : decode cX12_isPersonHere 110 = .ok (.iconst 2, 1) := by decide +kernel
theorem dX12_isPersonHere_111 : decode cX12_isPersonHere 111 = .ok (.iaload, 1) := by decide +kernel
theorem dX12_isPersonHere_112 : decode cX12_isPersonHere 112 = .ok (.imul, 1) := by decide +kernel
theorem dX12_isPersonHere_113 : decode cX12_isPersonHere 113 = .ok (.iadd, 1) := by decide +kernel
theorem dX12_isPersonHere_114 : decode cX12_isPersonHere 114 = .ok (.iconst 2, 1) := by decide +kernel
theorem dX12_isPersonHere_115 : decode cX12_isPersonHere 115 = .ok (.iload_n 2, 1) := by decide +kernel
theorem dX12_isPersonHere_116 : decode cX12_isPersonHere 116 = .ok (.imul, 1) := by decide +kernel
theorem dX12_isPersonHere_117 : decode cX12_isPersonHere 117 = .ok (.iadd, 1) := by decide +kernel
theorem dX12_isPersonHere_118 : decode cX12_isPersonHere 118 = .ok (.iconst 1, 1) := by decide +kernel
theorem dX12_isPersonHere_119 : decode cX12_isPersonHere 119 = .ok (.iadd, 1) := by decide +kernel
theorem dX12_isPersonHere_120 : decode cX12_isPersonHere 120 = .ok (.iload_n 3, 1) := by decide +kernel
theorem dX12_isPersonHere_121 : decode cX12_isPersonHere 121 = .ok (.ifCond .eq 8, 3) := by decide +kernel
theorem dX12_isPersonHere_124 : decode cX12_isPersonHere 124 = .ok (.bipush 10, 2) := by decide +kernel
theorem dX12_isPersonHere_126 : decode cX12_isPersonHere 126 = .ok (.goto 4, 3) := by decide +kernel
theorem dX12_isPersonHere_129 : decode cX12_isPersonHere 129 = .ok (.iconst 0, 1) := by decide +kernel
theorem dX12_isPersonHere_130 : decode cX12_isPersonHere 130 = .ok (.iastore, 1) := by decide +kernel
theorem dX12_isPersonHere_131 : decode cX12_isPersonHere 131 = .ok (.iinc 2 1, 3) := by decide +kernel
theorem dX12_isPersonHere_134 : decode cX12_isPersonHere 134 = .ok (.goto (-90), 3) := by decide +kernel
theorem dX12_isPersonHere_137 : decode cX12_isPersonHere 137 = .ok (.aload_n 0, 1) := by decide +kernel
theorem dX12_isPersonHere_138 : decode cX12_isPersonHere 138 = .ok (.getfield 26, 3) := by decide +kernel
theorem dX12_isPersonHere_141 : decode cX12_isPersonHere 141 = .ok (.bipush 123, 2) := by decide +kernel
theorem dX12_isPersonHere_143 : decode cX12_isPersonHere 143 = .ok (.aload_n 0, 1) := by decide +kernel
theorem dX12_isPersonHere_144 : decode cX12_isPersonHere 144 = .ok (.getfield 26, 3) := by decide +kernel
theorem dX12_isPersonHere_147 : decode cX12_isPersonHere 147 = .ok (.iconst 2, 1) := by decide +kernel
theorem dX12_isPersonHere_148 : decode cX12_isPersonHere 148 = .ok (.iaload, 1) := by decide +kernel
theorem dX12_isPersonHere_149 : decode cX12_isPersonHere 149 = .ok (.iadd, 1) := by decide +kernel
theorem dX12_isPersonHere_150 : decode cX12_isPersonHere 150 = .ok (.iconst 0, 1) := by decide +kernel
theorem dX12_isPersonHere_151 : decode cX12_isPersonHere 151 = .ok (.iastore, 1) := by decide +kernel
theorem dX12_isPersonHere_152 : decode cX12_isPersonHere 152 = .ok (.aload_n 0, 1) := by decide +kernel
theorem dX12_isPersonHere_153 : decode cX12_isPersonHere 153 = .ok (.getfield 26, 3) := by decide +kernel
theorem dX12_isPersonHere_156 : decode cX12_isPersonHere 156 = .ok (.iconst 2, 1) := by decide +kernel
theorem dX12_isPersonHere_157 : decode cX12_isPersonHere 157 = .ok (.dup2, 1) := by decide +kernel
theorem dX12_isPersonHere_158 : decode cX12_isPersonHere 158 = .ok (.iaload, 1) := by decide +kernel
theorem dX12_isPersonHere_159 : decode cX12_isPersonHere 159 = .ok (.iconst 1, 1) := by decide +kernel
theorem dX12_isPersonHere_160 : decode cX12_isPersonHere 160 = .ok (.iadd, 1) := by decide +kernel
theorem dX12_isPersonHere_161 : decode cX12_isPersonHere 161 = .ok (.iastore, 1) := by decide +kernel
theorem dX12_isPersonHere_162 : decode cX12_isPersonHere 162 = .ok (.iconst 1, 1) := by decide +kernel
theorem dX12_isPersonHere_163 : decode cX12_isPersonHere 163 = .ok (.ireturn, 1) := by decide +kernel
theorem dX12_isTrustHere_0 : decode cX12_isTrustHere 0 = .ok (.aload_n 0, 1) := by decide +kernel
theorem dX12_isTrustHere_1 : decode cX12_isTrustHere 1 = .ok (.invokevirtual 93, 3) := by decide +kernel
theorem dX12_isTrustHere_4 : decode cX12_isTrustHere 4 = .ok (.aload_n 0, 1) := by decide +kernel
theorem dX12_isTrustHere_5 : decode cX12_isTrustHere 5 = .ok (.bipush 9, 2) := by decide +kernel
theorem dX12_isTrustHere_7 : decode cX12_isTrustHere 7 = .ok (.iconst 0, 1) := by decide +kernel
theorem dX12_isTrustHere_8 : decode cX12_isTrustHere 8 = .ok (.aload_n 0, 1) := by decide +kernel
theorem dX12_isTrustHere_9 : decode cX12_isTrustHere 9 = .ok (.getfield 26, 3) := by decide +kernel
theorem dX12_isTrustHere_12 : decode cX12_isTrustHere 12 = .ok (.iconst 2, 1) := by decide +kernel
theorem dX12_isTrustHere_13 : decode cX12_isTrustHere 13 = .ok (.iaload, 1) := by decide +kernel
theorem dX12_isTrustHere_14 : decode cX12_isTrustHere 14 = .ok (.iconst 1, 1) := by decide +kernel
theorem dX12_isTrustHere_15 : decode cX12_isTrustHere 15 = .ok (.isub, 1) := by decide +kernel
theorem dX12_isTrustHere_16 : decode cX12_isTrustHere 16 = .ok (.invokevirtual 210, 3) := by decide +kernel
theorem dX12_isTrustHere_19 : decode cX12_isTrustHere 19 = .ok (.ifCond .eq 22, 3) := by decide +kernel
theorem dX12_isTrustHere_22 : decode cX12_isTrustHere 22 = .ok (.aload_n 0, 1) := by decide +kernel
theorem dX12_isTrustHere_23 : decode cX12_isTrustHere 23 = .ok (.bipush 8, 2) := by decide +kernel
theorem dX12_isTrustHere_25 : decode cX12_isTrustHere 25 = .ok (.bipush 9, 2) := by decide +kernel
theorem dX12_isTrustHere_27 : decode cX12_isTrustHere 27 = .ok (.aload_n 0, 1) := by decide +kernel
theorem dX12_isTrustHere_28 : decode cX12_isTrustHere 28 = .ok (.getfield 26, 3) := by decide +kernel
theorem dX12_isTrustHere_31 : decode cX12_isTrustHere 31 = .ok (.iconst 2, 1) := by decide +kernel
theorem dX12_isTrustHere_32 : decode cX12_isTrustHere 32 = .ok (.iaload, 1) := by decide +kernel
theorem dX12_isTrustHere_33 : decode cX12_isTrustHere 33 = .ok (.iconst 1, 1) := by decide +kernel
theorem dX12_isTrustHere_34 : decode cX12_isTrustHere 34 = .ok (.isub, 1) := by decide +kernel
theorem dX12_isTrustHere_35 : decode cX12_isTrustHere 35 = .ok (.invokevirtual 217, 3) := by decide +kernel
theorem dX12_isTrustHere_38 : decode cX12_isTrustHere 38 = .ok (.ifCond .ne 5, 3) := by decide +kernel
theorem dX12_isTrustHere_41 : decode cX12_isTrustHere 41 = .ok (.iconst 0, 1) := by decide +kernel
theorem dX12_isTrustHere_42 : decode cX12_isTrustHere 42 = .ok (.ireturn, 1) := by decide +kernel
theorem dX12_isTrustHere_43 : decode cX12_isTrustHere 43 = .ok (.aload_n 0, 1) := by decide +kernel
theorem dX12_isTrustHere_44 : decode cX12_isTrustHere 44 = .ok (.sipush 130, 3) := by decide +kernel
theorem dX12_isTrustHere_47 : decode cX12_isTrustHere 47 = .ok (.bipush 7, 2) := by decide +kernel
theorem dX12_isTrustHere_49 : decode cX12_isTrustHere 49 = .ok (.aload_n 0, 1) := by decide +kernel
theorem dX12_isTrustHere_50 : decode cX12_isTrustHere 50 = .ok (.getfield 26, 3) := by decide +kernel
theorem dX12_isTrustHere_53 : decode cX12_isTrustHere 53 = .ok (.bipush 9, 2) := by decide +kernel
theorem dX12_isTrustHere_55 : decode cX12_isTrustHere 55 = .ok (.iaload, 1) := by decide +kernel
theorem dX12_isTrustHere_56 : decode cX12_isTrustHere 56 = .ok (.imul, 1) := by decide +kernel
theorem dX12_isTrustHere_57 : decode cX12_isTrustHere 57 = .ok (.iadd, 1) := by decide +kernel
theorem dX12_isTrustHere_58 : decode cX12_isTrustHere 58 = .ok (.aload_n 0, 1) := by decide +kernel
theorem dX12_isTrustHere_59 : decode cX12_isTrustHere 59 = .ok (.getfield 26, 3) := by decide +kernel
theorem dX12_isTrustHere_62 : decode cX12_isTrustHere 62 = .ok (.bipush 8, 2) := by decide +kernel
theorem dX12_isTrustHere_64 : decode cX12_isTrustHere 64 = .ok (.iaload, 1) := by decide +kernel
theorem dX12_isTrustHere_65 : decode cX12_isTrustHere 65 = .ok (.iadd, 1) := by decide +kernel
theorem dX12_isTrustHere_66 : decode cX12_isTrustHere 66 = .ok (.iconst 0, 1) := by decide +kernel
theorem dX12_isTrustHere_67 : decode cX12_isTrustHere 67 = .ok (.bipush 9, 2) := by decide +kernel
theorem dX12_isTrustHere_69 : decode cX12_isTrustHere 69 = .ok (.invokevirtual 210, 3) := by decide +kernel
theorem dX12_isTrustHere_72 : decode cX12_isTrustHere 72 = .ok (.ireturn, 1) := by decide +kernel
theorem dX12_readStreet_0 : decode cX12_readStreet 0 = .ok (.iconst 0, 1) := by decide +kernel
theorem dX12_readStreet_1 : decode cX12_readStreet 1 = .ok (.istore_n 3, 1) := by decide +kernel
theorem dX12_readStreet_2 : decode cX12_readStreet 2 = .ok (.iload_n 3, 1) := by decide +kernel
theorem dX12_readStreet_3 : decode cX12_readStreet 3 = .ok (.aload_n 0, 1) := by decide +kernel
theorem dX12_readStreet_4 : decode cX12_readStreet 4 = .ok (.getfield 26, 3) := by decide +kernel
theorem dX12_readStreet_7 : decode cX12_readStreet 7 = .ok (.iconst 3, 1) := by decide +kernel
theorem dX12_readStreet_8 : decode cX12_readStreet 8 = .ok (.iaload, 1) := by decide +kernel
theorem dX12_readStreet_9 : decode cX12_readStreet 9 = .ok (.if_icmp .ge 65, 3) := by decide +kernel
theorem dX12_readStreet_12 : decode cX12_readStreet 12 = .ok (.aload_n 0, 1) := by decide +kernel
theorem dX12_readStreet_13 : decode cX12_readStreet 13 = .ok (.getfield 26, 3) := by decide +kernel
theorem dX12_readStreet_16 : decode cX12_readStreet 16 = .ok (.sipush 179, 3) := by decide +kernel
theorem dX12_readStreet_19 : decode cX12_readStreet 19 = .ok (.iconst 2, 1) := by decide +kernel
theorem dX12_readStreet_20 : decode cX12_readStreet 20 = .ok (.iload_n 3, 1) := by decide +kernel
theorem dX12_readStreet_21 : decode cX12_readStreet 21 = .ok (.imul, 1) := by decide +kernel
theorem dX12_readStreet_22 : decode cX12_readStreet 22 = .ok (.iadd, 1) := by decide +kernel
theorem dX12_readStreet_23 : decode cX12_readStreet 23 = .ok (.iaload, 1) := by decide +kernel
theorem dX12_readStreet_24 : decode cX12_readStreet 24 = .ok (.istore 4, 2) := by decide +kernel
theorem dX12_readStreet_26 : decode cX12_readStreet 26 = .ok (.aload_n 0, 1) := by decide +kernel
theorem dX12_readStreet_27 : decode cX12_readStreet 27 = .ok (.getfield 26, 3) := by decide +kernel
theorem dX12_readStreet_30 : decode cX12_readStreet 30 = .ok (.sipush 179, 3) := by decide +kernel
theorem dX12_readStreet_33 : decode cX12_readStreet 33 = .ok (.iconst 2, 1) := by decide +kernel
theorem dX12_readStreet_34 : decode cX12_readStreet 34 = .ok (.iload_n 3, 1) := by decide +kernel
theorem dX12_readStreet_35 : decode cX12_readStreet 35 = .ok (.imul, 1) := by decide +kernel
theorem dX12_readStreet_36 : decode cX12_readStreet 36 = .ok (.iadd, 1) := by decide +kernel
theorem dX12_readStreet_37 : decode cX12_readStreet 37 = .ok (.iconst 1, 1) := by decide +kernel
theorem dX12_readStreet_38 : decode cX12_readStreet 38 = .ok (.iadd, 1) := by decide +kernel
theorem dX12_readStreet_39 : decode cX12_readStreet 39 = .ok (.iaload, 1) := by decide +kernel
theorem dX12_readStreet_40 : decode cX12_readStreet 40 = .ok (.istore 5, 2) := by decide +kernel
theorem dX12_readStreet_42 : decode cX12_readStreet 42 = .ok (.iload 4, 2) := by decide +kernel
theorem dX12_readStreet_44 : decode cX12_readStreet 44 = .ok (.iload_n 1, 1) := by decide +kernel
theorem dX12_readStreet_45 : decode cX12_readStreet 45 = .ok (.if_icmp .ne 9, 3) := by decide +kernel
theorem dX12_readStreet_48 : decode cX12_readStreet 48 = .ok (.iload 5, 2) := by decide +kernel
theorem dX12_readStreet_50 : decode cX12_readStreet 50 = .ok (.iload_n 2, 1) := by decide +kernel
theorem dX12_readStreet_51 : decode cX12_readStreet 51 = .ok (.if_icmp .eq 15, 3) := by decide +kernel
theorem dX12_readStreet_54 : decode cX12_readStreet 54 = .ok (.iload 4, 2) := by decide +kernel
theorem dX12_readStreet_56 : decode cX12_readStreet 56 = .ok (.iload_n 2, 1) := by decide +kernel
theorem dX12_readStreet_57 : decode cX12_readStreet 57 = .ok (.if_icmp .ne 11, 3) := by decide +kernel
theorem dX12_readStreet_60 : decode cX12_readStreet 60 = .ok (.iload 5, 2) := by decide +kernel
theorem dX12_readStreet_62 : decode cX12_readStreet 62 = .ok (.iload_n 1, 1) := by decide +kernel
theorem dX12_readStreet_63 : decode cX12_readStreet 63 = .ok (.if_icmp .ne 5, 3) := by decide +kernel
theorem dX12_readStreet_66 : decode cX12_readStreet 66 = .ok (.iload_n 3, 1) := by decide +kernel
theorem dX12_readStreet_67 : decode cX12_readStreet 67 = .ok (.ireturn, 1) := by decide +kernel
theorem dX12_readStreet_68 : decode cX12_readStreet 68 = .ok (.iinc 3 1, 3) := by decide +kernel
theorem dX12_readStreet_71 : decode cX12_readStreet 71 = .ok (.goto (-69), 3) := by decide +kernel
theorem dX12_readStreet_74 : decode cX12_readStreet 74 = .ok (.iconst (-1), 1) := by decide +kernel
theorem dX12_readStreet_75 : decode cX12_readStreet 75 = .ok (.ireturn, 1) := by decide +kernel
theorem dX12_isStreetHere_0 : decode cX12_isStreetHere 0 = .ok (.aload_n 0, 1) := by decide +kernel
theorem dX12_isStreetHere_1 : decode cX12_isStreetHere 1 = .ok (.getfield 26, 3) := by decide +kernel
theorem dX12_isStreetHere_4 : decode cX12_isStreetHere 4 = .ok (.iconst 3, 1) := by decide +kernel
theorem dX12_isStreetHere_5 : decode cX12_isStreetHere 5 = .ok (.iaload, 1) := by decide +kernel
theorem dX12_isStreetHere_6 : decode cX12_isStreetHere 6 = .ok (.bipush 10, 2) := by decide +kernel
theorem dX12_isStreetHere_8 : decode cX12_isStreetHere 8 = .ok (.if_icmp .ne 10, 3) := by decide +kernel
theorem dX12_isStreetHere_11 : decode cX12_isStreetHere 11 = .ok (.aload_n 0, 1) := by decide +kernel
theorem dX12_isStreetHere_12 : decode cX12_isStreetHere 12 = .ok (.iconst 4, 1) := by decide +kernel
theorem dX12_isStreetHere_13 : decode cX12_isStreetHere 13 = .ok (.iload_n 1, 1) := by decide +kernel
theorem dX12_isStreetHere_14 : decode cX12_isStreetHere 14 = .ok (.invokevirtual 99, 3) := by decide +kernel
theorem dX12_isStreetHere_17 : decode cX12_isStreetHere 17 = .ok (.ireturn, 1) := by decide +kernel
theorem dX12_isStreetHere_18 : decode cX12_isStreetHere 18 = .ok (.aload_n 0, 1) := by decide +kernel
theorem dX12_isStreetHere_19 : decode cX12_isStreetHere 19 = .ok (.invokevirtual 93, 3) := by decide +kernel
theorem dX12_isStreetHere_22 : decode cX12_isStreetHere 22 = .ok (.sipush 179, 3) := by decide +kernel
theorem dX12_isStreetHere_25 : decode cX12_isStreetHere 25 = .ok (.iconst 2, 1) := by decide +kernel
theorem dX12_isStreetHere_26 : decode cX12_isStreetHere 26 = .ok (.aload_n 0, 1) := by decide +kernel
theorem dX12_isStreetHere_27 : decode cX12_isStreetHere 27 = .ok (.getfield 26, 3) := by decide +kernel
theorem dX12_isStreetHere_30 : decode cX12_isStreetHere 30 = .ok (.iconst 3, 1) := by decide +kernel
theorem dX12_isStreetHere_31 : decode cX12_isStreetHere 31 = .ok (.iaload, 1) := by decide +kernel
theorem dX12_isStreetHere_32 : decode cX12_isStreetHere 32 = .ok (.imul, 1) := by decide +kernel
theorem dX12_isStreetHere_33 : decode cX12_isStreetHere 33 = .ok (.iadd, 1) := by decide +kernel
theorem dX12_isStreetHere_34 : decode cX12_isStreetHere 34 = .ok (.istore_n 2, 1) := by decide +kernel
theorem dX12_isStreetHere_35 : decode cX12_isStreetHere 35 = .ok (.aload_n 0, 1) := by decide +kernel
theorem dX12_isStreetHere_36 : decode cX12_isStreetHere 36 = .ok (.iload_n 2, 1) := by decide +kernel
theorem dX12_isStreetHere_37 : decode cX12_isStreetHere 37 = .ok (.iconst 0, 1) := by decide +kernel
theorem dX12_isStreetHere_38 : decode cX12_isStreetHere 38 = .ok (.aload_n 0, 1) := by decide +kernel
theorem dX12_isStreetHere_39 : decode cX12_isStreetHere 39 = .ok (.getfield 26, 3) := by decide +kernel
theorem dX12_isStreetHere_42 : decode cX12_isStreetHere 42 = .ok (.iconst 2, 1) := by decide +kernel
theorem dX12_isStreetHere_43 : decode cX12_isStreetHere 43 = .ok (.iaload, 1) := by decide +kernel
theorem dX12_isStreetHere_44 : decode cX12_isStreetHere 44 = .ok (.iconst 1, 1) := by decide +kernel
theorem dX12_isStreetHere_45 : decode cX12_isStreetHere 45 = .ok (.isub, 1) := by decide +kernel
theorem dX12_isStreetHere_46 : decode cX12_isStreetHere 46 = .ok (.invokevirtual 210, 3) := by decide +kernel
theorem dX12_isStreetHere_49 : decode cX12_isStreetHere 49 = .ok (.ifCond .ne 5, 3) := by decide +kernel
theorem dX12_isStreetHere_52 : decode cX12_isStreetHere 52 = .ok (.iconst 0, 1) := by decide +kernel
theorem dX12_isStreetHere_53 : decode cX12_isStreetHere 53 = .ok (.ireturn, 1) := by decide +kernel
theorem dX12_isStreetHere_54 : decode cX12_isStreetHere 54 = .ok (.aload_n 0, 1) := by decide +kernel
theorem dX12_isStreetHere_55 : decode cX12_isStreetHere 55 = .ok (.invokevirtual 81, 3) := by decide +kernel
theorem dX12_isStreetHere_58 : decode cX12_isStreetHere 58 = .ok (.pop, 1) := by decide +kernel
theorem dX12_isStreetHere_59 : decode cX12_isStreetHere 59 = .ok (.aload_n 0, 1) := by decide +kernel
theorem dX12_isStreetHere_60 : decode cX12_isStreetHere 60 = .ok (.getfield 78, 3) := by decide +kernel
theorem dX12_isStreetHere_63 : decode cX12_isStreetHere 63 = .ok (.istore_n 3, 1) := by decide +kernel
theorem dX12_isStreetHere_64 : decode cX12_isStreetHere 64 = .ok (.aload_n 0, 1) := by decide +kernel
theorem dX12_isStreetHere_65 : decode cX12_isStreetHere 65 = .ok (.iload_n 2, 1) := by decide +kernel
theorem dX12_isStreetHere_66 : decode cX12_isStreetHere 66 = .ok (.iconst 1, 1) := by decide +kernel
theorem dX12_isStreetHere_67 : decode cX12_isStreetHere 67 = .ok (.iadd, 1) := by decide +kernel
theorem dX12_isStreetHere_68 : decode cX12_isStreetHere 68 = .ok (.iload_n 2, 1) := by decide +kernel
theorem dX12_isStreetHere_69 : decode cX12_isStreetHere 69 = .ok (.aload_n 0, 1) := by decide +kernel
theorem dX12_isStreetHere_70 : decode cX12_isStreetHere 70 = .ok (.getfield 26, 3) := by decide +kernel
theorem dX12_isStreetHere_73 : decode cX12_isStreetHere 73 = .ok (.iconst 2, 1) := by decide +kernel
theorem dX12_isStreetHere_74 : decode cX12_isStreetHere 74 = .ok (.iaload, 1) := by decide +kernel
theorem dX12_isStreetHere_75 : decode cX12_isStreetHere 75 = .ok (.iconst 1, 1) := by decide +kernel
theorem dX12_isStreetHere_76 : decode cX12_isStreetHere 76 = .ok (.isub, 1) := by decide +kernel
theorem dX12_isStreetHere_77 : decode cX12_isStreetHere 77 = .ok (.invokevirtual 217, 3) := by decide +kernel
theorem dX12_isStreetHere_80 : decode cX12_isStreetHere 80 = .ok (.ifCond .ne 5, 3) := by decide +kernel
theorem dX12_isStreetHere_83 : decode cX12_isStreetHere 83 = .ok (.iconst 0, 1) := by decide +kernel
theorem dX12_isStreetHere_84 : decode cX12_isStreetHere 84 = .ok (.ireturn, 1) := by decide +kernel
theorem dX12_isStreetHere_85 : decode cX12_isStreetHere 85 = .ok (.aload_n 0, 1) := by decide +kernel
theorem dX12_isStreetHere_86 : decode cX12_isStreetHere 86 = .ok (.aload_n 0, 1) := by decide +kernel
theorem dX12_isStreetHere_87 : decode cX12_isStreetHere 87 = .ok (.getfield 26, 3) := by decide +kernel
theorem dX12_isStreetHere_90 : decode cX12_isStreetHere 90 = .ok (.iload_n 2, 1) := by decide +kernel
theorem dX12_isStreetHere_91 : decode cX12_isStreetHere 91 = .ok (.iaload, 1) := by decide +kernel
theorem dX12_isStreetHere_92 : decode cX12_isStreetHere 92 = .ok (.aload_n 0, 1) := by decide +kernel
theorem dX12_isStreetHere_93 : decode cX12_isStreetHere 93 = .ok (.getfield 26, 3) := by decide +kernel
theorem dX12_isStreetHere_96 : decode cX12_isStreetHere 96 = .ok (.iload_n 2, 1) := by decide +kernel
theorem dX12_isStreetHere_97 : decode cX12_isStreetHere 97 = .ok (.iconst 1, 1) := by decide +kernel
theorem dX12_isStreetHere_98 : decode cX12_isStreetHere 98 = .ok (.iadd, 1) := by decide +kernel
theorem dX12_isStreetHere_99 : decode cX12_isStreetHere 99 = .ok (.iaload, 1) := by decide +kernel
theorem dX12_isStreetHere_100 : decode cX12_isStreetHere 100 = .ok (.invokevirtual 220, 3) := by decide +kernel
theorem dX12_isStreetHere_103 : decode cX12_isStreetHere 103 = .ok (.ifCond .lt 10, 3) := by decide +kernel
theorem dX12_isStreetHere_106 : decode cX12_isStreetHere 106 = .ok (.aload_n 0, 1) := by decide +kernel
theorem dX12_isStreetHere_107 : decode cX12_isStreetHere 107 = .ok (.iconst 1, 1) := by decide +kernel
theorem dX12_isStreetHere_108 : decode cX12_isStreetHere 108 = .ok (.iload_n 3, 1) := by decide +kernel
theorem dX12_isStreetHere_109 : decode cX12_isStreetHere 109 = .ok (.invokevirtual 99, 3) := by decide +kernel
theorem dX12_isStreetHere_112 : decode cX12_isStreetHere 112 = .ok (.ireturn, 1) := by decide +kernel
theorem dX12_isStreetHere_113 : decode cX12_isStreetHere 113 = .ok (.aload_n 0, 1) := by decide +kernel
theorem dX12_isStreetHere_114 : decode cX12_isStreetHere 114 = .ok (.getfield 26, 3) := by decide +kernel
theorem dX12_isStreetHere_117 : decode cX12_isStreetHere 117 = .ok (.iconst 3, 1) := by decide +kernel
theorem dX12_isStreetHere_118 : decode cX12_isStreetHere 118 = .ok (.dup2, 1) := by decide +kernel
theorem dX12_isStreetHere_119 : decode cX12_isStreetHere 119 = .ok (.iaload, 1) := by decide +kernel
theorem dX12_isStreetHere_120 : decode cX12_isStreetHere 120 = .ok (.iconst 1, 1) := by decide +kernel
theorem dX12_isStreetHere_121 : decode cX12_isStreetHere 121 = .ok (.iadd, 1) := by decide +kernel
theorem dX12_isStreetHere_122 : decode cX12_isStreetHere 122 = .ok (.iastore, 1) := by decide +kernel
theorem dX12_isStreetHere_123 : decode cX12_isStreetHere 123 = .ok (.iconst 1, 1) := by decide +kernel
theorem dX12_isStreetHere_124 : decode cX12_isStreetHere 124 = .ok (.ireturn, 1) := by decide +kernel
theorem dX12_isIfHere_0 : decode cX12_isIfHere 0 = .ok (.aload_n 0, 1) := by decide +kernel
theorem dX12_isIfHere_1 : decode cX12_isIfHere 1 = .ok (.getfield 26, 3) := by decide +kernel
theorem dX12_isIfHere_4 : decode cX12_isIfHere 4 = .ok (.iconst 4, 1) := by decide +kernel
theorem dX12_isIfHere_5 : decode cX12_isIfHere 5 = .ok (.iaload, 1) := by decide +kernel
theorem dX12_isIfHere_6 : decode cX12_isIfHere 6 = .ok (.bipush 10, 2) := by decide +kernel
theorem dX12_isIfHere_8 : decode cX12_isIfHere 8 = .ok (.if_icmp .ne 10, 3) := by decide +kernel
theorem dX12_isIfHere_11 : decode cX12_isIfHere 11 = .ok (.aload_n 0, 1) := by decide +kernel
theorem dX12_isIfHere_12 : decode cX12_isIfHere 12 = .ok (.iconst 4, 1) := by decide +kernel
theorem dX12_isIfHere_13 : decode cX12_isIfHere 13 = .ok (.iload_n 1, 1) := by decide +kernel
theorem dX12_isIfHere_14 : decode cX12_isIfHere 14 = .ok (.invokevirtual 99, 3) := by decide +kernel
theorem dX12_isIfHere_17 : decode cX12_isIfHere 17 = .ok (.ireturn, 1) := by decide +kernel
theorem dX12_isIfHere_18 : decode cX12_isIfHere 18 = .ok (.aload_n 0, 1) := by decide +kernel
theorem dX12_isIfHere_19 : decode cX12_isIfHere 19 = .ok (.invokevirtual 93, 3) := by decide +kernel
theorem dX12_isIfHere_22 : decode cX12_isIfHere 22 = .ok (.sipush 199, 3) := by decide +kernel
theorem dX12_isIfHere_25 : decode cX12_isIfHere 25 = .ok (.iconst 4, 1) := by decide +kernel
theorem dX12_isIfHere_26 : decode cX12_isIfHere 26 = .ok (.aload_n 0, 1) := by decide +kernel
theorem dX12_isIfHere_27 : decode cX12_isIfHere 27 = .ok (.getfield 26, 3) := by decide +kernel
theorem dX12_isIfHere_30 : decode cX12_isIfHere 30 = .ok (.iconst 4, 1) := by decide +kernel
theorem dX12_isIfHere_31 : decode cX12_isIfHere 31 = .ok (.iaload, 1) := by decide +kernel
theorem dX12_isIfHere_32 : decode cX12_isIfHere 32 = .ok (.imul, 1) := by decide +kernel
theorem dX12_isIfHere_33 : decode cX12_isIfHere 33 = .ok (.iadd, 1) := by decide +kernel
theorem dX12_isIfHere_34 : decode cX12_isIfHere 34 = .ok (.istore_n 2, 1) := by decide +kernel
theorem dX12_isIfHere_35 : decode cX12_isIfHere 35 = .ok (.aload_n 0, 1) := by decide +kernel
theorem dX12_isIfHere_36 : decode cX12_isIfHere 36 = .ok (.iload_n 2, 1) := by decide +kernel
theorem dX12_isIfHere_37 : decode cX12_isIfHere 37 = .ok (.iconst 0, 1) := by decide +kernel
theorem dX12_isIfHere_38 : decode cX12_isIfHere 38 = .ok (.aload_n 0, 1) := by decide +kernel
theorem dX12_isIfHere_39 : decode cX12_isIfHere 39 = .ok (.getfield 26, 3) := by decide +kernel
theorem dX12_isIfHere_42 : decode cX12_isIfHere 42 = .ok (.iconst 0, 1) := by decide +kernel
theorem dX12_isIfHere_43 : decode cX12_isIfHere 43 = .ok (.iaload, 1) := by decide +kernel
theorem dX12_isIfHere_44 : decode cX12_isIfHere 44 = .ok (.iconst 1, 1) := by decide +kernel
theorem dX12_isIfHere_45 : decode cX12_isIfHere 45 = .ok (.isub, 1) := by decide +kernel
theorem dX12_isIfHere_46 : decode cX12_isIfHere 46 = .ok (.invokevirtual 210, 3) := by decide +kernel
theorem dX12_isIfHere_49 : decode cX12_isIfHere 49 = .ok (.ifCond .eq 46, 3) := by decide +kernel
theorem dX12_isIfHere_52 : decode cX12_isIfHere 52 = .ok (.aload_n 0, 1) := by decide +kernel
theorem dX12_isIfHere_53 : decode cX12_isIfHere 53 = .ok (.iload_n 2, 1) := by decide +kernel
theorem dX12_isIfHere_54 : decode cX12_isIfHere 54 = .ok (.iconst 1, 1) := by decide +kernel
theorem dX12_isIfHere_55 : decode cX12_isIfHere 55 = .ok (.iadd, 1) := by decide +kernel
theorem dX12_isIfHere_56 : decode cX12_isIfHere 56 = .ok (.iconst 0, 1) := by decide +kernel
theorem dX12_isIfHere_57 : decode cX12_isIfHere 57 = .ok (.iconst 1, 1) := by decide +kernel
theorem dX12_isIfHere_58 : decode cX12_isIfHere 58 = .ok (.invokevirtual 210, 3) := by decide +kernel
theorem dX12_isIfHere_61 : decode cX12_isIfHere 61 = .ok (.ifCond .eq 34, 3) := by decide +kernel
theorem dX12_isIfHere_64 : decode cX12_isIfHere 64 = .ok (.aload_n 0, 1) := by decide +kernel
theorem dX12_isIfHere_65 : decode cX12_isIfHere 65 = .ok (.iload_n 2, 1) := by decide +kernel
theorem dX12_isIfHere_66 : decode cX12_isIfHere 66 = .ok (.iconst 2, 1) := by decide +kernel
theorem dX12_isIfHere_67 : decode cX12_isIfHere 67 = .ok (.iadd, 1) := by decide +kernel
theorem dX12_isIfHere_68 : decode cX12_isIfHere 68 = .ok (.iload_n 2, 1) := by decide +kernel
theorem dX12_isIfHere_69 : decode cX12_isIfHere 69 = .ok (.aload_n 0, 1) := by decide +kernel
theorem dX12_isIfHere_70 : decode cX12_isIfHere 70 = .ok (.getfield 26, 3) := by decide +kernel
theorem dX12_isIfHere_73 : decode cX12_isIfHere 73 = .ok (.iconst 0, 1) := by decide +kernel
theorem dX12_isIfHere_74 : decode cX12_isIfHere 74 = .ok (.iaload, 1) := by decide +kernel
theorem dX12_isIfHere_75 : decode cX12_isIfHere 75 = .ok (.iconst 1, 1) := by decide +kernel
theorem dX12_isIfHere_76 : decode cX12_isIfHere 76 = .ok (.isub, 1) := by decide +kernel
theorem dX12_isIfHere_77 : decode cX12_isIfHere 77 = .ok (.invokevirtual 217, 3) := by decide +kernel
theorem dX12_isIfHere_80 : decode cX12_isIfHere 80 = .ok (.ifCond .eq 15, 3) := by decide +kernel
theorem dX12_isIfHere_83 : decode cX12_isIfHere 83 = .ok (.aload_n 0, 1) := by decide +kernel
theorem dX12_isIfHere_84 : decode cX12_isIfHere 84 = .ok (.iload_n 2, 1) := by decide +kernel
theorem dX12_isIfHere_85 : decode cX12_isIfHere 85 = .ok (.iconst 3, 1) := by decide +kernel
theorem dX12_isIfHere_86 : decode cX12_isIfHere 86 = .ok (.iadd, 1) := by decide +kernel
theorem dX12_isIfHere_87 : decode cX12_isIfHere 87 = .ok (.iconst 0, 1) := by decide +kernel
theorem dX12_isIfHere_88 : decode cX12_isIfHere 88 = .ok (.iconst 1, 1) := by decide +kernel
theorem dX12_isIfHere_89 : decode cX12_isIfHere 89 = .ok (.invokevirtual 210, 3) := by decide +kernel
theorem dX12_isIfHere_92 : decode cX12_isIfHere 92 = .ok (.ifCond .ne 5, 3) := by decide +kernel
theorem dX12_isIfHere_95 : decode cX12_isIfHere 95 = .ok (.iconst 0, 1) := by decide +kernel
theorem dX12_isIfHere_96 : decode cX12_isIfHere 96 = .ok (.ireturn, 1) := by decide +kernel
theorem dX12_isIfHere_97 : decode cX12_isIfHere 97 = .ok (.aload_n 0, 1) := by decide +kernel
theorem dX12_isIfHere_98 : decode cX12_isIfHere 98 = .ok (.getfield 26, 3) := by decide +kernel
theorem dX12_isIfHere_101 : decode cX12_isIfHere 101 = .ok (.iconst 4, 1) := by decide +kernel
theorem dX12_isIfHere_102 : decode cX12_isIfHere 102 = .ok (.dup2, 1) := by decide +kernel
theorem dX12_isIfHere_103 : decode cX12_isIfHere 103 = .ok (.iaload, 1) := by decide +kernel
theorem dX12_isIfHere_104 : decode cX12_isIfHere 104 = .ok (.iconst 1, 1) := by decide +kernel
theorem dX12_isIfHere_105 : decode cX12_isIfHere 105 = .ok (.iadd, 1) := by decide +kernel
theorem dX12_isIfHere_106 : decode cX12_isIfHere 106 = .ok (.iastore, 1) := by decide +kernel
theorem dX12_isIfHere_107 : decode cX12_isIfHere 107 = .ok (.iconst 1, 1) := by decide +kernel
theorem dX12_isIfHere_108 : decode cX12_isIfHere 108 = .ok (.ireturn, 1) := by decide +kernel
theorem dX12_isHarmHere_0 : decode cX12_isHarmHere 0 = .ok (.aload_n 0, 1) := by decide +kernel
theorem dX12_isHarmHere_1 : decode cX12_isHarmHere 1 = .ok (.getfield 26, 3) := by decide +kernel
theorem dX12_isHarmHere_4 : decode cX12_isHarmHere 4 = .ok (.iconst 5, 1) := by decide +kernel
theorem dX12_isHarmHere_5 : decode cX12_isHarmHere 5 = .ok (.iaload, 1) := by decide +kernel
theorem dX12_isHarmHere_6 : decode cX12_isHarmHere 6 = .ok (.bipush 10, 2) := by decide +kernel
theorem dX12_isHarmHere_8 : decode cX12_isHarmHere 8 = .ok (.if_icmp .ne 10, 3) := by decide +kernel
theorem dX12_isHarmHere_11 : decode cX12_isHarmHere 11 = .ok (.aload_n 0, 1) := by decide +kernel
theorem dX12_isHarmHere_12 : decode cX12_isHarmHere 12 = .ok (.iconst 4, 1) := by decide +kernel
theorem dX12_isHarmHere_13 : decode cX12_isHarmHere 13 = .ok (.iload_n 1, 1) := by decide +kernel
theorem dX12_isHarmHere_14 : decode cX12_isHarmHere 14 = .ok (.invokevirtual 99, 3) := by decide +kernel
theorem dX12_isHarmHere_17 : decode cX12_isHarmHere 17 = .ok (.ireturn, 1) := by decide +kernel
theorem dX12_isHarmHere_18 : decode cX12_isHarmHere 18 = .ok (.aload_n 0, 1) := by decide +kernel
theorem dX12_isHarmHere_19 : decode cX12_isHarmHere 19 = .ok (.invokevirtual 93, 3) := by decide +kernel
theorem dX12_isHarmHere_22 : decode cX12_isHarmHere 22 = .ok (.sipush 239, 3) := by decide +kernel
theorem dX12_isHarmHere_25 : decode cX12_isHarmHere 25 = .ok (.iconst 3, 1) := by decide +kernel
theorem dX12_isHarmHere_26 : decode cX12_isHarmHere 26 = .ok (.aload_n 0, 1) := by decide +kernel
theorem dX12_isHarmHere_27 : decode cX12_isHarmHere 27 = .ok (.getfield 26, 3) := by decide +kernel
theorem dX12_isHarmHere_30 : decode cX12_isHarmHere 30 = .ok (.iconst 5, 1) := by decide +kernel
theorem dX12_isHarmHere_31 : decode cX12_isHarmHere 31 = .ok (.iaload, 1) := by decide +kernel
theorem dX12_isHarmHere_32 : decode cX12_isHarmHere 32 = .ok (.imul, 1) := by decide +kernel
theorem dX12_isHarmHere_33 : decode cX12_isHarmHere 33 = .ok (.iadd, 1) := by decide +kernel
theorem dX12_isHarmHere_34 : decode cX12_isHarmHere 34 = .ok (.istore_n 2, 1) := by decide +kernel
theorem dX12_isHarmHere_35 : decode cX12_isHarmHere 35 = .ok (.aload_n 0, 1) := by decide +kernel
theorem dX12_isHarmHere_36 : decode cX12_isHarmHere 36 = .ok (.iload_n 2, 1) := by decide +kernel
theorem dX12_isHarmHere_37 : decode cX12_isHarmHere 37 = .ok (.iconst 0, 1) := by decide +kernel
theorem dX12_isHarmHere_38 : decode cX12_isHarmHere 38 = .ok (.aload_n 0, 1) := by decide +kernel
theorem dX12_isHarmHere_39 : decode cX12_isHarmHere 39 = .ok (.getfield 26, 3) := by decide +kernel
theorem dX12_isHarmHere_42 : decode cX12_isHarmHere 42 = .ok (.iconst 0, 1) := by decide +kernel
theorem dX12_isHarmHere_43 : decode cX12_isHarmHere 43 = .ok (.iaload, 1) := by decide +kernel
theorem dX12_isHarmHere_44 : decode cX12_isHarmHere 44 = .ok (.iconst 1, 1) := by decide +kernel
theorem dX12_isHarmHere_45 : decode cX12_isHarmHere 45 = .ok (.isub, 1) := by decide +kernel
theorem dX12_isHarmHere_46 : decode cX12_isHarmHere 46 = .ok (.invokevirtual 210, 3) := by decide +kernel
theorem dX12_isHarmHere_49 : decode cX12_isHarmHere 49 = .ok (.ifCond .eq 28, 3) := by decide +kernel
theorem dX12_isHarmHere_52 : decode cX12_isHarmHere 52 = .ok (.aload_n 0, 1) := by decide +kernel
theorem dX12_isHarmHere_53 : decode cX12_isHarmHere 53 = .ok (.iload_n 2, 1) := by decide +kernel
theorem dX12_isHarmHere_54 : decode cX12_isHarmHere 54 = .ok (.iconst 1, 1) := by decide +kernel
theorem dX12_isHarmHere_55 : decode cX12_isHarmHere 55 = .ok (.iadd, 1) := by decide +kernel
theorem dX12_isHarmHere_56 : decode cX12_isHarmHere 56 = .ok (.iconst 0, 1) := by decide +kernel
theorem dX12_isHarmHere_57 : decode cX12_isHarmHere 57 = .ok (.iconst 1, 1) := by decide +kernel
theorem dX12_isHarmHere_58 : decode cX12_isHarmHere 58 = .ok (.invokevirtual 210, 3) := by decide +kernel
theorem dX12_isHarmHere_61 : decode cX12_isHarmHere 61 = .ok (.ifCond .eq 16, 3) := by decide +kernel
theorem dX12_isHarmHere_64 : decode cX12_isHarmHere 64 = .ok (.aload_n 0, 1) := by decide +kernel
theorem dX12_isHarmHere_65 : decode cX12_isHarmHere 65 = .ok (.iload_n 2, 1) := by decide +kernel
theorem dX12_isHarmHere_66 : decode cX12_isHarmHere 66 = .ok (.iconst 2, 1) := by decide +kernel
theorem dX12_isHarmHere_67 : decode cX12_isHarmHere 67 = .ok (.iadd, 1) := by decide +kernel
theorem dX12_isHarmHere_68 : decode cX12_isHarmHere 68 = .ok (.iconst 1, 1) := by decide +kernel
theorem dX12_isHarmHere_69 : decode cX12_isHarmHere 69 = .ok (.bipush 99, 2) := by decide +kernel
theorem dX12_isHarmHere_71 : decode cX12_isHarmHere 71 = .ok (.invokevirtual 210, 3) := by decide +kernel
theorem dX12_isHarmHere_74 : decode cX12_isHarmHere 74 = .ok (.ifCond .ne 5, 3) := by decide +kernel
theorem dX12_isHarmHere_77 : decode cX12_isHarmHere 77 = .ok (.iconst 0, 1) := by decide +kernel
theorem dX12_isHarmHere_78 : decode cX12_isHarmHere 78 = .ok (.ireturn, 1) := by decide +kernel
theorem dX12_isHarmHere_79 : decode cX12_isHarmHere 79 = .ok (.aload_n 0, 1) := by decide +kernel
theorem dX12_isHarmHere_80 : decode cX12_isHarmHere 80 = .ok (.getfield 26, 3) := by decide +kernel
theorem dX12_isHarmHere_83 : decode cX12_isHarmHere 83 = .ok (.iconst 5, 1) := by decide +kernel
theorem dX12_isHarmHere_84 : decode cX12_isHarmHere 84 = .ok (.dup2, 1) := by decide +kernel
theorem dX12_isHarmHere_85 : decode cX12_isHarmHere 85 = .ok (.iaload, 1) := by decide +kernel
theorem dX12_isHarmHere_86 : decode cX12_isHarmHere 86 = .ok (.iconst 1, 1) := by decide +kernel
theorem dX12_isHarmHere_87 : decode cX12_isHarmHere 87 = .ok (.iadd, 1) := by decide +kernel
theorem dX12_isHarmHere_88 : decode cX12_isHarmHere 88 = .ok (.iastore, 1) := by decide +kernel
theorem dX12_isHarmHere_89 : decode cX12_isHarmHere 89 = .ok (.iconst 1, 1) := by decide +kernel
theorem dX12_isHarmHere_90 : decode cX12_isHarmHere 90 = .ok (.ireturn, 1) := by decide +kernel
theorem dX12_isChildHere_0 : decode cX12_isChildHere 0 = .ok (.aload_n 0, 1) := by decide +kernel
theorem dX12_isChildHere_1 : decode cX12_isChildHere 1 = .ok (.invokevirtual 93, 3) := by decide +kernel
theorem dX12_isChildHere_4 : decode cX12_isChildHere 4 = .ok (.aload_n 0, 1) := by decide +kernel
theorem dX12_isChildHere_5 : decode cX12_isChildHere 5 = .ok (.iconst 0, 1) := by decide +kernel
theorem dX12_isChildHere_6 : decode cX12_isChildHere 6 = .ok (.aload_n 0, 1) := by decide +kernel
theorem dX12_isChildHere_7 : decode cX12_isChildHere 7 = .ok (.getfield 26, 3) := by decide +kernel
theorem dX12_isChildHere_10 : decode cX12_isChildHere 10 = .ok (.iconst 2, 1) := by decide +kernel
theorem dX12_isChildHere_11 : decode cX12_isChildHere 11 = .ok (.iaload, 1) := by decide +kernel
theorem dX12_isChildHere_12 : decode cX12_isChildHere 12 = .ok (.iconst 1, 1) := by decide +kernel
theorem dX12_isChildHere_13 : decode cX12_isChildHere 13 = .ok (.isub, 1) := by decide +kernel
theorem dX12_isChildHere_14 : decode cX12_isChildHere 14 = .ok (.invokevirtual 159, 3) := by decide +kernel
theorem dX12_isChildHere_17 : decode cX12_isChildHere 17 = .ok (.ifCond .ne 5, 3) := by decide +kernel
theorem dX12_isChildHere_20 : decode cX12_isChildHere 20 = .ok (.iconst 0, 1) := by decide +kernel
theorem dX12_isChildHere_21 : decode cX12_isChildHere 21 = .ok (.ireturn, 1) := by decide +kernel
theorem dX12_isChildHere_22 : decode cX12_isChildHere 22 = .ok (.aload_n 0, 1) := by decide +kernel
theorem dX12_isChildHere_23 : decode cX12_isChildHere 23 = .ok (.getfield 26, 3) := by decide +kernel
theorem dX12_isChildHere_26 : decode cX12_isChildHere 26 = .ok (.sipush 269, 3) := by decide +kernel
theorem dX12_isChildHere_29 : decode cX12_isChildHere 29 = .ok (.dup2, 1) := by decide +kernel
theorem dX12_isChildHere_30 : decode cX12_isChildHere 30 = .ok (.iaload, 1) := by decide +kernel
theorem dX12_isChildHere_31 : decode cX12_isChildHere 31 = .ok (.iconst 1, 1) := by decide +kernel
theorem dX12_isChildHere_32 : decode cX12_isChildHere 32 = .ok (.aload_n 0, 1) := by decide +kernel
theorem dX12_isChildHere_33 : decode cX12_isChildHere 33 = .ok (.getfield 103, 3) := by decide +kernel
theorem dX12_isChildHere_36 : decode cX12_isChildHere 36 = .ok (.ishl, 1) := by decide +kernel
theorem dX12_isChildHere_37 : decode cX12_isChildHere 37 = .ok (.ior, 1) := by decide +kernel
theorem dX12_isChildHere_38 : decode cX12_isChildHere 38 = .ok (.iastore, 1) := by decide +kernel
theorem dX12_isChildHere_39 : decode cX12_isChildHere 39 = .ok (.iconst 1, 1) := by decide +kernel
theorem dX12_isChildHere_40 : decode cX12_isChildHere 40 = .ok (.ireturn, 1) := by decide +kernel
theorem dX12_isCorrectHere_0 : decode cX12_isCorrectHere 0 = .ok (.aload_n 0, 1) := by decide +kernel
theorem dX12_isCorrectHere_1 : decode cX12_isCorrectHere 1 = .ok (.getfield 26, 3) := by decide +kernel
theorem dX12_isCorrectHere_4 : decode cX12_isCorrectHere 4 = .ok (.bipush 10, 2) := by decide +kernel
theorem dX12_isCorrectHere_6 : decode cX12_isCorrectHere 6 = .ok (.iaload, 1) := by decide +kernel
theorem dX12_isCorrectHere_7 : decode cX12_isCorrectHere 7 = .ok (.iconst 1, 1) := by decide +kernel
theorem dX12_isCorrectHere_8 : decode cX12_isCorrectHere 8 = .ok (.if_icmp .ne 10, 3) := by decide +kernel
theorem dX12_isCorrectHere_11 : decode cX12_isCorrectHere 11 = .ok (.aload_n 0, 1) := by decide +kernel
theorem dX12_isCorrectHere_12 : decode cX12_isCorrectHere 12 = .ok (.iconst 4, 1) := by decide +kernel
theorem dX12_isCorrectHere_13 : decode cX12_isCorrectHere 13 = .ok (.iload_n 1, 1) := by decide +kernel
theorem dX12_isCorrectHere_14 : decode cX12_isCorrectHere 14 = .ok (.invokevirtual 99, 3) := by decide +kernel
theorem dX12_isCorrectHere_17 : decode cX12_isCorrectHere 17 = .ok (.ireturn, 1) := by decide +kernel
theorem dX12_isCorrectHere_18 : decode cX12_isCorrectHere 18 = .ok (.aload_n 0, 1) := by decide +kernel
theorem dX12_isCorrectHere_19 : decode cX12_isCorrectHere 19 = .ok (.invokevirtual 93, 3) := by decide +kernel
theorem dX12_isCorrectHere_22 : decode cX12_isCorrectHere 22 = .ok (.aload_n 0, 1) := by decide +kernel
theorem dX12_isCorrectHere_23 : decode cX12_isCorrectHere 23 = .ok (.getfield 26, 3) := by decide +kernel
theorem dX12_isCorrectHere_26 : decode cX12_isCorrectHere 26 = .ok (.bipush 10, 2) := by decide +kernel
theorem dX12_isCorrectHere_28 : decode cX12_isCorrectHere 28 = .ok (.iconst 1, 1) := by decide +kernel
theorem dX12_isCorrectHere_29 : decode cX12_isCorrectHere 29 = .ok (.iastore, 1) := by decide +kernel
theorem dX12_isCorrectHere_30 : decode cX12_isCorrectHere 30 = .ok (.iconst 1, 1) := by decide +kernel
theorem dX12_isCorrectHere_31 : decode cX12_isCorrectHere 31 = .ok (.ireturn, 1) := by decide +kernel
theorem dX12_townLineHere_0 : decode cX12_townLineHere 0 = .ok (.aload_n 0, 1) := by decide +kernel
theorem dX12_townLineHere_1 : decode cX12_townLineHere 1 = .ok (.ldc2_w 224, 3) := by decide +kernel
theorem dX12_townLineHere_4 : decode cX12_townLineHere 4 = .ok (.invokevirtual 89, 3) := by decide +kernel
theorem dX12_townLineHere_7 : decode cX12_townLineHere 7 = .ok (.ifCond .eq 9, 3) := by decide +kernel
theorem dX12_townLineHere_10 : decode cX12_townLineHere 10 = .ok (.aload_n 0, 1) := by decide +kernel
theorem dX12_townLineHere_11 : decode cX12_townLineHere 11 = .ok (.iload_n 1, 1) := by decide +kernel
theorem dX12_townLineHere_12 : decode cX12_townLineHere 12 = .ok (.invokevirtual 226, 3) := by decide +kernel
theorem dX12_townLineHere_15 : decode cX12_townLineHere 15 = .ok (.ireturn, 1) := by decide +kernel
theorem dX12_townLineHere_16 : decode cX12_townLineHere 16 = .ok (.aload_n 0, 1) := by decide +kernel
theorem dX12_townLineHere_17 : decode cX12_townLineHere 17 = .ok (.getfield 26, 3) := by decide +kernel
theorem dX12_townLineHere_20 : decode cX12_townLineHere 20 = .ok (.iconst 0, 1) := by decide +kernel
theorem dX12_townLineHere_21 : decode cX12_townLineHere 21 = .ok (.iaload, 1) := by decide +kernel
theorem dX12_townLineHere_22 : decode cX12_townLineHere 22 = .ok (.ifCond .ne 10, 3) := by decide +kernel
theorem dX12_townLineHere_25 : decode cX12_townLineHere 25 = .ok (.aload_n 0, 1) := by decide +kernel
theorem dX12_townLineHere_26 : decode cX12_townLineHere 26 = .ok (.iconst 4, 1) := by decide +kernel
theorem dX12_townLineHere_27 : decode cX12_townLineHere 27 = .ok (.iload_n 1, 1) := by decide +kernel
theorem dX12_townLineHere_28 : decode cX12_townLineHere 28 = .ok (.invokevirtual 99, 3) := by decide +kernel
theorem dX12_townLineHere_31 : decode cX12_townLineHere 31 = .ok (.ireturn, 1) := by decide +kernel
theorem dX12_townLineHere_32 : decode cX12_townLineHere 32 = .ok (.aload_n 0, 1) := by decide +kernel
theorem dX12_townLineHere_33 : decode cX12_townLineHere 33 = .ok (.ldc2_w 229, 3) := by decide +kernel
theorem dX12_townLineHere_36 : decode cX12_townLineHere 36 = .ok (.invokevirtual 89, 3) := by decide +kernel
theorem dX12_townLineHere_39 : decode cX12_townLineHere 39 = .ok (.ifCond .eq 9, 3) := by decide +kernel
theorem dX12_townLineHere_42 : decode cX12_townLineHere 42 = .ok (.aload_n 0, 1) := by decide +kernel
theorem dX12_townLineHere_43 : decode cX12_townLineHere 43 = .ok (.iload_n 1, 1) := by decide +kernel
theorem dX12_townLineHere_44 : decode cX12_townLineHere 44 = .ok (.invokevirtual 231, 3) := by decide +kernel
theorem dX12_townLineHere_47 : decode cX12_townLineHere 47 = .ok (.ireturn, 1) := by decide +kernel
theorem dX12_townLineHere_48 : decode cX12_townLineHere 48 = .ok (.aload_n 0, 1) := by decide +kernel
theorem dX12_townLineHere_49 : decode cX12_townLineHere 49 = .ok (.ldc2_w 128, 3) := by decide +kernel
theorem dX12_townLineHere_52 : decode cX12_townLineHere 52 = .ok (.invokevirtual 89, 3) := by decide +kernel
theorem dX12_townLineHere_55 : decode cX12_townLineHere 55 = .ok (.ifCond .eq 8, 3) := by decide +kernel
theorem dX12_townLineHere_58 : decode cX12_townLineHere 58 = .ok (.aload_n 0, 1) := by decide +kernel
theorem dX12_townLineHere_59 : decode cX12_townLineHere 59 = .ok (.invokevirtual 234, 3) := by decide +kernel
theorem dX12_townLineHere_62 : decode cX12_townLineHere 62 = .ok (.ireturn, 1) := by decide +kernel
theorem dX12_townLineHere_63 : decode cX12_townLineHere 63 = .ok (.aload_n 0, 1) := by decide +kernel
theorem dX12_townLineHere_64 : decode cX12_townLineHere 64 = .ok (.ldc2_w 237, 3) := by decide +kernel
theorem dX12_townLineHere_67 : decode cX12_townLineHere 67 = .ok (.invokevirtual 89, 3) := by decide +kernel
theorem dX12_townLineHere_70 : decode cX12_townLineHere 70 = .ok (.ifCond .eq 9, 3) := by decide +kernel
theorem dX12_townLineHere_73 : decode cX12_townLineHere 73 = .ok (.aload_n 0, 1) := by decide +kernel
theorem dX12_townLineHere_74 : decode cX12_townLineHere 74 = .ok (.iload_n 1, 1) := by decide +kernel
theorem dX12_townLineHere_75 : decode cX12_townLineHere 75 = .ok (.invokevirtual 239, 3) := by decide +kernel
theorem dX12_townLineHere_78 : decode cX12_townLineHere 78 = .ok (.ireturn, 1) := by decide +kernel
theorem dX12_townLineHere_79 : decode cX12_townLineHere 79 = .ok (.aload_n 0, 1) := by decide +kernel
theorem dX12_townLineHere_80 : decode cX12_townLineHere 80 = .ok (.ldc2_w 202, 3) := by decide +kernel
theorem dX12_townLineHere_83 : decode cX12_townLineHere 83 = .ok (.invokevirtual 89, 3) := by decide +kernel
theorem dX12_townLineHere_86 : decode cX12_townLineHere 86 = .ok (.ifCond .eq 9, 3) := by decide +kernel
theorem dX12_townLineHere_89 : decode cX12_townLineHere 89 = .ok (.aload_n 0, 1) := by decide +kernel
theorem dX12_townLineHere_90 : decode cX12_townLineHere 90 = .ok (.iload_n 1, 1) := by decide +kernel
theorem dX12_townLineHere_91 : decode cX12_townLineHere 91 = .ok (.invokevirtual 242, 3) := by decide +kernel
theorem dX12_townLineHere_94 : decode cX12_townLineHere 94 = .ok (.ireturn, 1) := by decide +kernel
theorem dX12_townLineHere_95 : decode cX12_townLineHere 95 = .ok (.aload_n 0, 1) := by decide +kernel
theorem dX12_townLineHere_96 : decode cX12_townLineHere 96 = .ok (.ldc2_w 130, 3) := by decide +kernel
theorem dX12_townLineHere_99 : decode cX12_townLineHere 99 = .ok (.invokevirtual 89, 3) := by decide +kernel
theorem dX12_townLineHere_102 : decode cX12_townLineHere 102 = .ok (.ifCond .eq 9, 3) := by decide +kernel
theorem dX12_townLineHere_105 : decode cX12_townLineHere 105 = .ok (.aload_n 0, 1) := by decide +kernel
theorem dX12_townLineHere_106 : decode cX12_townLineHere 106 = .ok (.iload_n 1, 1) := by decide +kernel
theorem dX12_townLineHere_107 : decode cX12_townLineHere 107 = .ok (.invokevirtual 245, 3) := by decide +kernel
theorem dX12_townLineHere_110 : decode cX12_townLineHere 110 = .ok (.ireturn, 1) := by decide +kernel
theorem dX12_townLineHere_111 : decode cX12_townLineHere 111 = .ok (.aload_n 0, 1) := by decide +kernel
theorem dX12_townLineHere_112 : decode cX12_townLineHere 112 = .ok (.ldc2_w 126, 3) := by decide +kernel
theorem dX12_townLineHere_115 : decode cX12_townLineHere 115 = .ok (.invokevirtual 89, 3) := by decide +kernel
theorem dX12_townLineHere_118 : decode cX12_townLineHere 118 = .ok (.ifCond .eq 10, 3) := by decide +kernel
theorem dX12_townLineHere_121 : decode cX12_townLineHere 121 = .ok (.aload_n 0, 1) := by decide +kernel
theorem dX12_townLineHere_122 : decode cX12_townLineHere 122 = .ok (.invokevirtual 248, 3) := by decide +kernel
theorem dX12_townLineHere_125 : decode cX12_townLineHere 125 = .ok (.goto 8, 3) := by decide +kernel
theorem dX12_townLineHere_128 : decode cX12_townLineHere 128 = .ok (.aload_n 0, 1) := by decide +kernel
theorem dX12_townLineHere_129 : decode cX12_townLineHere 129 = .ok (.iload_n 1, 1) := by decide +kernel
theorem dX12_townLineHere_130 : decode cX12_townLineHere 130 = .ok (.invokevirtual 251, 3) := by decide +kernel
theorem dX12_townLineHere_133 : decode cX12_townLineHere 133 = .ok (.ireturn, 1) := by decide +kernel
theorem dX12_isTownWord_0 : decode cX12_isTownWord 0 = .ok (.aload_n 0, 1) := by decide +kernel
theorem dX12_isTownWord_1 : decode cX12_isTownWord 1 = .ok (.ldc2_w 224, 3) := by decide +kernel
theorem dX12_isTownWord_4 : decode cX12_isTownWord 4 = .ok (.invokevirtual 89, 3) := by decide +kernel
theorem dX12_isTownWord_7 : decode cX12_isTownWord 7 = .ok (.ifCond .ne 33, 3) := by decide +kernel
theorem dX12_isTownWord_10 : decode cX12_isTownWord 10 = .ok (.aload_n 0, 1) := by decide +kernel
theorem dX12_isTownWord_11 : decode cX12_isTownWord 11 = .ok (.ldc2_w 229, 3) := by decide +kernel
theorem dX12_isTownWord_14 : decode cX12_isTownWord 14 = .ok (.invokevirtual 89, 3) := by decide +kernel
theorem dX12_isTownWord_17 : decode cX12_isTownWord 17 = .ok (.ifCond .ne 23, 3) := by decide +kernel
theorem dX12_isTownWord_20 : decode cX12_isTownWord 20 = .ok (.aload_n 0, 1) := by decide +kernel
theorem dX12_isTownWord_21 : decode cX12_isTownWord 21 = .ok (.ldc2_w 128, 3) := by decide +kernel
theorem dX12_isTownWord_24 : decode cX12_isTownWord 24 = .ok (.invokevirtual 89, 3) := by decide +kernel
theorem dX12_isTownWord_27 : decode cX12_isTownWord 27 = .ok (.ifCond .ne 13, 3) := by decide +kernel
theorem dX12_isTownWord_30 : decode cX12_isTownWord 30 = .ok (.aload_n 0, 1) := by decide +kernel
theorem dX12_isTownWord_31 : decode cX12_isTownWord 31 = .ok (.ldc2_w 237, 3) := by decide +kernel
theorem dX12_isTownWord_34 : decode cX12_isTownWord 34 = .ok (.invokevirtual 89, 3) := by decide +kernel
theorem dX12_isTownWord_37 : decode cX12_isTownWord 37 = .ok (.ifCond .eq 7, 3) := by decide +kernel
theorem dX12_isTownWord_40 : decode cX12_isTownWord 40 = .ok (.iconst 1, 1) := by decide +kernel
theorem dX12_isTownWord_41 : decode cX12_isTownWord 41 = .ok (.goto 4, 3) := by decide +kernel
theorem dX12_isTownWord_44 : decode cX12_isTownWord 44 = .ok (.iconst 0, 1) := by decide +kernel
theorem dX12_isTownWord_45 : decode cX12_isTownWord 45 = .ok (.istore_n 1, 1) := by decide +kernel
theorem dX12_isTownWord_46 : decode cX12_isTownWord 46 = .ok (.iload_n 1, 1) := by decide +kernel
theorem dX12_isTownWord_47 : decode cX12_isTownWord 47 = .ok (.ifCond .ne 43, 3) := by decide +kernel
theorem dX12_isTownWord_50 : decode cX12_isTownWord 50 = .ok (.aload_n 0, 1) := by decide +kernel
theorem dX12_isTownWord_51 : decode cX12_isTownWord 51 = .ok (.ldc2_w 202, 3) := by decide +kernel
theorem dX12_isTownWord_54 : decode cX12_isTownWord 54 = .ok (.invokevirtual 89, 3) := by decide +kernel
theorem dX12_isTownWord_57 : decode cX12_isTownWord 57 = .ok (.ifCond .ne 33, 3) := by decide +kernel
theorem dX12_isTownWord_60 : decode cX12_isTownWord 60 = .ok (.aload_n 0, 1) := by decide +kernel
theorem dX12_isTownWord_61 : decode cX12_isTownWord 61 = .ok (.ldc2_w 130, 3) := by decide +kernel
theorem dX12_isTownWord_64 : decode cX12_isTownWord 64 = .ok (.invokevirtual 89, 3) := by decide +kernel
theorem dX12_isTownWord_67 : decode cX12_isTownWord 67 = .ok (.ifCond .ne 23, 3) := by decide +kernel
theorem dX12_isTownWord_70 : decode cX12_isTownWord 70 = .ok (.aload_n 0, 1) := by decide +kernel
theorem dX12_isTownWord_71 : decode cX12_isTownWord 71 = .ok (.ldc2_w 126, 3) := by decide +kernel
theorem dX12_isTownWord_74 : decode cX12_isTownWord 74 = .ok (.invokevirtual 89, 3) := by decide +kernel
theorem dX12_isTownWord_77 : decode cX12_isTownWord 77 = .ok (.ifCond .ne 13, 3) := by decide +kernel
theorem dX12_isTownWord_80 : decode cX12_isTownWord 80 = .ok (.aload_n 0, 1) := by decide +kernel
theorem dX12_isTownWord_81 : decode cX12_isTownWord 81 = .ok (.ldc2_w 254, 3) := by decide +kernel
theorem dX12_isTownWord_84 : decode cX12_isTownWord 84 = .ok (.invokevirtual 89, 3) := by decide +kernel
theorem dX12_isTownWord_87 : decode cX12_isTownWord 87 = .ok (.ifCond .eq 7, 3) := by decide +kernel
theorem dX12_isTownWord_90 : decode cX12_isTownWord 90 = .ok (.iconst 1, 1) := by decide +kernel
theorem dX12_isTownWord_91 : decode cX12_isTownWord 91 = .ok (.goto 4, 3) := by decide +kernel
theorem dX12_isTownWord_94 : decode cX12_isTownWord 94 = .ok (.iconst 0, 1) := by decide +kernel
theorem dX12_isTownWord_95 : decode cX12_isTownWord 95 = .ok (.ireturn, 1) := by decide +kernel
theorem dX12_clauseHere_0 : decode cX12_clauseHere 0 = .ok (.aload_n 0, 1) := by decide +kernel
theorem dX12_clauseHere_1 : decode cX12_clauseHere 1 = .ok (.invokevirtual 81, 3) := by decide +kernel
theorem dX12_clauseHere_4 : decode cX12_clauseHere 4 = .ok (.pop, 1) := by decide +kernel
theorem dX12_clauseHere_5 : decode cX12_clauseHere 5 = .ok (.aload_n 0, 1) := by decide +kernel
theorem dX12_clauseHere_6 : decode cX12_clauseHere 6 = .ok (.getfield 78, 3) := by decide +kernel
theorem dX12_clauseHere_9 : decode cX12_clauseHere 9 = .ok (.istore_n 1, 1) := by decide +kernel
theorem dX12_clauseHere_10 : decode cX12_clauseHere 10 = .ok (.aload_n 0, 1) := by decide +kernel
theorem dX12_clauseHere_11 : decode cX12_clauseHere 11 = .ok (.getfield 138, 3) := by decide +kernel
theorem dX12_clauseHere_14 : decode cX12_clauseHere 14 = .ok (.bipush 6, 2) := by decide +kernel
theorem dX12_clauseHere_16 : decode cX12_clauseHere 16 = .ok (.if_icmp .ne 7, 3) := by decide +kernel
theorem dX12_clauseHere_19 : decode cX12_clauseHere 19 = .ok (.iconst 1, 1) := by decide +kernel
theorem dX12_clauseHere_20 : decode cX12_clauseHere 20 = .ok (.goto 4, 3) := by decide +kernel
theorem dX12_clauseHere_23 : decode cX12_clauseHere 23 = .ok (.iconst 0, 1) := by decide +kernel
theorem dX12_clauseHere_24 : decode cX12_clauseHere 24 = .ok (.istore_n 2, 1) := by decide +kernel
theorem dX12_clauseHere_25 : decode cX12_clauseHere 25 = .ok (.iload_n 2, 1) := by decide +kernel
theorem dX12_clauseHere_26 : decode cX12_clauseHere 26 = .ok (.ifCond .eq 13, 3) := by decide +kernel
theorem dX12_clauseHere_29 : decode cX12_clauseHere 29 = .ok (.aload_n 0, 1) := by decide +kernel
theorem dX12_clauseHere_30 : decode cX12_clauseHere 30 = .ok (.invokevirtual 256, 3) := by decide +kernel
theorem dX12_clauseHere_33 : decode cX12_clauseHere 33 = .ok (.ifCond .ne 33, 3) := by decide +kernel
theorem dX12_clauseHere_36 : decode cX12_clauseHere 36 = .ok (.goto 23, 3) := by decide +kernel
theorem dX12_clauseHere_39 : decode cX12_clauseHere 39 = .ok (.aload_n 0, 1) := by decide +kernel
theorem dX12_clauseHere_40 : decode cX12_clauseHere 40 = .ok (.ldc2_w 259, 3) := by decide +kernel
theorem dX12_clauseHere_43 : decode cX12_clauseHere 43 = .ok (.invokevirtual 89, 3) := by decide +kernel
theorem dX12_clauseHere_46 : decode cX12_clauseHere 46 = .ok (.ifCond .ne 20, 3) := by decide +kernel
theorem dX12_clauseHere_49 : decode cX12_clauseHere 49 = .ok (.aload_n 0, 1) := by decide +kernel
theorem dX12_clauseHere_50 : decode cX12_clauseHere 50 = .ok (.ldc2_w 261, 3) := by decide +kernel
theorem dX12_clauseHere_53 : decode cX12_clauseHere 53 = .ok (.invokevirtual 89, 3) := by decide +kernel
theorem dX12_clauseHere_56 : decode cX12_clauseHere 56 = .ok (.ifCond .ne 10, 3) := by decide +kernel
theorem dX12_clauseHere_59 : decode cX12_clauseHere 59 = .ok (.aload_n 0, 1) := by decide +kernel
theorem dX12_clauseHere_60 : decode cX12_clauseHere 60 = .ok (.iconst 0, 1) := by decide +kernel
theorem dX12_clauseHere_61 : decode cX12_clauseHere 61 = .ok (.iload_n 1, 1) := by decide +kernel
theorem dX12_clauseHere_62 : decode cX12_clauseHere 62 = .ok (.invokevirtual 99, 3) := by decide +kernel
theorem dX12_clauseHere_65 : decode cX12_clauseHere 65 = .ok (.ireturn, 1) := by decide +kernel
theorem dX12_clauseHere_66 : decode cX12_clauseHere 66 = .ok (.aload_n 0, 1) := by decide +kernel
theorem dX12_clauseHere_67 : decode cX12_clauseHere 67 = .ok (.getfield 263, 3) := by decide +kernel
theorem dX12_clauseHere_70 : decode cX12_clauseHere 70 = .ok (.iload_n 2, 1) := by decide +kernel
theorem dX12_clauseHere_71 : decode cX12_clauseHere 71 = .ok (.ifCond .eq 8, 3) := by decide +kernel
theorem dX12_clauseHere_74 : decode cX12_clauseHere 74 = .ok (.bipush 40, 2) := by decide +kernel
theorem dX12_clauseHere_76 : decode cX12_clauseHere 76 = .ok (.goto 5, 3) := by decide +kernel
theorem dX12_clauseHere_79 : decode cX12_clauseHere 79 = .ok (.bipush 12, 2) := by decide +kernel
theorem dX12_clauseHere_81 : decode cX12_clauseHere 81 = .ok (.if_icmp .ne 10, 3) := by decide +kernel
theorem dX12_clauseHere_84 : decode cX12_clauseHere 84 = .ok (.aload_n 0, 1) := by decide +kernel
theorem dX12_clauseHere_85 : decode cX12_clauseHere 85 = .ok (.iconst 4, 1) := by decide +kernel
theorem dX12_clauseHere_86 : decode cX12_clauseHere 86 = .ok (.iload_n 1, 1) := by decide +kernel
theorem dX12_clauseHere_87 : decode cX12_clauseHere 87 = .ok (.invokevirtual 99, 3) := by decide +kernel
theorem dX12_clauseHere_90 : decode cX12_clauseHere 90 = .ok (.ireturn, 1) := by decide +kernel
theorem dX12_clauseHere_91 : decode cX12_clauseHere 91 = .ok (.aload_n 0, 1) := by decide +kernel
theorem dX12_clauseHere_92 : decode cX12_clauseHere 92 = .ok (.dup, 1) := by decide +kernel
theorem dX12_clauseHere_93 : decode cX12_clauseHere 93 = .ok (.getfield 263, 3) := by decide +kernel
theorem dX12_clauseHere_96 : decode cX12_clauseHere 96 = .ok (.iconst 1, 1) := by decide +kernel
theorem dX12_clauseHere_97 : decode cX12_clauseHere 97 = .ok (.iadd, 1) := by decide +kernel
theorem dX12_clauseHere_98 : decode cX12_clauseHere 98 = .ok (.putfield 263, 3) := by decide +kernel
theorem dX12_clauseHere_101 : decode cX12_clauseHere 101 = .ok (.iload_n 2, 1) := by decide +kernel
theorem dX12_clauseHere_102 : decode cX12_clauseHere 102 = .ok (.ifCond .eq 11, 3) := by decide +kernel
theorem dX12_clauseHere_105 : decode cX12_clauseHere 105 = .ok (.aload_n 0, 1) := by decide +kernel
theorem dX12_clauseHere_106 : decode cX12_clauseHere 106 = .ok (.iload_n 1, 1) := by decide +kernel
theorem dX12_clauseHere_107 : decode cX12_clauseHere 107 = .ok (.invokevirtual 266, 3) := by decide +kernel
theorem dX12_clauseHere_110 : decode cX12_clauseHere 110 = .ok (.goto 22, 3) := by decide +kernel
theorem dX12_clauseHere_113 : decode cX12_clauseHere 113 = .ok (.aload_n 0, 1) := by decide +kernel
theorem dX12_clauseHere_114 : decode cX12_clauseHere 114 = .ok (.aload_n 0, 1) := by decide +kernel
theorem dX12_clauseHere_115 : decode cX12_clauseHere 115 = .ok (.ldc2_w 259, 3) := by decide +kernel
theorem dX12_clauseHere_118 : decode cX12_clauseHere 118 = .ok (.invokevirtual 89, 3) := by decide +kernel
theorem dX12_clauseHere_121 : decode cX12_clauseHere 121 = .ok (.ifCond .eq 7, 3) := by decide +kernel
theorem dX12_clauseHere_124 : decode cX12_clauseHere 124 = .ok (.iconst 0, 1) := by decide +kernel
theorem dX12_clauseHere_125 : decode cX12_clauseHere 125 = .ok (.goto 4, 3) := by decide +kernel
theorem dX12_clauseHere_128 : decode cX12_clauseHere 128 = .ok (.iconst 1, 1) := by decide +kernel
theorem dX12_clauseHere_129 : decode cX12_clauseHere 129 = .ok (.invokevirtual 269, 3) := by decide +kernel
theorem dX12_clauseHere_132 : decode cX12_clauseHere 132 = .ok (.ireturn, 1) := by decide +kernel
theorem dX12_readsAll_0 : decode cX12_readsAll 0 = .ok (.aload_n 0, 1) := by decide +kernel
theorem dX12_readsAll_1 : decode cX12_readsAll 1 = .ok (.getfield 17, 3) := by decide +kernel
theorem dX12_readsAll_4 : decode cX12_readsAll 4 = .ok (.aload_n 0, 1) := by decide +kernel
theorem dX12_readsAll_5 : decode cX12_readsAll 5 = .ok (.getfield 138, 3) := by decide +kernel
theorem dX12_readsAll_8 : decode cX12_readsAll 8 = .ok (.iconst 0, 1) := by decide +kernel
theorem dX12_readsAll_9 : decode cX12_readsAll 9 = .ok (.iastore, 1) := by decide +kernel
theorem dX12_readsAll_10 : decode cX12_readsAll 10 = .ok (.aload_n 0, 1) := by decide +kernel
theorem dX12_readsAll_11 : decode cX12_readsAll 11 = .ok (.iconst 0, 1) := by decide +kernel
theorem dX12_readsAll_12 : decode cX12_readsAll 12 = .ok (.putfield 263, 3) := by decide +kernel
theorem dX12_readsAll_15 : decode cX12_readsAll 15 = .ok (.aload_n 0, 1) := by decide +kernel
theorem dX12_readsAll_16 : decode cX12_readsAll 16 = .ok (.iconst 0, 1) := by decide +kernel
theorem dX12_readsAll_17 : decode cX12_readsAll 17 = .ok (.putfield 78, 3) := by decide +kernel
theorem dX12_readsAll_20 : decode cX12_readsAll 20 = .ok (.aload_n 0, 1) := by decide +kernel
theorem dX12_readsAll_21 : decode cX12_readsAll 21 = .ok (.iconst 0, 1) := by decide +kernel
theorem dX12_readsAll_22 : decode cX12_readsAll 22 = .ok (.putfield 75, 3) := by decide +kernel
theorem dX12_readsAll_25 : decode cX12_readsAll 25 = .ok (.aload_n 0, 1) := by decide +kernel
theorem dX12_readsAll_26 : decode cX12_readsAll 26 = .ok (.iconst 0, 1) := by decide +kernel
theorem dX12_readsAll_27 : decode cX12_readsAll 27 = .ok (.putfield 141, 3) := by decide +kernel
theorem dX12_readsAll_30 : decode cX12_readsAll 30 = .ok (.aload_n 0, 1) := by decide +kernel
theorem dX12_readsAll_31 : decode cX12_readsAll 31 = .ok (.invokevirtual 272, 3) := by decide +kernel
theorem dX12_readsAll_34 : decode cX12_readsAll 34 = .ok (.istore_n 1, 1) := by decide +kernel
theorem dX12_readsAll_35 : decode cX12_readsAll 35 = .ok (.iload_n 1, 1) := by decide +kernel
theorem dX12_readsAll_36 : decode cX12_readsAll 36 = .ok (.ifCond .eq 30, 3) := by decide +kernel
theorem dX12_readsAll_39 : decode cX12_readsAll 39 = .ok (.aload_n 0, 1) := by decide +kernel
theorem dX12_readsAll_40 : decode cX12_readsAll 40 = .ok (.invokevirtual 81, 3) := by decide +kernel
theorem dX12_readsAll_43 : decode cX12_readsAll 43 = .ok (.bipush 59, 2) := by decide +kernel
theorem dX12_readsAll_45 : decode cX12_readsAll 45 = .ok (.if_icmp .ne 21, 3) := by decide +kernel
theorem dX12_readsAll_48 : decode cX12_readsAll 48 = .ok (.aload_n 0, 1) := by decide +kernel
theorem dX12_readsAll_49 : decode cX12_readsAll 49 = .ok (.dup, 1) := by decide +kernel
theorem dX12_readsAll_50 : decode cX12_readsAll 50 = .ok (.getfield 78, 3) := by decide +kernel
theorem dX12_readsAll_53 : decode cX12_readsAll 53 = .ok (.iconst 1, 1) := by decide +kernel
theorem dX12_readsAll_54 : decode cX12_readsAll 54 = .ok (.iadd, 1) := by decide +kernel
theorem dX12_readsAll_55 : decode cX12_readsAll 55 = .ok (.putfield 78, 3) := by decide +kernel
theorem dX12_readsAll_58 : decode cX12_readsAll 58 = .ok (.aload_n 0, 1) := by decide +kernel
theorem dX12_readsAll_59 : decode cX12_readsAll 59 = .ok (.invokevirtual 272, 3) := by decide +kernel
theorem dX12_readsAll_62 : decode cX12_readsAll 62 = .ok (.istore_n 1, 1) := by decide +kernel
theorem dX12_readsAll_63 : decode cX12_readsAll 63 = .ok (.goto (-28), 3) := by decide +kernel
theorem dX12_readsAll_66 : decode cX12_readsAll 66 = .ok (.iload_n 1, 1) := by decide +kernel
theorem dX12_readsAll_67 : decode cX12_readsAll 67 = .ok (.ifCond .eq 21, 3) := by decide +kernel
theorem dX12_readsAll_70 : decode cX12_readsAll 70 = .ok (.aload_n 0, 1) := by decide +kernel
theorem dX12_readsAll_71 : decode cX12_readsAll 71 = .ok (.invokevirtual 81, 3) := by decide +kernel
theorem dX12_readsAll_74 : decode cX12_readsAll 74 = .ok (.iconst (-1), 1) := by decide +kernel
theorem dX12_readsAll_75 : decode cX12_readsAll 75 = .ok (.if_icmp .eq 13, 3) := by decide +kernel
theorem dX12_readsAll_78 : decode cX12_readsAll 78 = .ok (.aload_n 0, 1) := by decide +kernel
theorem dX12_readsAll_79 : decode cX12_readsAll 79 = .ok (.iconst 0, 1) := by decide +kernel
theorem dX12_readsAll_80 : decode cX12_readsAll 80 = .ok (.aload_n 0, 1) := by decide +kernel
theorem dX12_readsAll_81 : decode cX12_readsAll 81 = .ok (.getfield 78, 3) := by decide +kernel
theorem dX12_readsAll_84 : decode cX12_readsAll 84 = .ok (.invokevirtual 99, 3) := by decide +kernel
theorem dX12_readsAll_87 : decode cX12_readsAll 87 = .ok (.pop, 1) := by decide +kernel
theorem dX12_readsAll_88 : decode cX12_readsAll 88 = .ok (.aload_n 0, 1) := by decide +kernel
theorem dX12_readsAll_89 : decode cX12_readsAll 89 = .ok (.iconst 0, 1) := by decide +kernel
theorem dX12_readsAll_90 : decode cX12_readsAll 90 = .ok (.putfield 68, 3) := by decide +kernel
theorem dX12_readsAll_93 : decode cX12_readsAll 93 = .ok (.aload_n 0, 1) := by decide +kernel
theorem dX12_readsAll_94 : decode cX12_readsAll 94 = .ok (.getfield 75, 3) := by decide +kernel
theorem dX12_readsAll_97 : decode cX12_readsAll 97 = .ok (.ifCond .ne 7, 3) := by decide +kernel
theorem dX12_readsAll_100 : decode cX12_readsAll 100 = .ok (.iconst 1, 1) := by decide +kernel
theorem dX12_readsAll_101 : decode cX12_readsAll 101 = .ok (.goto 4, 3) := by decide +kernel
theorem dX12_readsAll_104 : decode cX12_readsAll 104 = .ok (.iconst 0, 1) := by decide +kernel
theorem dX12_readsAll_105 : decode cX12_readsAll 105 = .ok (.ireturn, 1) := by decide +kernel
theorem dX12_rule_0 : decode cX12_rule 0 = .ok (.aload_n 0, 1) := by decide +kernel
theorem dX12_rule_1 : decode cX12_rule 1 = .ok (.getfield 275, 3) := by decide +kernel
theorem dX12_rule_4 : decode cX12_rule 4 = .ok (.bipush 6, 2) := by decide +kernel
theorem dX12_rule_6 : decode cX12_rule 6 = .ok (.if_icmp .ne 5, 3) := by decide +kernel
theorem dX12_rule_9 : decode cX12_rule 9 = .ok (.iconst (-1), 1) := by decide +kernel
theorem dX12_rule_10 : decode cX12_rule 10 = .ok (.ireturn, 1) := by decide +kernel
theorem dX12_rule_11 : decode cX12_rule 11 = .ok (.aload_n 0, 1) := by decide +kernel
theorem dX12_rule_12 : decode cX12_rule 12 = .ok (.aload_n 0, 1) := by decide +kernel
theorem dX12_rule_13 : decode cX12_rule 13 = .ok (.getfield 275, 3) := by decide +kernel
theorem dX12_rule_16 : decode cX12_rule 16 = .ok (.putfield 138, 3) := by decide +kernel
theorem dX12_rule_19 : decode cX12_rule 19 = .ok (.aload_n 0, 1) := by decide +kernel
theorem dX12_rule_20 : decode cX12_rule 20 = .ok (.getfield 23, 3) := by decide +kernel
theorem dX12_rule_23 : decode cX12_rule 23 = .ok (.aload_n 0, 1) := by decide +kernel
theorem dX12_rule_24 : decode cX12_rule 24 = .ok (.getfield 138, 3) := by decide +kernel
theorem dX12_rule_27 : decode cX12_rule 27 = .ok (.iconst 0, 1) := by decide +kernel
theorem dX12_rule_28 : decode cX12_rule 28 = .ok (.iastore, 1) := by decide +kernel
theorem dX12_rule_29 : decode cX12_rule 29 = .ok (.aload_n 0, 1) := by decide +kernel
theorem dX12_rule_30 : decode cX12_rule 30 = .ok (.invokevirtual 278, 3) := by decide +kernel
theorem dX12_rule_33 : decode cX12_rule 33 = .ok (.ifCond .ne 11, 3) := by decide +kernel
theorem dX12_rule_36 : decode cX12_rule 36 = .ok (.bipush (-2), 2) := by decide +kernel
theorem dX12_rule_38 : decode cX12_rule 38 = .ok (.aload_n 0, 1) := by decide +kernel
theorem dX12_rule_39 : decode cX12_rule 39 = .ok (.getfield 75, 3) := by decide +kernel
theorem dX12_rule_42 : decode cX12_rule 42 = .ok (.isub, 1) := by decide +kernel
theorem dX12_rule_43 : decode cX12_rule 43 = .ok (.ireturn, 1) := by decide +kernel
theorem dX12_rule_44 : decode cX12_rule 44 = .ok (.aload_n 0, 1) := by decide +kernel
theorem dX12_rule_45 : decode cX12_rule 45 = .ok (.dup, 1) := by decide +kernel
theorem dX12_rule_46 : decode cX12_rule 46 = .ok (.getfield 275, 3) := by decide +kernel
theorem dX12_rule_49 : decode cX12_rule 49 = .ok (.iconst 1, 1) := by decide +kernel
theorem dX12_rule_50 : decode cX12_rule 50 = .ok (.iadd, 1) := by decide +kernel
theorem dX12_rule_51 : decode cX12_rule 51 = .ok (.putfield 275, 3) := by decide +kernel
theorem dX12_rule_54 : decode cX12_rule 54 = .ok (.aload_n 0, 1) := by decide +kernel
theorem dX12_rule_55 : decode cX12_rule 55 = .ok (.getfield 275, 3) := by decide +kernel
theorem dX12_rule_58 : decode cX12_rule 58 = .ok (.iconst 1, 1) := by decide +kernel
theorem dX12_rule_59 : decode cX12_rule 59 = .ok (.isub, 1) := by decide +kernel
theorem dX12_rule_60 : decode cX12_rule 60 = .ok (.ireturn, 1) := by decide +kernel
theorem dX12_town_0 : decode cX12_town 0 = .ok (.aload_n 0, 1) := by decide +kernel
theorem dX12_town_1 : decode cX12_town 1 = .ok (.bipush 6, 2) := by decide +kernel
theorem dX12_town_3 : decode cX12_town 3 = .ok (.putfield 138, 3) := by decide +kernel
theorem dX12_town_6 : decode cX12_town 6 = .ok (.iconst 0, 1) := by decide +kernel
theorem dX12_town_7 : decode cX12_town 7 = .ok (.istore_n 1, 1) := by decide +kernel
theorem dX12_town_8 : decode cX12_town 8 = .ok (.iload_n 1, 1) := by decide +kernel
theorem dX12_town_9 : decode cX12_town 9 = .ok (.bipush 11, 2) := by decide +kernel
theorem dX12_town_11 : decode cX12_town 11 = .ok (.if_icmp .ge 16, 3) := by decide +kernel
theorem dX12_town_14 : decode cX12_town 14 = .ok (.aload_n 0, 1) := by decide +kernel
theorem dX12_town_15 : decode cX12_town 15 = .ok (.getfield 26, 3) := by decide +kernel
theorem dX12_town_18 : decode cX12_town 18 = .ok (.iload_n 1, 1) := by decide +kernel
theorem dX12_town_19 : decode cX12_town 19 = .ok (.iconst 0, 1) := by decide +kernel
theorem dX12_town_20 : decode cX12_town 20 = .ok (.iastore, 1) := by decide +kernel
theorem dX12_town_21 : decode cX12_town 21 = .ok (.iinc 1 1, 3) := by decide +kernel
theorem dX12_town_24 : decode cX12_town 24 = .ok (.goto (-16), 3) := by decide +kernel
theorem dX12_town_27 : decode cX12_town 27 = .ok (.aload_n 0, 1) := by decide +kernel
theorem dX12_town_28 : decode cX12_town 28 = .ok (.getfield 26, 3) := by decide +kernel
theorem dX12_town_31 : decode cX12_town 31 = .ok (.sipush 269, 3) := by decide +kernel
theorem dX12_town_34 : decode cX12_town 34 = .ok (.iconst 0, 1) := by decide +kernel
theorem dX12_town_35 : decode cX12_town 35 = .ok (.iastore, 1) := by decide +kernel
theorem dX12_town_36 : decode cX12_town 36 = .ok (.aload_n 0, 1) := by decide +kernel
theorem dX12_town_37 : decode cX12_town 37 = .ok (.invokevirtual 278, 3) := by decide +kernel
theorem dX12_town_40 : decode cX12_town 40 = .ok (.ifCond .ne 11, 3) := by decide +kernel
theorem dX12_town_43 : decode cX12_town 43 = .ok (.bipush (-2), 2) := by decide +kernel
theorem dX12_town_45 : decode cX12_town 45 = .ok (.aload_n 0, 1) := by decide +kernel
theorem dX12_town_46 : decode cX12_town 46 = .ok (.getfield 75, 3) := by decide +kernel
theorem dX12_town_49 : decode cX12_town 49 = .ok (.isub, 1) := by decide +kernel
theorem dX12_town_50 : decode cX12_town 50 = .ok (.ireturn, 1) := by decide +kernel
theorem dX12_town_51 : decode cX12_town 51 = .ok (.iconst 0, 1) := by decide +kernel
theorem dX12_town_52 : decode cX12_town 52 = .ok (.istore_n 1, 1) := by decide +kernel
theorem dX12_town_53 : decode cX12_town 53 = .ok (.iload_n 1, 1) := by decide +kernel
theorem dX12_town_54 : decode cX12_town 54 = .ok (.sipush 328, 3) := by decide +kernel
theorem dX12_town_57 : decode cX12_town 57 = .ok (.if_icmp .ge 32, 3) := by decide +kernel
theorem dX12_town_60 : decode cX12_town 60 = .ok (.aload_n 0, 1) := by decide +kernel
theorem dX12_town_61 : decode cX12_town 61 = .ok (.getfield 39, 3) := by decide +kernel
theorem dX12_town_64 : decode cX12_town 64 = .ok (.iload_n 1, 1) := by decide +kernel
theorem dX12_town_65 : decode cX12_town 65 = .ok (.iload_n 1, 1) := by decide +kernel
theorem dX12_town_66 : decode cX12_town 66 = .ok (.sipush 270, 3) := by decide +kernel
theorem dX12_town_69 : decode cX12_town 69 = .ok (.if_icmp .ge 12, 3) := by decide +kernel
theorem dX12_town_72 : decode cX12_town 72 = .ok (.aload_n 0, 1) := by decide +kernel
theorem dX12_town_73 : decode cX12_town 73 = .ok (.getfield 26, 3) := by decide +kernel
theorem dX12_town_76 : decode cX12_town 76 = .ok (.iload_n 1, 1) := by decide +kernel
theorem dX12_town_77 : decode cX12_town 77 = .ok (.iaload, 1) := by decide +kernel
theorem dX12_town_78 : decode cX12_town 78 = .ok (.goto 4, 3) := by decide +kernel
theorem dX12_town_81 : decode cX12_town 81 = .ok (.iconst 0, 1) := by decide +kernel
theorem dX12_town_82 : decode cX12_town 82 = .ok (.iastore, 1) := by decide +kernel
theorem dX12_town_83 : decode cX12_town 83 = .ok (.iinc 1 1, 3) := by decide +kernel
theorem dX12_town_86 : decode cX12_town 86 = .ok (.goto (-33), 3) := by decide +kernel
theorem dX12_town_89 : decode cX12_town 89 = .ok (.aload_n 0, 1) := by decide +kernel
theorem dX12_town_90 : decode cX12_town 90 = .ok (.getfield 39, 3) := by decide +kernel
theorem dX12_town_93 : decode cX12_town 93 = .ok (.bipush 8, 2) := by decide +kernel
theorem dX12_town_95 : decode cX12_town 95 = .ok (.iconst (-1), 1) := by decide +kernel
theorem dX12_town_96 : decode cX12_town 96 = .ok (.iastore, 1) := by decide +kernel
theorem dX12_town_97 : decode cX12_town 97 = .ok (.aload_n 0, 1) := by decide +kernel
theorem dX12_town_98 : decode cX12_town 98 = .ok (.getfield 39, 3) := by decide +kernel
theorem dX12_town_101 : decode cX12_town 101 = .ok (.bipush 9, 2) := by decide +kernel
theorem dX12_town_103 : decode cX12_town 103 = .ok (.iconst (-1), 1) := by decide +kernel
theorem dX12_town_104 : decode cX12_town 104 = .ok (.iastore, 1) := by decide +kernel
theorem dX12_town_105 : decode cX12_town 105 = .ok (.aload_n 0, 1) := by decide +kernel
theorem dX12_town_106 : decode cX12_town 106 = .ok (.iconst 0, 1) := by decide +kernel
theorem dX12_town_107 : decode cX12_town 107 = .ok (.putfield 281, 3) := by decide +kernel
theorem dX12_town_110 : decode cX12_town 110 = .ok (.aload_n 0, 1) := by decide +kernel
theorem dX12_town_111 : decode cX12_town 111 = .ok (.getfield 39, 3) := by decide +kernel
theorem dX12_town_114 : decode cX12_town 114 = .ok (.iconst 2, 1) := by decide +kernel
theorem dX12_town_115 : decode cX12_town 115 = .ok (.iaload, 1) := by decide +kernel
theorem dX12_town_116 : decode cX12_town 116 = .ok (.ireturn, 1) := by decide +kernel
theorem dX12_isRule_0 : decode cX12_isRule 0 = .ok (.iload_n 1, 1) := by decide +kernel
theorem dX12_isRule_1 : decode cX12_isRule 1 = .ok (.ifCond .lt 15, 3) := by decide +kernel
theorem dX12_isRule_4 : decode cX12_isRule 4 = .ok (.iload_n 1, 1) := by decide +kernel
theorem dX12_isRule_5 : decode cX12_isRule 5 = .ok (.aload_n 0, 1) := by decide +kernel
theorem dX12_isRule_6 : decode cX12_isRule 6 = .ok (.getfield 275, 3) := by decide +kernel
theorem dX12_isRule_9 : decode cX12_isRule 9 = .ok (.if_icmp .ge 7, 3) := by decide +kernel
theorem dX12_isRule_12 : decode cX12_isRule 12 = .ok (.iconst 1, 1) := by decide +kernel
theorem dX12_isRule_13 : decode cX12_isRule 13 = .ok (.goto 4, 3) := by decide +kernel
theorem dX12_isRule_16 : decode cX12_isRule 16 = .ok (.iconst 0, 1) := by decide +kernel
theorem dX12_isRule_17 : decode cX12_isRule 17 = .ok (.ireturn, 1) := by decide +kernel
theorem dX12_push_0 : decode cX12_push 0 = .ok (.aload_n 0, 1) := by decide +kernel
theorem dX12_push_1 : decode cX12_push 1 = .ok (.getfield 32, 3) := by decide +kernel
theorem dX12_push_4 : decode cX12_push 4 = .ok (.aload_n 0, 1) := by decide +kernel
theorem dX12_push_5 : decode cX12_push 5 = .ok (.getfield 284, 3) := by decide +kernel
theorem dX12_push_8 : decode cX12_push 8 = .ok (.lload_n 1, 1) := by decide +kernel
theorem dX12_push_9 : decode cX12_push 9 = .ok (.lastore, 1) := by decide +kernel
theorem dX12_push_10 : decode cX12_push 10 = .ok (.aload_n 0, 1) := by decide +kernel
theorem dX12_push_11 : decode cX12_push 11 = .ok (.dup, 1) := by decide +kernel
theorem dX12_push_12 : decode cX12_push 12 = .ok (.getfield 284, 3) := by decide +kernel
theorem dX12_push_15 : decode cX12_push 15 = .ok (.iconst 1, 1) := by decide +kernel
theorem dX12_push_16 : decode cX12_push 16 = .ok (.iadd, 1) := by decide +kernel
theorem dX12_push_17 : decode cX12_push 17 = .ok (.putfield 284, 3) := by decide +kernel
theorem dX12_push_20 : decode cX12_push 20 = .ok (.return_, 1) := by decide +kernel
theorem dX12_pop_0 : decode cX12_pop 0 = .ok (.aload_n 0, 1) := by decide +kernel
theorem dX12_pop_1 : decode cX12_pop 1 = .ok (.dup, 1) := by decide +kernel
theorem dX12_pop_2 : decode cX12_pop 2 = .ok (.getfield 284, 3) := by decide +kernel
theorem dX12_pop_5 : decode cX12_pop 5 = .ok (.iconst 1, 1) := by decide +kernel
theorem dX12_pop_6 : decode cX12_pop 6 = .ok (.isub, 1) := by decide +kernel
theorem dX12_pop_7 : decode cX12_pop 7 = .ok (.putfield 284, 3) := by decide +kernel
theorem dX12_pop_10 : decode cX12_pop 10 = .ok (.aload_n 0, 1) := by decide +kernel
theorem dX12_pop_11 : decode cX12_pop 11 = .ok (.getfield 32, 3) := by decide +kernel
theorem dX12_pop_14 : decode cX12_pop 14 = .ok (.aload_n 0, 1) := by decide +kernel
theorem dX12_pop_15 : decode cX12_pop 15 = .ok (.getfield 284, 3) := by decide +kernel
theorem dX12_pop_18 : decode cX12_pop 18 = .ok (.laload, 1) := by decide +kernel
theorem dX12_pop_19 : decode cX12_pop 19 = .ok (.lreturn, 1) := by decide +kernel
theorem dX12_one_0 : decode cX12_one 0 = .ok (.iload_n 0, 1) := by decide +kernel
theorem dX12_one_1 : decode cX12_one 1 = .ok (.tableswitch 171 2 14 #[67, 71, 75, 79, 107, 119, 131, 143, 155, 171, 167, 171, 93], 67) := by decide +kernel
theorem dX12_one_68 : decode cX12_one 68 = .ok (.lload_n 1, 1) := by decide +kernel
theorem dX12_one_69 : decode cX12_one 69 = .ok (.lload_n 3, 1) := by decide +kernel
theorem dX12_one_70 : decode cX12_one 70 = .ok (.ladd, 1) := by decide +kernel
theorem dX12_one_71 : decode cX12_one 71 = .ok (.lreturn, 1) := by decide +kernel
theorem dX12_one_72 : decode cX12_one 72 = .ok (.lload_n 1, 1) := by decide +kernel
theorem dX12_one_73 : decode cX12_one 73 = .ok (.lload_n 3, 1) := by decide +kernel
theorem dX12_one_74 : decode cX12_one 74 = .ok (.lsub, 1) := by decide +kernel
theorem dX12_one_75 : decode cX12_one 75 = .ok (.lreturn, 1) := by decide +kernel
theorem dX12_one_76 : decode cX12_one 76 = .ok (.lload_n 1, 1) := by decide +kernel
theorem dX12_one_77 : decode cX12_one 77 = .ok (.lload_n 3, 1) := by decide +kernel
theorem dX12_one_78 : decode cX12_one 78 = .ok (.lmul, 1) := by decide +kernel
theorem dX12_one_79 : decode cX12_one 79 = .ok (.lreturn, 1) := by decide +kernel
theorem dX12_one_80 : decode cX12_one 80 = .ok (.lload_n 3, 1) := by decide +kernel
theorem dX12_one_81 : decode cX12_one 81 = .ok (.lconst 0, 1) := by decide +kernel
theorem dX12_one_82 : decode cX12_one 82 = .ok (.lcmp, 1) := by decide +kernel
theorem dX12_one_83 : decode cX12_one 83 = .ok (.ifCond .ne 7, 3) := by decide +kernel
theorem dX12_one_86 : decode cX12_one 86 = .ok (.lconst 0, 1) := by decide +kernel
theorem dX12_one_87 : decode cX12_one 87 = .ok (.goto 6, 3) := by decide +kernel
theorem dX12_one_90 : decode cX12_one 90 = .ok (.lload_n 1, 1) := by decide +kernel
theorem dX12_one_91 : decode cX12_one 91 = .ok (.lload_n 3, 1) := by decide +kernel
theorem dX12_one_92 : decode cX12_one 92 = .ok (.ldiv, 1) := by decide +kernel
theorem dX12_one_93 : decode cX12_one 93 = .ok (.lreturn, 1) := by decide +kernel
theorem dX12_one_94 : decode cX12_one 94 = .ok (.lload_n 3, 1) := by decide +kernel
theorem dX12_one_95 : decode cX12_one 95 = .ok (.lconst 0, 1) := by decide +kernel
theorem dX12_one_96 : decode cX12_one 96 = .ok (.lcmp, 1) := by decide +kernel
theorem dX12_one_97 : decode cX12_one 97 = .ok (.ifCond .ne 7, 3) := by decide +kernel
theorem dX12_one_100 : decode cX12_one 100 = .ok (.lconst 0, 1) := by decide +kernel
theorem dX12_one_101 : decode cX12_one 101 = .ok (.goto 6, 3) := by decide +kernel
theorem dX12_one_104 : decode cX12_one 104 = .ok (.lload_n 1, 1) := by decide +kernel
theorem dX12_one_105 : decode cX12_one 105 = .ok (.lload_n 3, 1) := by decide +kernel
theorem dX12_one_106 : decode cX12_one 106 = .ok (.lrem, 1) := by decide +kernel
theorem dX12_one_107 : decode cX12_one 107 = .ok (.lreturn, 1) := by decide +kernel
theorem dX12_one_108 : decode cX12_one 108 = .ok (.lload_n 1, 1) := by decide +kernel
theorem dX12_one_109 : decode cX12_one 109 = .ok (.lload_n 3, 1) := by decide +kernel
theorem dX12_one_110 : decode cX12_one 110 = .ok (.lcmp, 1) := by decide +kernel
theorem dX12_one_111 : decode cX12_one 111 = .ok (.ifCond .ge 7, 3) := by decide +kernel
theorem dX12_one_114 : decode cX12_one 114 = .ok (.lconst 1, 1) := by decide +kernel
theorem dX12_one_115 : decode cX12_one 115 = .ok (.goto 4, 3) := by decide +kernel
theorem dX12_one_118 : decode cX12_one 118 = .ok (.lconst 0, 1) := by decide +kernel
theorem dX12_one_119 : decode cX12_one 119 = .ok (.lreturn, 1) := by decide +kernel
theorem dX12_one_120 : decode cX12_one 120 = .ok (.lload_n 1, 1) := by decide +kernel
theorem dX12_one_121 : decode cX12_one 121 = .ok (.lload_n 3, 1) := by decide +kernel
theorem dX12_one_122 : decode cX12_one 122 = .ok (.lcmp, 1) := by decide +kernel
theorem dX12_one_123 : decode cX12_one 123 = .ok (.ifCond .gt 7, 3) := by decide +kernel
theorem dX12_one_126 : decode cX12_one 126 = .ok (.lconst 1, 1) := by decide +kernel
theorem dX12_one_127 : decode cX12_one 127 = .ok (.goto 4, 3) := by decide +kernel
theorem dX12_one_130 : decode cX12_one 130 = .ok (.lconst 0, 1) := by decide +kernel
theorem dX12_one_131 : decode cX12_one 131 = .ok (.lreturn, 1) := by decide +kernel
theorem dX12_one_132 : decode cX12_one 132 = .ok (.lload_n 1, 1) := by decide +kernel
theorem dX12_one_133 : decode cX12_one 133 = .ok (.lload_n 3, 1) := by decide +kernel
theorem dX12_one_134 : decode cX12_one 134 = .ok (.lcmp, 1) := by decide +kernel
theorem dX12_one_135 : decode cX12_one 135 = .ok (.ifCond .ne 7, 3) := by decide +kernel
theorem dX12_one_138 : decode cX12_one 138 = .ok (.lconst 1, 1) := by decide +kernel
theorem dX12_one_139 : decode cX12_one 139 = .ok (.goto 4, 3) := by decide +kernel
theorem dX12_one_142 : decode cX12_one 142 = .ok (.lconst 0, 1) := by decide +kernel
theorem dX12_one_143 : decode cX12_one 143 = .ok (.lreturn, 1) := by decide +kernel
theorem dX12_one_144 : decode cX12_one 144 = .ok (.lload_n 1, 1) := by decide +kernel
theorem dX12_one_145 : decode cX12_one 145 = .ok (.lload_n 3, 1) := by decide +kernel
theorem dX12_one_146 : decode cX12_one 146 = .ok (.lcmp, 1) := by decide +kernel
theorem dX12_one_147 : decode cX12_one 147 = .ok (.ifCond .lt 7, 3) := by decide +kernel
theorem dX12_one_150 : decode cX12_one 150 = .ok (.lconst 1, 1) := by decide +kernel
theorem dX12_one_151 : decode cX12_one 151 = .ok (.goto 4, 3) := by decide +kernel
theorem dX12_one_154 : decode cX12_one 154 = .ok (.lconst 0, 1) := by decide +kernel
theorem dX12_one_155 : decode cX12_one 155 = .ok (.lreturn, 1) := by decide +kernel
theorem dX12_one_156 : decode cX12_one 156 = .ok (.lload_n 1, 1) := by decide +kernel
theorem dX12_one_157 : decode cX12_one 157 = .ok (.lload_n 3, 1) := by decide +kernel
theorem dX12_one_158 : decode cX12_one 158 = .ok (.lcmp, 1) := by decide +kernel
theorem dX12_one_159 : decode cX12_one 159 = .ok (.ifCond .le 7, 3) := by decide +kernel
theorem dX12_one_162 : decode cX12_one 162 = .ok (.lconst 1, 1) := by decide +kernel
theorem dX12_one_163 : decode cX12_one 163 = .ok (.goto 4, 3) := by decide +kernel
theorem dX12_one_166 : decode cX12_one 166 = .ok (.lconst 0, 1) := by decide +kernel
theorem dX12_one_167 : decode cX12_one 167 = .ok (.lreturn, 1) := by decide +kernel
theorem dX12_one_168 : decode cX12_one 168 = .ok (.lload_n 1, 1) := by decide +kernel
theorem dX12_one_169 : decode cX12_one 169 = .ok (.lload_n 3, 1) := by decide +kernel
theorem dX12_one_170 : decode cX12_one 170 = .ok (.land, 1) := by decide +kernel
theorem dX12_one_171 : decode cX12_one 171 = .ok (.lreturn, 1) := by decide +kernel
theorem dX12_one_172 : decode cX12_one 172 = .ok (.lload_n 1, 1) := by decide +kernel
theorem dX12_one_173 : decode cX12_one 173 = .ok (.lload_n 3, 1) := by decide +kernel
theorem dX12_one_174 : decode cX12_one 174 = .ok (.lor, 1) := by decide +kernel
theorem dX12_one_175 : decode cX12_one 175 = .ok (.lreturn, 1) := by decide +kernel
theorem dX12_reckons_0 : decode cX12_reckons 0 = .ok (.aload_n 0, 1) := by decide +kernel
theorem dX12_reckons_1 : decode cX12_reckons 1 = .ok (.iconst 0, 1) := by decide +kernel
theorem dX12_reckons_2 : decode cX12_reckons 2 = .ok (.putfield 284, 3) := by decide +kernel
theorem dX12_reckons_5 : decode cX12_reckons 5 = .ok (.iload_n 2, 1) := by decide +kernel
theorem dX12_reckons_6 : decode cX12_reckons 6 = .ok (.istore 4, 2) := by decide +kernel
theorem dX12_reckons_8 : decode cX12_reckons 8 = .ok (.iload 4, 2) := by decide +kernel
theorem dX12_reckons_10 : decode cX12_reckons 10 = .ok (.iload_n 3, 1) := by decide +kernel
theorem dX12_reckons_11 : decode cX12_reckons 11 = .ok (.if_icmp .ge 124, 3) := by decide +kernel
theorem dX12_reckons_14 : decode cX12_reckons 14 = .ok (.aload_n 0, 1) := by decide +kernel
theorem dX12_reckons_15 : decode cX12_reckons 15 = .ok (.getfield 13, 3) := by decide +kernel
theorem dX12_reckons_18 : decode cX12_reckons 18 = .ok (.sipush 400, 3) := by decide +kernel
theorem dX12_reckons_21 : decode cX12_reckons 21 = .ok (.iload_n 1, 1) := by decide +kernel
theorem dX12_reckons_22 : decode cX12_reckons 22 = .ok (.imul, 1) := by decide +kernel
theorem dX12_reckons_23 : decode cX12_reckons 23 = .ok (.iload 4, 2) := by decide +kernel
theorem dX12_reckons_25 : decode cX12_reckons 25 = .ok (.iadd, 1) := by decide +kernel
theorem dX12_reckons_26 : decode cX12_reckons 26 = .ok (.iaload, 1) := by decide +kernel
theorem dX12_reckons_27 : decode cX12_reckons 27 = .ok (.bipush 15, 2) := by decide +kernel
theorem dX12_reckons_29 : decode cX12_reckons 29 = .ok (.iand, 1) := by decide +kernel
theorem dX12_reckons_30 : decode cX12_reckons 30 = .ok (.istore 5, 2) := by decide +kernel
theorem dX12_reckons_32 : decode cX12_reckons 32 = .ok (.aload_n 0, 1) := by decide +kernel
theorem dX12_reckons_33 : decode cX12_reckons 33 = .ok (.getfield 13, 3) := by decide +kernel
theorem dX12_reckons_36 : decode cX12_reckons 36 = .ok (.sipush 400, 3) := by decide +kernel
theorem dX12_reckons_39 : decode cX12_reckons 39 = .ok (.iload_n 1, 1) := by decide +kernel
theorem dX12_reckons_40 : decode cX12_reckons 40 = .ok (.imul, 1) := by decide +kernel
theorem dX12_reckons_41 : decode cX12_reckons 41 = .ok (.iload 4, 2) := by decide +kernel
theorem dX12_reckons_43 : decode cX12_reckons 43 = .ok (.iadd, 1) := by decide +kernel
theorem dX12_reckons_44 : decode cX12_reckons 44 = .ok (.iaload, 1) := by decide +kernel
theorem dX12_reckons_45 : decode cX12_reckons 45 = .ok (.iconst 4, 1) := by decide +kernel
theorem dX12_reckons_46 : decode cX12_reckons 46 = .ok (.ishr, 1) := by decide +kernel
theorem dX12_reckons_47 : decode cX12_reckons 47 = .ok (.istore 6, 2) := by decide +kernel
theorem dX12_reckons_49 : decode cX12_reckons 49 = .ok (.iload 5, 2) := by decide +kernel
theorem dX12_reckons_51 : decode cX12_reckons 51 = .ok (.ifCond .ne 13, 3) := by decide +kernel
theorem dX12_reckons_54 : decode cX12_reckons 54 = .ok (.aload_n 0, 1) := by decide +kernel
theorem dX12_reckons_55 : decode cX12_reckons 55 = .ok (.iload 6, 2) := by decide +kernel
theorem dX12_reckons_57 : decode cX12_reckons 57 = .ok (.i2l, 1) := by decide +kernel
theorem dX12_reckons_58 : decode cX12_reckons 58 = .ok (.invokevirtual 287, 3) := by decide +kernel
theorem dX12_reckons_61 : decode cX12_reckons 61 = .ok (.goto 68, 3) := by decide +kernel
theorem dX12_reckons_64 : decode cX12_reckons 64 = .ok (.iload 5, 2) := by decide +kernel
theorem dX12_reckons_66 : decode cX12_reckons 66 = .ok (.iconst 1, 1) := by decide +kernel
theorem dX12_reckons_67 : decode cX12_reckons 67 = .ok (.if_icmp .ne 17, 3) := by decide +kernel
theorem dX12_reckons_70 : decode cX12_reckons 70 = .ok (.aload_n 0, 1) := by decide +kernel
theorem dX12_reckons_71 : decode cX12_reckons 71 = .ok (.aload_n 0, 1) := by decide +kernel
theorem dX12_reckons_72 : decode cX12_reckons 72 = .ok (.getfield 36, 3) := by decide +kernel
theorem dX12_reckons_75 : decode cX12_reckons 75 = .ok (.iload 6, 2) := by decide +kernel
theorem dX12_reckons_77 : decode cX12_reckons 77 = .ok (.laload, 1) := by decide +kernel
theorem dX12_reckons_78 : decode cX12_reckons 78 = .ok (.invokevirtual 287, 3) := by decide +kernel
theorem dX12_reckons_81 : decode cX12_reckons 81 = .ok (.goto 48, 3) := by decide +kernel
theorem dX12_reckons_84 : decode cX12_reckons 84 = .ok (.iload 5, 2) := by decide +kernel
theorem dX12_reckons_86 : decode cX12_reckons 86 = .ok (.bipush 11, 2) := by decide +kernel
theorem dX12_reckons_88 : decode cX12_reckons 88 = .ok (.if_icmp .ne 16, 3) := by decide +kernel
theorem dX12_reckons_91 : decode cX12_reckons 91 = .ok (.aload_n 0, 1) := by decide +kernel
theorem dX12_reckons_92 : decode cX12_reckons 92 = .ok (.lconst 1, 1) := by decide +kernel
theorem dX12_reckons_93 : decode cX12_reckons 93 = .ok (.aload_n 0, 1) := by decide +kernel
theorem dX12_reckons_94 : decode cX12_reckons 94 = .ok (.invokevirtual 291, 3) := by decide +kernel
theorem dX12_reckons_97 : decode cX12_reckons 97 = .ok (.lsub, 1) := by decide +kernel
theorem dX12_reckons_98 : decode cX12_reckons 98 = .ok (.invokevirtual 287, 3) := by decide +kernel
theorem dX12_reckons_101 : decode cX12_reckons 101 = .ok (.goto 28, 3) := by decide +kernel
theorem dX12_reckons_104 : decode cX12_reckons 104 = .ok (.aload_n 0, 1) := by decide +kernel
theorem dX12_reckons_105 : decode cX12_reckons 105 = .ok (.invokevirtual 291, 3) := by decide +kernel
theorem dX12_reckons_108 : decode cX12_reckons 108 = .ok (.lstore 7, 2) := by decide +kernel
theorem dX12_reckons_110 : decode cX12_reckons 110 = .ok (.aload_n 0, 1) := by decide +kernel
theorem dX12_reckons_111 : decode cX12_reckons 111 = .ok (.invokevirtual 291, 3) := by decide +kernel
theorem dX12_reckons_114 : decode cX12_reckons 114 = .ok (.lstore 9, 2) := by decide +kernel
theorem dX12_reckons_116 : decode cX12_reckons 116 = .ok (.aload_n 0, 1) := by decide +kernel
theorem dX12_reckons_117 : decode cX12_reckons 117 = .ok (.iload 5, 2) := by decide +kernel
theorem dX12_reckons_119 : decode cX12_reckons 119 = .ok (.lload 9, 2) := by decide +kernel
theorem dX12_reckons_121 : decode cX12_reckons 121 = .ok (.lload 7, 2) := by decide +kernel
theorem dX12_reckons_123 : decode cX12_reckons 123 = .ok (.invokestatic 295, 3) := by decide +kernel
theorem dX12_reckons_126 : decode cX12_reckons 126 = .ok (.invokevirtual 287, 3) := by decide +kernel
theorem dX12_reckons_129 : decode cX12_reckons 129 = .ok (.iinc 4 1, 3) := by decide +kernel
theorem dX12_reckons_132 : decode cX12_reckons 132 = .ok (.goto (-124), 3) := by decide +kernel
theorem dX12_reckons_135 : decode cX12_reckons 135 = .ok (.aload_n 0, 1) := by decide +kernel
theorem dX12_reckons_136 : decode cX12_reckons 136 = .ok (.invokevirtual 291, 3) := by decide +kernel
theorem dX12_reckons_139 : decode cX12_reckons 139 = .ok (.lreturn, 1) := by decide +kernel
theorem dX12_isTown_0 : decode cX12_isTown 0 = .ok (.aload_n 0, 1) := by decide +kernel
theorem dX12_isTown_1 : decode cX12_isTown 1 = .ok (.getfield 39, 3) := by decide +kernel
theorem dX12_isTown_4 : decode cX12_isTown 4 = .ok (.iconst 0, 1) := by decide +kernel
theorem dX12_isTown_5 : decode cX12_isTown 5 = .ok (.iaload, 1) := by decide +kernel
theorem dX12_isTown_6 : decode cX12_isTown 6 = .ok (.ifCond .le 7, 3) := by decide +kernel
theorem dX12_isTown_9 : decode cX12_isTown 9 = .ok (.iconst 1, 1) := by decide +kernel
theorem dX12_isTown_10 : decode cX12_isTown 10 = .ok (.goto 4, 3) := by decide +kernel
theorem dX12_isTown_13 : decode cX12_isTown 13 = .ok (.iconst 0, 1) := by decide +kernel
theorem dX12_isTown_14 : decode cX12_isTown 14 = .ok (.ireturn, 1) := by decide +kernel
theorem dX12_isFact_0 : decode cX12_isFact 0 = .ok (.iload_n 1, 1) := by decide +kernel
theorem dX12_isFact_1 : decode cX12_isFact 1 = .ok (.ifCond .lt 17, 3) := by decide +kernel
theorem dX12_isFact_4 : decode cX12_isFact 4 = .ok (.iload_n 1, 1) := by decide +kernel
theorem dX12_isFact_5 : decode cX12_isFact 5 = .ok (.aload_n 0, 1) := by decide +kernel
theorem dX12_isFact_6 : decode cX12_isFact 6 = .ok (.getfield 39, 3) := by decide +kernel
theorem dX12_isFact_9 : decode cX12_isFact 9 = .ok (.iconst 0, 1) := by decide +kernel
theorem dX12_isFact_10 : decode cX12_isFact 10 = .ok (.iaload, 1) := by decide +kernel
theorem dX12_isFact_11 : decode cX12_isFact 11 = .ok (.if_icmp .ge 7, 3) := by decide +kernel
theorem dX12_isFact_14 : decode cX12_isFact 14 = .ok (.iconst 1, 1) := by decide +kernel
theorem dX12_isFact_15 : decode cX12_isFact 15 = .ok (.goto 4, 3) := by decide +kernel
theorem dX12_isFact_18 : decode cX12_isFact 18 = .ok (.iconst 0, 1) := by decide +kernel
theorem dX12_isFact_19 : decode cX12_isFact 19 = .ok (.ireturn, 1) := by decide +kernel
theorem dX12_isPerson_0 : decode cX12_isPerson 0 = .ok (.iload_n 1, 1) := by decide +kernel
theorem dX12_isPerson_1 : decode cX12_isPerson 1 = .ok (.ifCond .lt 17, 3) := by decide +kernel
theorem dX12_isPerson_4 : decode cX12_isPerson 4 = .ok (.iload_n 1, 1) := by decide +kernel
theorem dX12_isPerson_5 : decode cX12_isPerson 5 = .ok (.aload_n 0, 1) := by decide +kernel
theorem dX12_isPerson_6 : decode cX12_isPerson 6 = .ok (.getfield 39, 3) := by decide +kernel
theorem dX12_isPerson_9 : decode cX12_isPerson 9 = .ok (.iconst 2, 1) := by decide +kernel
theorem dX12_isPerson_10 : decode cX12_isPerson 10 = .ok (.iaload, 1) := by decide +kernel
theorem dX12_isPerson_11 : decode cX12_isPerson 11 = .ok (.if_icmp .ge 7, 3) := by decide +kernel
theorem dX12_isPerson_14 : decode cX12_isPerson 14 = .ok (.iconst 1, 1) := by decide +kernel
theorem dX12_isPerson_15 : decode cX12_isPerson 15 = .ok (.goto 4, 3) := by decide +kernel
theorem dX12_isPerson_18 : decode cX12_isPerson 18 = .ok (.iconst 0, 1) := by decide +kernel
theorem dX12_isPerson_19 : decode cX12_isPerson 19 = .ok (.ireturn, 1) := by decide +kernel
theorem dX12_soOf_0 : decode cX12_soOf 0 = .ok (.aload_n 0, 1) := by decide +kernel
theorem dX12_soOf_1 : decode cX12_soOf 1 = .ok (.getfield 39, 3) := by decide +kernel
theorem dX12_soOf_4 : decode cX12_soOf 4 = .ok (.iconst 1, 1) := by decide +kernel
theorem dX12_soOf_5 : decode cX12_soOf 5 = .ok (.iaload, 1) := by decide +kernel
theorem dX12_soOf_6 : decode cX12_soOf 6 = .ok (.iload_n 1, 1) := by decide +kernel
theorem dX12_soOf_7 : decode cX12_soOf 7 = .ok (.ishr, 1) := by decide +kernel
theorem dX12_soOf_8 : decode cX12_soOf 8 = .ok (.iconst 1, 1) := by decide +kernel
theorem dX12_soOf_9 : decode cX12_soOf 9 = .ok (.iand, 1) := by decide +kernel
theorem dX12_soOf_10 : decode cX12_soOf 10 = .ok (.ireturn, 1) := by decide +kernel
theorem dX12_holdOf_0 : decode cX12_holdOf 0 = .ok (.aload_n 0, 1) := by decide +kernel
theorem dX12_holdOf_1 : decode cX12_holdOf 1 = .ok (.getfield 39, 3) := by decide +kernel
theorem dX12_holdOf_4 : decode cX12_holdOf 4 = .ok (.bipush 11, 2) := by decide +kernel
theorem dX12_holdOf_6 : decode cX12_holdOf 6 = .ok (.bipush 16, 2) := by decide +kernel
theorem dX12_holdOf_8 : decode cX12_holdOf 8 = .ok (.iload_n 1, 1) := by decide +kernel
theorem dX12_holdOf_9 : decode cX12_holdOf 9 = .ok (.imul, 1) := by decide +kernel
theorem dX12_holdOf_10 : decode cX12_holdOf 10 = .ok (.iadd, 1) := by decide +kernel
theorem dX12_holdOf_11 : decode cX12_holdOf 11 = .ok (.iconst 2, 1) := by decide +kernel
theorem dX12_holdOf_12 : decode cX12_holdOf 12 = .ok (.iload_n 2, 1) := by decide +kernel
theorem dX12_holdOf_13 : decode cX12_holdOf 13 = .ok (.imul, 1) := by decide +kernel
theorem dX12_holdOf_14 : decode cX12_holdOf 14 = .ok (.iadd, 1) := by decide +kernel
theorem dX12_holdOf_15 : decode cX12_holdOf 15 = .ok (.iaload, 1) := by decide +kernel
theorem dX12_holdOf_16 : decode cX12_holdOf 16 = .ok (.ireturn, 1) := by decide +kernel
theorem dX12_strengthOf_0 : decode cX12_strengthOf 0 = .ok (.aload_n 0, 1) := by decide +kernel
theorem dX12_strengthOf_1 : decode cX12_strengthOf 1 = .ok (.getfield 39, 3) := by decide +kernel
theorem dX12_strengthOf_4 : decode cX12_strengthOf 4 = .ok (.bipush 11, 2) := by decide +kernel
theorem dX12_strengthOf_6 : decode cX12_strengthOf 6 = .ok (.bipush 16, 2) := by decide +kernel
theorem dX12_strengthOf_8 : decode cX12_strengthOf 8 = .ok (.iload_n 1, 1) := by decide +kernel
theorem dX12_strengthOf_9 : decode cX12_strengthOf 9 = .ok (.imul, 1) := by decide +kernel
theorem dX12_strengthOf_10 : decode cX12_strengthOf 10 = .ok (.iadd, 1) := by decide +kernel
theorem dX12_strengthOf_11 : decode cX12_strengthOf 11 = .ok (.iconst 2, 1) := by decide +kernel
theorem dX12_strengthOf_12 : decode cX12_strengthOf 12 = .ok (.iload_n 2, 1) := by decide +kernel
theorem dX12_strengthOf_13 : decode cX12_strengthOf 13 = .ok (.imul, 1) := by decide +kernel
theorem dX12_strengthOf_14 : decode cX12_strengthOf 14 = .ok (.iadd, 1) := by decide +kernel
theorem dX12_strengthOf_15 : decode cX12_strengthOf 15 = .ok (.iconst 1, 1) := by decide +kernel
theorem dX12_strengthOf_16 : decode cX12_strengthOf 16 = .ok (.iadd, 1) := by decide +kernel
theorem dX12_strengthOf_17 : decode cX12_strengthOf 17 = .ok (.iaload, 1) := by decide +kernel
theorem dX12_strengthOf_18 : decode cX12_strengthOf 18 = .ok (.ireturn, 1) := by decide +kernel
theorem dX12_holdsNow_0 : decode cX12_holdsNow 0 = .ok (.aload_n 0, 1) := by decide +kernel
theorem dX12_holdsNow_1 : decode cX12_holdsNow 1 = .ok (.getfield 39, 3) := by decide +kernel
theorem dX12_holdsNow_4 : decode cX12_holdsNow 4 = .ok (.bipush 11, 2) := by decide +kernel
theorem dX12_holdsNow_6 : decode cX12_holdsNow 6 = .ok (.bipush 16, 2) := by decide +kernel
theorem dX12_holdsNow_8 : decode cX12_holdsNow 8 = .ok (.iload_n 1, 1) := by decide +kernel
theorem dX12_holdsNow_9 : decode cX12_holdsNow 9 = .ok (.imul, 1) := by decide +kernel
theorem dX12_holdsNow_10 : decode cX12_holdsNow 10 = .ok (.iadd, 1) := by decide +kernel
theorem dX12_holdsNow_11 : decode cX12_holdsNow 11 = .ok (.iconst 2, 1) := by decide +kernel
theorem dX12_holdsNow_12 : decode cX12_holdsNow 12 = .ok (.iload_n 2, 1) := by decide +kernel
theorem dX12_holdsNow_13 : decode cX12_holdsNow 13 = .ok (.imul, 1) := by decide +kernel
theorem dX12_holdsNow_14 : decode cX12_holdsNow 14 = .ok (.iadd, 1) := by decide +kernel
theorem dX12_holdsNow_15 : decode cX12_holdsNow 15 = .ok (.iload_n 3, 1) := by decide +kernel
theorem dX12_holdsNow_16 : decode cX12_holdsNow 16 = .ok (.iastore, 1) := by decide +kernel
theorem dX12_holdsNow_17 : decode cX12_holdsNow 17 = .ok (.aload_n 0, 1) := by decide +kernel
theorem dX12_holdsNow_18 : decode cX12_holdsNow 18 = .ok (.getfield 39, 3) := by decide +kernel
theorem dX12_holdsNow_21 : decode cX12_holdsNow 21 = .ok (.bipush 11, 2) := by decide +kernel
theorem dX12_holdsNow_23 : decode cX12_holdsNow 23 = .ok (.bipush 16, 2) := by decide +kernel
theorem dX12_holdsNow_25 : decode cX12_holdsNow 25 = .ok (.iload_n 1, 1) := by decide +kernel
theorem dX12_holdsNow_26 : decode cX12_holdsNow 26 = .ok (.imul, 1) := by decide +kernel
theorem dX12_holdsNow_27 : decode cX12_holdsNow 27 = .ok (.iadd, 1) := by decide +kernel
theorem dX12_holdsNow_28 : decode cX12_holdsNow 28 = .ok (.iconst 2, 1) := by decide +kernel
theorem dX12_holdsNow_29 : decode cX12_holdsNow 29 = .ok (.iload_n 2, 1) := by decide +kernel
theorem dX12_holdsNow_30 : decode cX12_holdsNow 30 = .ok (.imul, 1) := by decide +kernel
theorem dX12_holdsNow_31 : decode cX12_holdsNow 31 = .ok (.iadd, 1) := by decide +kernel
theorem dX12_holdsNow_32 : decode cX12_holdsNow 32 = .ok (.iconst 1, 1) := by decide +kernel
theorem dX12_holdsNow_33 : decode cX12_holdsNow 33 = .ok (.iadd, 1) := by decide +kernel
theorem dX12_holdsNow_34 : decode cX12_holdsNow 34 = .ok (.iload 4, 2) := by decide +kernel
theorem dX12_holdsNow_36 : decode cX12_holdsNow 36 = .ok (.iastore, 1) := by decide +kernel
theorem dX12_holdsNow_37 : decode cX12_holdsNow 37 = .ok (.return_, 1) := by decide +kernel
theorem dX12_trustOf_0 : decode cX12_trustOf 0 = .ok (.aload_n 0, 1) := by decide +kernel
theorem dX12_trustOf_1 : decode cX12_trustOf 1 = .ok (.getfield 39, 3) := by decide +kernel
theorem dX12_trustOf_4 : decode cX12_trustOf 4 = .ok (.sipush 130, 3) := by decide +kernel
theorem dX12_trustOf_7 : decode cX12_trustOf 7 = .ok (.bipush 7, 2) := by decide +kernel
theorem dX12_trustOf_9 : decode cX12_trustOf 9 = .ok (.iload_n 1, 1) := by decide +kernel
theorem dX12_trustOf_10 : decode cX12_trustOf 10 = .ok (.imul, 1) := by decide +kernel
theorem dX12_trustOf_11 : decode cX12_trustOf 11 = .ok (.iadd, 1) := by decide +kernel
theorem dX12_trustOf_12 : decode cX12_trustOf 12 = .ok (.iload_n 2, 1) := by decide +kernel
theorem dX12_trustOf_13 : decode cX12_trustOf 13 = .ok (.iadd, 1) := by decide +kernel
theorem dX12_trustOf_14 : decode cX12_trustOf 14 = .ok (.iaload, 1) := by decide +kernel
theorem dX12_trustOf_15 : decode cX12_trustOf 15 = .ok (.ireturn, 1) := by decide +kernel
theorem dX12_streetOf_0 : decode cX12_streetOf 0 = .ok (.iconst 0, 1) := by decide +kernel
theorem dX12_streetOf_1 : decode cX12_streetOf 1 = .ok (.istore_n 3, 1) := by decide +kernel
theorem dX12_streetOf_2 : decode cX12_streetOf 2 = .ok (.iload_n 3, 1) := by decide +kernel
theorem dX12_streetOf_3 : decode cX12_streetOf 3 = .ok (.aload_n 0, 1) := by decide +kernel
theorem dX12_streetOf_4 : decode cX12_streetOf 4 = .ok (.getfield 39, 3) := by decide +kernel
theorem dX12_streetOf_7 : decode cX12_streetOf 7 = .ok (.iconst 3, 1) := by decide +kernel
theorem dX12_streetOf_8 : decode cX12_streetOf 8 = .ok (.iaload, 1) := by decide +kernel
theorem dX12_streetOf_9 : decode cX12_streetOf 9 = .ok (.if_icmp .ge 65, 3) := by decide +kernel
theorem dX12_streetOf_12 : decode cX12_streetOf 12 = .ok (.aload_n 0, 1) := by decide +kernel
theorem dX12_streetOf_13 : decode cX12_streetOf 13 = .ok (.getfield 39, 3) := by decide +kernel
theorem dX12_streetOf_16 : decode cX12_streetOf 16 = .ok (.sipush 179, 3) := by decide +kernel
theorem dX12_streetOf_19 : decode cX12_streetOf 19 = .ok (.iconst 2, 1) := by decide +kernel
theorem dX12_streetOf_20 : decode cX12_streetOf 20 = .ok (.iload_n 3, 1) := by decide +kernel
theorem dX12_streetOf_21 : decode cX12_streetOf 21 = .ok (.imul, 1) := by decide +kernel
theorem dX12_streetOf_22 : decode cX12_streetOf 22 = .ok (.iadd, 1) := by decide +kernel
theorem dX12_streetOf_23 : decode cX12_streetOf 23 = .ok (.iaload, 1) := by decide +kernel
theorem dX12_streetOf_24 : decode cX12_streetOf 24 = .ok (.istore 4, 2) := by decide +kernel
theorem dX12_streetOf_26 : decode cX12_streetOf 26 = .ok (.aload_n 0, 1) := by decide +kernel
theorem dX12_streetOf_27 : decode cX12_streetOf 27 = .ok (.getfield 39, 3) := by decide +kernel
theorem dX12_streetOf_30 : decode cX12_streetOf 30 = .ok (.sipush 179, 3) := by decide +kernel
theorem dX12_streetOf_33 : decode cX12_streetOf 33 = .ok (.iconst 2, 1) := by decide +kernel
theorem dX12_streetOf_34 : decode cX12_streetOf 34 = .ok (.iload_n 3, 1) := by decide +kernel
theorem dX12_streetOf_35 : decode cX12_streetOf 35 = .ok (.imul, 1) := by decide +kernel
theorem dX12_streetOf_36 : decode cX12_streetOf 36 = .ok (.iadd, 1) := by decide +kernel
theorem dX12_streetOf_37 : decode cX12_streetOf 37 = .ok (.iconst 1, 1) := by decide +kernel
theorem dX12_streetOf_38 : decode cX12_streetOf 38 = .ok (.iadd, 1) := by decide +kernel
theorem dX12_streetOf_39 : decode cX12_streetOf 39 = .ok (.iaload, 1) := by decide +kernel
theorem dX12_streetOf_40 : decode cX12_streetOf 40 = .ok (.istore 5, 2) := by decide +kernel
theorem dX12_streetOf_42 : decode cX12_streetOf 42 = .ok (.iload 4, 2) := by decide +kernel
theorem dX12_streetOf_44 : decode cX12_streetOf 44 = .ok (.iload_n 1, 1) := by decide +kernel
theorem dX12_streetOf_45 : decode cX12_streetOf 45 = .ok (.if_icmp .ne 9, 3) := by decide +kernel
theorem dX12_streetOf_48 : decode cX12_streetOf 48 = .ok (.iload 5, 2) := by decide +kernel
theorem dX12_streetOf_50 : decode cX12_streetOf 50 = .ok (.iload_n 2, 1) := by decide +kernel
theorem dX12_streetOf_51 : decode cX12_streetOf 51 = .ok (.if_icmp .eq 15, 3) := by decide +kernel
theorem dX12_streetOf_54 : decode cX12_streetOf 54 = .ok (.iload 4, 2) := by decide +kernel
theorem dX12_streetOf_56 : decode cX12_streetOf 56 = .ok (.iload_n 2, 1) := by decide +kernel
theorem dX12_streetOf_57 : decode cX12_streetOf 57 = .ok (.if_icmp .ne 11, 3) := by decide +kernel
theorem dX12_streetOf_60 : decode cX12_streetOf 60 = .ok (.iload 5, 2) := by decide +kernel
theorem dX12_streetOf_62 : decode cX12_streetOf 62 = .ok (.iload_n 1, 1) := by decide +kernel
theorem dX12_streetOf_63 : decode cX12_streetOf 63 = .ok (.if_icmp .ne 5, 3) := by decide +kernel
theorem dX12_streetOf_66 : decode cX12_streetOf 66 = .ok (.iload_n 3, 1) := by decide +kernel
theorem dX12_streetOf_67 : decode cX12_streetOf 67 = .ok (.ireturn, 1) := by decide +kernel
theorem dX12_streetOf_68 : decode cX12_streetOf 68 = .ok (.iinc 3 1, 3) := by decide +kernel
theorem dX12_streetOf_71 : decode cX12_streetOf 71 = .ok (.goto (-69), 3) := by decide +kernel
theorem dX12_streetOf_74 : decode cX12_streetOf 74 = .ok (.iconst (-1), 1) := by decide +kernel
theorem dX12_streetOf_75 : decode cX12_streetOf 75 = .ok (.ireturn, 1) := by decide +kernel
theorem dX12_besides_0 : decode cX12_besides 0 = .ok (.iconst 0, 1) := by decide +kernel
theorem dX12_besides_1 : decode cX12_besides 1 = .ok (.istore_n 2, 1) := by decide +kernel
theorem dX12_besides_2 : decode cX12_besides 2 = .ok (.iconst 0, 1) := by decide +kernel
theorem dX12_besides_3 : decode cX12_besides 3 = .ok (.istore_n 3, 1) := by decide +kernel
theorem dX12_besides_4 : decode cX12_besides 4 = .ok (.iload_n 3, 1) := by decide +kernel
theorem dX12_besides_5 : decode cX12_besides 5 = .ok (.aload_n 0, 1) := by decide +kernel
theorem dX12_besides_6 : decode cX12_besides 6 = .ok (.getfield 39, 3) := by decide +kernel
theorem dX12_besides_9 : decode cX12_besides 9 = .ok (.iconst 2, 1) := by decide +kernel
theorem dX12_besides_10 : decode cX12_besides 10 = .ok (.iaload, 1) := by decide +kernel
theorem dX12_besides_11 : decode cX12_besides 11 = .ok (.if_icmp .ge 33, 3) := by decide +kernel
theorem dX12_besides_14 : decode cX12_besides 14 = .ok (.iload_n 2, 1) := by decide +kernel
theorem dX12_besides_15 : decode cX12_besides 15 = .ok (.iload_n 3, 1) := by decide +kernel
theorem dX12_besides_16 : decode cX12_besides 16 = .ok (.iload_n 1, 1) := by decide +kernel
theorem dX12_besides_17 : decode cX12_besides 17 = .ok (.if_icmp .eq 18, 3) := by decide +kernel
theorem dX12_besides_20 : decode cX12_besides 20 = .ok (.aload_n 0, 1) := by decide +kernel
theorem dX12_besides_21 : decode cX12_besides 21 = .ok (.iload_n 1, 1) := by decide +kernel
theorem dX12_besides_22 : decode cX12_besides 22 = .ok (.iload_n 3, 1) := by decide +kernel
theorem dX12_besides_23 : decode cX12_besides 23 = .ok (.invokevirtual 299, 3) := by decide +kernel
theorem dX12_besides_26 : decode cX12_besides 26 = .ok (.ifCond .lt 9, 3) := by decide +kernel
theorem dX12_besides_29 : decode cX12_besides 29 = .ok (.iconst 1, 1) := by decide +kernel
theorem dX12_besides_30 : decode cX12_besides 30 = .ok (.iload_n 3, 1) := by decide +kernel
theorem dX12_besides_31 : decode cX12_besides 31 = .ok (.ishl, 1) := by decide +kernel
theorem dX12_besides_32 : decode cX12_besides 32 = .ok (.goto 4, 3) := by decide +kernel
theorem dX12_besides_35 : decode cX12_besides 35 = .ok (.iconst 0, 1) := by decide +kernel
theorem dX12_besides_36 : decode cX12_besides 36 = .ok (.ior, 1) := by decide +kernel
theorem dX12_besides_37 : decode cX12_besides 37 = .ok (.istore_n 2, 1) := by decide +kernel
theorem dX12_besides_38 : decode cX12_besides 38 = .ok (.iinc 3 1, 3) := by decide +kernel
theorem dX12_besides_41 : decode cX12_besides 41 = .ok (.goto (-37), 3) := by decide +kernel
theorem dX12_besides_44 : decode cX12_besides 44 = .ok (.iload_n 2, 1) := by decide +kernel
theorem dX12_besides_45 : decode cX12_besides 45 = .ok (.ireturn, 1) := by decide +kernel
theorem dX12_charter_0 : decode cX12_charter 0 = .ok (.iload_n 1, 1) := by decide +kernel
theorem dX12_charter_1 : decode cX12_charter 1 = .ok (.iconst (-1), 1) := by decide +kernel
theorem dX12_charter_2 : decode cX12_charter 2 = .ok (.if_icmp .eq 14, 3) := by decide +kernel
theorem dX12_charter_5 : decode cX12_charter 5 = .ok (.aload_n 0, 1) := by decide +kernel
theorem dX12_charter_6 : decode cX12_charter 6 = .ok (.iload_n 1, 1) := by decide +kernel
theorem dX12_charter_7 : decode cX12_charter 7 = .ok (.invokevirtual 302, 3) := by decide +kernel
theorem dX12_charter_10 : decode cX12_charter 10 = .ok (.ifCond .ne 6, 3) := by decide +kernel
theorem dX12_charter_13 : decode cX12_charter 13 = .ok (.bipush (-2), 2) := by decide +kernel
theorem dX12_charter_15 : decode cX12_charter 15 = .ok (.ireturn, 1) := by decide +kernel
theorem dX12_charter_16 : decode cX12_charter 16 = .ok (.aload_n 0, 1) := by decide +kernel
theorem dX12_charter_17 : decode cX12_charter 17 = .ok (.getfield 42, 3) := by decide +kernel
theorem dX12_charter_20 : decode cX12_charter 20 = .ok (.istore_n 2, 1) := by decide +kernel
theorem dX12_charter_21 : decode cX12_charter 21 = .ok (.aload_n 0, 1) := by decide +kernel
theorem dX12_charter_22 : decode cX12_charter 22 = .ok (.iload_n 1, 1) := by decide +kernel
theorem dX12_charter_23 : decode cX12_charter 23 = .ok (.putfield 42, 3) := by decide +kernel
theorem dX12_charter_26 : decode cX12_charter 26 = .ok (.iload_n 2, 1) := by decide +kernel
theorem dX12_charter_27 : decode cX12_charter 27 = .ok (.ireturn, 1) := by decide +kernel
theorem dX12_isIfOpen_0 : decode cX12_isIfOpen 0 = .ok (.sipush 199, 3) := by decide +kernel
theorem dX12_isIfOpen_3 : decode cX12_isIfOpen 3 = .ok (.iconst 4, 1) := by decide +kernel
theorem dX12_isIfOpen_4 : decode cX12_isIfOpen 4 = .ok (.iload_n 1, 1) := by decide +kernel
theorem dX12_isIfOpen_5 : decode cX12_isIfOpen 5 = .ok (.imul, 1) := by decide +kernel
theorem dX12_isIfOpen_6 : decode cX12_isIfOpen 6 = .ok (.iadd, 1) := by decide +kernel
theorem dX12_isIfOpen_7 : decode cX12_isIfOpen 7 = .ok (.istore_n 2, 1) := by decide +kernel
theorem dX12_isIfOpen_8 : decode cX12_isIfOpen 8 = .ok (.aload_n 0, 1) := by decide +kernel
theorem dX12_isIfOpen_9 : decode cX12_isIfOpen 9 = .ok (.getfield 46, 3) := by decide +kernel
theorem dX12_isIfOpen_12 : decode cX12_isIfOpen 12 = .ok (.aload_n 0, 1) := by decide +kernel
theorem dX12_isIfOpen_13 : decode cX12_isIfOpen 13 = .ok (.getfield 39, 3) := by decide +kernel
theorem dX12_isIfOpen_16 : decode cX12_isIfOpen 16 = .ok (.iload_n 2, 1) := by decide +kernel
theorem dX12_isIfOpen_17 : decode cX12_isIfOpen 17 = .ok (.iaload, 1) := by decide +kernel
theorem dX12_isIfOpen_18 : decode cX12_isIfOpen 18 = .ok (.iaload, 1) := by decide +kernel
theorem dX12_isIfOpen_19 : decode cX12_isIfOpen 19 = .ok (.aload_n 0, 1) := by decide +kernel
theorem dX12_isIfOpen_20 : decode cX12_isIfOpen 20 = .ok (.getfield 39, 3) := by decide +kernel
theorem dX12_isIfOpen_23 : decode cX12_isIfOpen 23 = .ok (.iload_n 2, 1) := by decide +kernel
theorem dX12_isIfOpen_24 : decode cX12_isIfOpen 24 = .ok (.iconst 1, 1) := by decide +kernel
theorem dX12_isIfOpen_25 : decode cX12_isIfOpen 25 = .ok (.iadd, 1) := by decide +kernel
theorem dX12_isIfOpen_26 : decode cX12_isIfOpen 26 = .ok (.iaload, 1) := by decide +kernel
theorem dX12_isIfOpen_27 : decode cX12_isIfOpen 27 = .ok (.if_icmp .ne 24, 3) := by decide +kernel
theorem dX12_isIfOpen_30 : decode cX12_isIfOpen 30 = .ok (.aload_n 0, 1) := by decide +kernel
theorem dX12_isIfOpen_31 : decode cX12_isIfOpen 31 = .ok (.getfield 46, 3) := by decide +kernel
theorem dX12_isIfOpen_34 : decode cX12_isIfOpen 34 = .ok (.aload_n 0, 1) := by decide +kernel
theorem dX12_isIfOpen_35 : decode cX12_isIfOpen 35 = .ok (.getfield 39, 3) := by decide +kernel
theorem dX12_isIfOpen_38 : decode cX12_isIfOpen 38 = .ok (.iload_n 2, 1) := by decide +kernel
theorem dX12_isIfOpen_39 : decode cX12_isIfOpen 39 = .ok (.iconst 2, 1) := by decide +kernel
theorem dX12_isIfOpen_40 : decode cX12_isIfOpen 40 = .ok (.iadd, 1) := by decide +kernel
theorem dX12_isIfOpen_41 : decode cX12_isIfOpen 41 = .ok (.iaload, 1) := by decide +kernel
theorem dX12_isIfOpen_42 : decode cX12_isIfOpen 42 = .ok (.iaload, 1) := by decide +kernel
theorem dX12_isIfOpen_43 : decode cX12_isIfOpen 43 = .ok (.iconst 2, 1) := by decide +kernel
theorem dX12_isIfOpen_44 : decode cX12_isIfOpen 44 = .ok (.if_icmp .ne 7, 3) := by decide +kernel
theorem dX12_isIfOpen_47 : decode cX12_isIfOpen 47 = .ok (.iconst 1, 1) := by decide +kernel
theorem dX12_isIfOpen_48 : decode cX12_isIfOpen 48 = .ok (.goto 4, 3) := by decide +kernel
theorem dX12_isIfOpen_51 : decode cX12_isIfOpen 51 = .ok (.iconst 0, 1) := by decide +kernel
theorem dX12_isIfOpen_52 : decode cX12_isIfOpen 52 = .ok (.ireturn, 1) := by decide +kernel
theorem dX12_believes_0 : decode cX12_believes 0 = .ok (.iconst 0, 1) := by decide +kernel
theorem dX12_believes_1 : decode cX12_believes 1 = .ok (.istore_n 2, 1) := by decide +kernel
theorem dX12_believes_2 : decode cX12_believes 2 = .ok (.iload_n 2, 1) := by decide +kernel
theorem dX12_believes_3 : decode cX12_believes 3 = .ok (.aload_n 0, 1) := by decide +kernel
theorem dX12_believes_4 : decode cX12_believes 4 = .ok (.getfield 39, 3) := by decide +kernel
theorem dX12_believes_7 : decode cX12_believes 7 = .ok (.iconst 0, 1) := by decide +kernel
theorem dX12_believes_8 : decode cX12_believes 8 = .ok (.iaload, 1) := by decide +kernel
theorem dX12_believes_9 : decode cX12_believes 9 = .ok (.if_icmp .ge 21, 3) := by decide +kernel
theorem dX12_believes_12 : decode cX12_believes 12 = .ok (.aload_n 0, 1) := by decide +kernel
theorem dX12_believes_13 : decode cX12_believes 13 = .ok (.getfield 46, 3) := by decide +kernel
theorem dX12_believes_16 : decode cX12_believes 16 = .ok (.iload_n 2, 1) := by decide +kernel
theorem dX12_believes_17 : decode cX12_believes 17 = .ok (.aload_n 0, 1) := by decide +kernel
theorem dX12_believes_18 : decode cX12_believes 18 = .ok (.iload_n 1, 1) := by decide +kernel
theorem dX12_believes_19 : decode cX12_believes 19 = .ok (.iload_n 2, 1) := by decide +kernel
theorem dX12_believes_20 : decode cX12_believes 20 = .ok (.invokevirtual 305, 3) := by decide +kernel
theorem dX12_believes_23 : decode cX12_believes 23 = .ok (.iastore, 1) := by decide +kernel
theorem dX12_believes_24 : decode cX12_believes 24 = .ok (.iinc 2 1, 3) := by decide +kernel
theorem dX12_believes_27 : decode cX12_believes 27 = .ok (.goto (-25), 3) := by decide +kernel
theorem dX12_believes_30 : decode cX12_believes 30 = .ok (.iconst 0, 1) := by decide +kernel
theorem dX12_believes_31 : decode cX12_believes 31 = .ok (.istore_n 2, 1) := by decide +kernel
theorem dX12_believes_32 : decode cX12_believes 32 = .ok (.iload_n 2, 1) := by decide +kernel
theorem dX12_believes_33 : decode cX12_believes 33 = .ok (.aload_n 0, 1) := by decide +kernel
theorem dX12_believes_34 : decode cX12_believes 34 = .ok (.getfield 39, 3) := by decide +kernel
theorem dX12_believes_37 : decode cX12_believes 37 = .ok (.iconst 4, 1) := by decide +kernel
theorem dX12_believes_38 : decode cX12_believes 38 = .ok (.iaload, 1) := by decide +kernel
theorem dX12_believes_39 : decode cX12_believes 39 = .ok (.if_icmp .ge 55, 3) := by decide +kernel
theorem dX12_believes_42 : decode cX12_believes 42 = .ok (.aload_n 0, 1) := by decide +kernel
theorem dX12_believes_43 : decode cX12_believes 43 = .ok (.iload_n 2, 1) := by decide +kernel
theorem dX12_believes_44 : decode cX12_believes 44 = .ok (.invokevirtual 308, 3) := by decide +kernel
theorem dX12_believes_47 : decode cX12_believes 47 = .ok (.ifCond .eq 41, 3) := by decide +kernel
theorem dX12_believes_50 : decode cX12_believes 50 = .ok (.aload_n 0, 1) := by decide +kernel
theorem dX12_believes_51 : decode cX12_believes 51 = .ok (.getfield 46, 3) := by decide +kernel
theorem dX12_believes_54 : decode cX12_believes 54 = .ok (.aload_n 0, 1) := by decide +kernel
theorem dX12_believes_55 : decode cX12_believes 55 = .ok (.getfield 39, 3) := by decide +kernel
theorem dX12_believes_58 : decode cX12_believes 58 = .ok (.sipush 199, 3) := by decide +kernel
theorem dX12_believes_61 : decode cX12_believes 61 = .ok (.iconst 4, 1) := by decide +kernel
theorem dX12_believes_62 : decode cX12_believes 62 = .ok (.iload_n 2, 1) := by decide +kernel
theorem dX12_believes_63 : decode cX12_believes 63 = .ok (.imul, 1) := by decide +kernel
theorem dX12_believes_64 : decode cX12_believes 64 = .ok (.iadd, 1) := by decide +kernel
theorem dX12_believes_65 : decode cX12_believes 65 = .ok (.iconst 2, 1) := by decide +kernel
theorem dX12_believes_66 : decode cX12_believes 66 = .ok (.iadd, 1) := by decide +kernel
theorem dX12_believes_67 : decode cX12_believes 67 = .ok (.iaload, 1) := by decide +kernel
theorem dX12_believes_68 : decode cX12_believes 68 = .ok (.aload_n 0, 1) := by decide +kernel
theorem dX12_believes_69 : decode cX12_believes 69 = .ok (.getfield 39, 3) := by decide +kernel
theorem dX12_believes_72 : decode cX12_believes 72 = .ok (.sipush 199, 3) := by decide +kernel
theorem dX12_believes_75 : decode cX12_believes 75 = .ok (.iconst 4, 1) := by decide +kernel
theorem dX12_believes_76 : decode cX12_believes 76 = .ok (.iload_n 2, 1) := by decide +kernel
theorem dX12_believes_77 : decode cX12_believes 77 = .ok (.imul, 1) := by decide +kernel
theorem dX12_believes_78 : decode cX12_believes 78 = .ok (.iadd, 1) := by decide +kernel
theorem dX12_believes_79 : decode cX12_believes 79 = .ok (.iconst 3, 1) := by decide +kernel
theorem dX12_believes_80 : decode cX12_believes 80 = .ok (.iadd, 1) := by decide +kernel
theorem dX12_believes_81 : decode cX12_believes 81 = .ok (.iaload, 1) := by decide +kernel
theorem dX12_believes_82 : decode cX12_believes 82 = .ok (.iastore, 1) := by decide +kernel
theorem dX12_believes_83 : decode cX12_believes 83 = .ok (.iconst 0, 1) := by decide +kernel
theorem dX12_believes_84 : decode cX12_believes 84 = .ok (.istore_n 2, 1) := by decide +kernel
theorem dX12_believes_85 : decode cX12_believes 85 = .ok (.goto (-53), 3) := by decide +kernel
theorem dX12_believes_88 : decode cX12_believes 88 = .ok (.iinc 2 1, 3) := by decide +kernel
theorem dX12_believes_91 : decode cX12_believes 91 = .ok (.goto (-59), 3) := by decide +kernel
theorem dX12_believes_94 : decode cX12_believes 94 = .ok (.return_, 1) := by decide +kernel
theorem dX12_contradictions_0 : decode cX12_contradictions 0 = .ok (.iconst 0, 1) := by decide +kernel
theorem dX12_contradictions_1 : decode cX12_contradictions 1 = .ok (.istore_n 1, 1) := by decide +kernel
theorem dX12_contradictions_2 : decode cX12_contradictions 2 = .ok (.iconst 0, 1) := by decide +kernel
theorem dX12_contradictions_3 : decode cX12_contradictions 3 = .ok (.istore_n 2, 1) := by decide +kernel
theorem dX12_contradictions_4 : decode cX12_contradictions 4 = .ok (.iload_n 2, 1) := by decide +kernel
theorem dX12_contradictions_5 : decode cX12_contradictions 5 = .ok (.aload_n 0, 1) := by decide +kernel
theorem dX12_contradictions_6 : decode cX12_contradictions 6 = .ok (.getfield 39, 3) := by decide +kernel
theorem dX12_contradictions_9 : decode cX12_contradictions 9 = .ok (.iconst 4, 1) := by decide +kernel
theorem dX12_contradictions_10 : decode cX12_contradictions 10 = .ok (.iaload, 1) := by decide +kernel
theorem dX12_contradictions_11 : decode cX12_contradictions 11 = .ok (.if_icmp .ge 73, 3) := by decide +kernel
theorem dX12_contradictions_14 : decode cX12_contradictions 14 = .ok (.sipush 199, 3) := by decide +kernel
theorem dX12_contradictions_17 : decode cX12_contradictions 17 = .ok (.iconst 4, 1) := by decide +kernel
theorem dX12_contradictions_18 : decode cX12_contradictions 18 = .ok (.iload_n 2, 1) := by decide +kernel
theorem dX12_contradictions_19 : decode cX12_contradictions 19 = .ok (.imul, 1) := by decide +kernel
theorem dX12_contradictions_20 : decode cX12_contradictions 20 = .ok (.iadd, 1) := by decide +kernel
theorem dX12_contradictions_21 : decode cX12_contradictions 21 = .ok (.istore_n 3, 1) := by decide +kernel
theorem dX12_contradictions_22 : decode cX12_contradictions 22 = .ok (.iload_n 1, 1) := by decide +kernel
theorem dX12_contradictions_23 : decode cX12_contradictions 23 = .ok (.aload_n 0, 1) := by decide +kernel
theorem dX12_contradictions_24 : decode cX12_contradictions 24 = .ok (.getfield 46, 3) := by decide +kernel
theorem dX12_contradictions_27 : decode cX12_contradictions 27 = .ok (.aload_n 0, 1) := by decide +kernel
theorem dX12_contradictions_28 : decode cX12_contradictions 28 = .ok (.getfield 39, 3) := by decide +kernel
theorem dX12_contradictions_31 : decode cX12_contradictions 31 = .ok (.iload_n 3, 1) := by decide +kernel
theorem dX12_contradictions_32 : decode cX12_contradictions 32 = .ok (.iaload, 1) := by decide +kernel
theorem dX12_contradictions_33 : decode cX12_contradictions 33 = .ok (.iaload, 1) := by decide +kernel
theorem dX12_contradictions_34 : decode cX12_contradictions 34 = .ok (.aload_n 0, 1) := by decide +kernel
theorem dX12_contradictions_35 : decode cX12_contradictions 35 = .ok (.getfield 39, 3) := by decide +kernel
theorem dX12_contradictions_38 : decode cX12_contradictions 38 = .ok (.iload_n 3, 1) := by decide +kernel
theorem dX12_contradictions_39 : decode cX12_contradictions 39 = .ok (.iconst 1, 1) := by decide +kernel
theorem dX12_contradictions_40 : decode cX12_contradictions 40 = .ok (.iadd, 1) := by decide +kernel
theorem dX12_contradictions_41 : decode cX12_contradictions 41 = .ok (.iaload, 1) := by decide +kernel
theorem dX12_contradictions_42 : decode cX12_contradictions 42 = .ok (.if_icmp .ne 33, 3) := by decide +kernel
theorem dX12_contradictions_45 : decode cX12_contradictions 45 = .ok (.aload_n 0, 1) := by decide +kernel
theorem dX12_contradictions_46 : decode cX12_contradictions 46 = .ok (.getfield 46, 3) := by decide +kernel
theorem dX12_contradictions_49 : decode cX12_contradictions 49 = .ok (.aload_n 0, 1) := by decide +kernel
theorem dX12_contradictions_50 : decode cX12_contradictions 50 = .ok (.getfield 39, 3) := by decide +kernel
theorem dX12_contradictions_53 : decode cX12_contradictions 53 = .ok (.iload_n 3, 1) := by decide +kernel
theorem dX12_contradictions_54 : decode cX12_contradictions 54 = .ok (.iconst 2, 1) := by decide +kernel
theorem dX12_contradictions_55 : decode cX12_contradictions 55 = .ok (.iadd, 1) := by decide +kernel
theorem dX12_contradictions_56 : decode cX12_contradictions 56 = .ok (.iaload, 1) := by decide +kernel
theorem dX12_contradictions_57 : decode cX12_contradictions 57 = .ok (.iaload, 1) := by decide +kernel
theorem dX12_contradictions_58 : decode cX12_contradictions 58 = .ok (.iconst 1, 1) := by decide +kernel
theorem dX12_contradictions_59 : decode cX12_contradictions 59 = .ok (.aload_n 0, 1) := by decide +kernel
theorem dX12_contradictions_60 : decode cX12_contradictions 60 = .ok (.getfield 39, 3) := by decide +kernel
theorem dX12_contradictions_63 : decode cX12_contradictions 63 = .ok (.iload_n 3, 1) := by decide +kernel
theorem dX12_contradictions_64 : decode cX12_contradictions 64 = .ok (.iconst 3, 1) := by decide +kernel
theorem dX12_contradictions_65 : decode cX12_contradictions 65 = .ok (.iadd, 1) := by decide +kernel
theorem dX12_contradictions_66 : decode cX12_contradictions 66 = .ok (.iaload, 1) := by decide +kernel
theorem dX12_contradictions_67 : decode cX12_contradictions 67 = .ok (.isub, 1) := by decide +kernel
theorem dX12_contradictions_68 : decode cX12_contradictions 68 = .ok (.if_icmp .ne 7, 3) := by decide +kernel
theorem dX12_contradictions_71 : decode cX12_contradictions 71 = .ok (.iconst 1, 1) := by decide +kernel
theorem dX12_contradictions_72 : decode cX12_contradictions 72 = .ok (.goto 4, 3) := by decide +kernel
theorem dX12_contradictions_75 : decode cX12_contradictions 75 = .ok (.iconst 0, 1) := by decide +kernel
theorem dX12_contradictions_76 : decode cX12_contradictions 76 = .ok (.iadd, 1) := by decide +kernel
theorem dX12_contradictions_77 : decode cX12_contradictions 77 = .ok (.istore_n 1, 1) := by decide +kernel
theorem dX12_contradictions_78 : decode cX12_contradictions 78 = .ok (.iinc 2 1, 3) := by decide +kernel
theorem dX12_contradictions_81 : decode cX12_contradictions 81 = .ok (.goto (-77), 3) := by decide +kernel
theorem dX12_contradictions_84 : decode cX12_contradictions 84 = .ok (.iload_n 1, 1) := by decide +kernel
theorem dX12_contradictions_85 : decode cX12_contradictions 85 = .ok (.ireturn, 1) := by decide +kernel
theorem dX12_harmBelieved_0 : decode cX12_harmBelieved 0 = .ok (.iconst 0, 1) := by decide +kernel
theorem dX12_harmBelieved_1 : decode cX12_harmBelieved 1 = .ok (.istore_n 1, 1) := by decide +kernel
theorem dX12_harmBelieved_2 : decode cX12_harmBelieved 2 = .ok (.iconst 0, 1) := by decide +kernel
theorem dX12_harmBelieved_3 : decode cX12_harmBelieved 3 = .ok (.istore_n 2, 1) := by decide +kernel
theorem dX12_harmBelieved_4 : decode cX12_harmBelieved 4 = .ok (.iload_n 2, 1) := by decide +kernel
theorem dX12_harmBelieved_5 : decode cX12_harmBelieved 5 = .ok (.aload_n 0, 1) := by decide +kernel
theorem dX12_harmBelieved_6 : decode cX12_harmBelieved 6 = .ok (.getfield 39, 3) := by decide +kernel
theorem dX12_harmBelieved_9 : decode cX12_harmBelieved 9 = .ok (.iconst 5, 1) := by decide +kernel
theorem dX12_harmBelieved_10 : decode cX12_harmBelieved 10 = .ok (.iaload, 1) := by decide +kernel
theorem dX12_harmBelieved_11 : decode cX12_harmBelieved 11 = .ok (.if_icmp .ge 64, 3) := by decide +kernel
theorem dX12_harmBelieved_14 : decode cX12_harmBelieved 14 = .ok (.iload_n 1, 1) := by decide +kernel
theorem dX12_harmBelieved_15 : decode cX12_harmBelieved 15 = .ok (.aload_n 0, 1) := by decide +kernel
theorem dX12_harmBelieved_16 : decode cX12_harmBelieved 16 = .ok (.getfield 46, 3) := by decide +kernel
theorem dX12_harmBelieved_19 : decode cX12_harmBelieved 19 = .ok (.aload_n 0, 1) := by decide +kernel
theorem dX12_harmBelieved_20 : decode cX12_harmBelieved 20 = .ok (.getfield 39, 3) := by decide +kernel
theorem dX12_harmBelieved_23 : decode cX12_harmBelieved 23 = .ok (.sipush 239, 3) := by decide +kernel
theorem dX12_harmBelieved_26 : decode cX12_harmBelieved 26 = .ok (.iconst 3, 1) := by decide +kernel
theorem dX12_harmBelieved_27 : decode cX12_harmBelieved 27 = .ok (.iload_n 2, 1) := by decide +kernel
theorem dX12_harmBelieved_28 : decode cX12_harmBelieved 28 = .ok (.imul, 1) := by decide +kernel
theorem dX12_harmBelieved_29 : decode cX12_harmBelieved 29 = .ok (.iadd, 1) := by decide +kernel
theorem dX12_harmBelieved_30 : decode cX12_harmBelieved 30 = .ok (.iaload, 1) := by decide +kernel
theorem dX12_harmBelieved_31 : decode cX12_harmBelieved 31 = .ok (.iaload, 1) := by decide +kernel
theorem dX12_harmBelieved_32 : decode cX12_harmBelieved 32 = .ok (.aload_n 0, 1) := by decide +kernel
theorem dX12_harmBelieved_33 : decode cX12_harmBelieved 33 = .ok (.getfield 39, 3) := by decide +kernel
theorem dX12_harmBelieved_36 : decode cX12_harmBelieved 36 = .ok (.sipush 239, 3) := by decide +kernel
theorem dX12_harmBelieved_39 : decode cX12_harmBelieved 39 = .ok (.iconst 3, 1) := by decide +kernel
theorem dX12_harmBelieved_40 : decode cX12_harmBelieved 40 = .ok (.iload_n 2, 1) := by decide +kernel
theorem dX12_harmBelieved_41 : decode cX12_harmBelieved 41 = .ok (.imul, 1) := by decide +kernel
theorem dX12_harmBelieved_42 : decode cX12_harmBelieved 42 = .ok (.iadd, 1) := by decide +kernel
theorem dX12_harmBelieved_43 : decode cX12_harmBelieved 43 = .ok (.iconst 1, 1) := by decide +kernel
theorem dX12_harmBelieved_44 : decode cX12_harmBelieved 44 = .ok (.iadd, 1) := by decide +kernel
theorem dX12_harmBelieved_45 : decode cX12_harmBelieved 45 = .ok (.iaload, 1) := by decide +kernel
theorem dX12_harmBelieved_46 : decode cX12_harmBelieved 46 = .ok (.if_icmp .ne 20, 3) := by decide +kernel
theorem dX12_harmBelieved_49 : decode cX12_harmBelieved 49 = .ok (.aload_n 0, 1) := by decide +kernel
theorem dX12_harmBelieved_50 : decode cX12_harmBelieved 50 = .ok (.getfield 39, 3) := by decide +kernel
theorem dX12_harmBelieved_53 : decode cX12_harmBelieved 53 = .ok (.sipush 239, 3) := by decide +kernel
theorem dX12_harmBelieved_56 : decode cX12_harmBelieved 56 = .ok (.iconst 3, 1) := by decide +kernel
theorem dX12_harmBelieved_57 : decode cX12_harmBelieved 57 = .ok (.iload_n 2, 1) := by decide +kernel
theorem dX12_harmBelieved_58 : decode cX12_harmBelieved 58 = .ok (.imul, 1) := by decide +kernel
theorem dX12_harmBelieved_59 : decode cX12_harmBelieved 59 = .ok (.iadd, 1) := by decide +kernel
theorem dX12_harmBelieved_60 : decode cX12_harmBelieved 60 = .ok (.iconst 2, 1) := by decide +kernel
theorem dX12_harmBelieved_61 : decode cX12_harmBelieved 61 = .ok (.iadd, 1) := by decide +kernel
theorem dX12_harmBelieved_62 : decode cX12_harmBelieved 62 = .ok (.iaload, 1) := by decide +kernel
theorem dX12_harmBelieved_63 : decode cX12_harmBelieved 63 = .ok (.goto 4, 3) := by decide +kernel
theorem dX12_harmBelieved_66 : decode cX12_harmBelieved 66 = .ok (.iconst 0, 1) := by decide +kernel
theorem dX12_harmBelieved_67 : decode cX12_harmBelieved 67 = .ok (.iadd, 1) := by decide +kernel
theorem dX12_harmBelieved_68 : decode cX12_harmBelieved 68 = .ok (.istore_n 1, 1) := by decide +kernel
theorem dX12_harmBelieved_69 : decode cX12_harmBelieved 69 = .ok (.iinc 2 1, 3) := by decide +kernel
theorem dX12_harmBelieved_72 : decode cX12_harmBelieved 72 = .ok (.goto (-68), 3) := by decide +kernel
theorem dX12_harmBelieved_75 : decode cX12_harmBelieved 75 = .ok (.iload_n 1, 1) := by decide +kernel
theorem dX12_harmBelieved_76 : decode cX12_harmBelieved 76 = .ok (.ireturn, 1) := by decide +kernel
theorem dX12_harmOf_0 : decode cX12_harmOf 0 = .ok (.aload_n 0, 1) := by decide +kernel
theorem dX12_harmOf_1 : decode cX12_harmOf 1 = .ok (.iload_n 1, 1) := by decide +kernel
theorem dX12_harmOf_2 : decode cX12_harmOf 2 = .ok (.invokevirtual 311, 3) := by decide +kernel
theorem dX12_harmOf_5 : decode cX12_harmOf 5 = .ok (.aload_n 0, 1) := by decide +kernel
theorem dX12_harmOf_6 : decode cX12_harmOf 6 = .ok (.invokevirtual 314, 3) := by decide +kernel
theorem dX12_harmOf_9 : decode cX12_harmOf 9 = .ok (.ireturn, 1) := by decide +kernel
theorem dX12_harmAlone_0 : decode cX12_harmAlone 0 = .ok (.iconst 0, 1) := by decide +kernel
theorem dX12_harmAlone_1 : decode cX12_harmAlone 1 = .ok (.istore_n 3, 1) := by decide +kernel
theorem dX12_harmAlone_2 : decode cX12_harmAlone 2 = .ok (.iconst 0, 1) := by decide +kernel
theorem dX12_harmAlone_3 : decode cX12_harmAlone 3 = .ok (.istore 4, 2) := by decide +kernel
theorem dX12_harmAlone_5 : decode cX12_harmAlone 5 = .ok (.iload 4, 2) := by decide +kernel
theorem dX12_harmAlone_7 : decode cX12_harmAlone 7 = .ok (.aload_n 0, 1) := by decide +kernel
theorem dX12_harmAlone_8 : decode cX12_harmAlone 8 = .ok (.getfield 39, 3) := by decide +kernel
theorem dX12_harmAlone_11 : decode cX12_harmAlone 11 = .ok (.iconst 5, 1) := by decide +kernel
theorem dX12_harmAlone_12 : decode cX12_harmAlone 12 = .ok (.iaload, 1) := by decide +kernel
theorem dX12_harmAlone_13 : decode cX12_harmAlone 13 = .ok (.if_icmp .ge 67, 3) := by decide +kernel
theorem dX12_harmAlone_16 : decode cX12_harmAlone 16 = .ok (.iload_n 3, 1) := by decide +kernel
theorem dX12_harmAlone_17 : decode cX12_harmAlone 17 = .ok (.aload_n 0, 1) := by decide +kernel
theorem dX12_harmAlone_18 : decode cX12_harmAlone 18 = .ok (.getfield 39, 3) := by decide +kernel
theorem dX12_harmAlone_21 : decode cX12_harmAlone 21 = .ok (.sipush 239, 3) := by decide +kernel
theorem dX12_harmAlone_24 : decode cX12_harmAlone 24 = .ok (.iconst 3, 1) := by decide +kernel
theorem dX12_harmAlone_25 : decode cX12_harmAlone 25 = .ok (.iload 4, 2) := by decide +kernel
theorem dX12_harmAlone_27 : decode cX12_harmAlone 27 = .ok (.imul, 1) := by decide +kernel
theorem dX12_harmAlone_28 : decode cX12_harmAlone 28 = .ok (.iadd, 1) := by decide +kernel
theorem dX12_harmAlone_29 : decode cX12_harmAlone 29 = .ok (.iaload, 1) := by decide +kernel
theorem dX12_harmAlone_30 : decode cX12_harmAlone 30 = .ok (.iload_n 1, 1) := by decide +kernel
theorem dX12_harmAlone_31 : decode cX12_harmAlone 31 = .ok (.if_icmp .ne 40, 3) := by decide +kernel
theorem dX12_harmAlone_34 : decode cX12_harmAlone 34 = .ok (.aload_n 0, 1) := by decide +kernel
theorem dX12_harmAlone_35 : decode cX12_harmAlone 35 = .ok (.getfield 39, 3) := by decide +kernel
theorem dX12_harmAlone_38 : decode cX12_harmAlone 38 = .ok (.sipush 239, 3) := by decide +kernel
theorem dX12_harmAlone_41 : decode cX12_harmAlone 41 = .ok (.iconst 3, 1) := by decide +kernel
theorem dX12_harmAlone_42 : decode cX12_harmAlone 42 = .ok (.iload 4, 2) := by decide +kernel
theorem dX12_harmAlone_44 : decode cX12_harmAlone 44 = .ok (.imul, 1) := by decide +kernel
theorem dX12_harmAlone_45 : decode cX12_harmAlone 45 = .ok (.iadd, 1) := by decide +kernel
theorem dX12_harmAlone_46 : decode cX12_harmAlone 46 = .ok (.iconst 1, 1) := by decide +kernel
theorem dX12_harmAlone_47 : decode cX12_harmAlone 47 = .ok (.iadd, 1) := by decide +kernel
theorem dX12_harmAlone_48 : decode cX12_harmAlone 48 = .ok (.iaload, 1) := by decide +kernel
theorem dX12_harmAlone_49 : decode cX12_harmAlone 49 = .ok (.iload_n 2, 1) := by decide +kernel
theorem dX12_harmAlone_50 : decode cX12_harmAlone 50 = .ok (.if_icmp .ne 21, 3) := by decide +kernel
theorem dX12_harmAlone_53 : decode cX12_harmAlone 53 = .ok (.aload_n 0, 1) := by decide +kernel
theorem dX12_harmAlone_54 : decode cX12_harmAlone 54 = .ok (.getfield 39, 3) := by decide +kernel
theorem dX12_harmAlone_57 : decode cX12_harmAlone 57 = .ok (.sipush 239, 3) := by decide +kernel
theorem dX12_harmAlone_60 : decode cX12_harmAlone 60 = .ok (.iconst 3, 1) := by decide +kernel
theorem dX12_harmAlone_61 : decode cX12_harmAlone 61 = .ok (.iload 4, 2) := by decide +kernel
theorem dX12_harmAlone_63 : decode cX12_harmAlone 63 = .ok (.imul, 1) := by decide +kernel
theorem dX12_harmAlone_64 : decode cX12_harmAlone 64 = .ok (.iadd, 1) := by decide +kernel
theorem dX12_harmAlone_65 : decode cX12_harmAlone 65 = .ok (.iconst 2, 1) := by decide +kernel
theorem dX12_harmAlone_66 : decode cX12_harmAlone 66 = .ok (.iadd, 1) := by decide +kernel
theorem dX12_harmAlone_67 : decode cX12_harmAlone 67 = .ok (.iaload, 1) := by decide +kernel
theorem dX12_harmAlone_68 : decode cX12_harmAlone 68 = .ok (.goto 4, 3) := by decide +kernel
theorem dX12_harmAlone_71 : decode cX12_harmAlone 71 = .ok (.iconst 0, 1) := by decide +kernel
theorem dX12_harmAlone_72 : decode cX12_harmAlone 72 = .ok (.iadd, 1) := by decide +kernel
theorem dX12_harmAlone_73 : decode cX12_harmAlone 73 = .ok (.istore_n 3, 1) := by decide +kernel
theorem dX12_harmAlone_74 : decode cX12_harmAlone 74 = .ok (.iinc 4 1, 3) := by decide +kernel
theorem dX12_harmAlone_77 : decode cX12_harmAlone 77 = .ok (.goto (-72), 3) := by decide +kernel
theorem dX12_harmAlone_80 : decode cX12_harmAlone 80 = .ok (.iload_n 3, 1) := by decide +kernel
theorem dX12_harmAlone_81 : decode cX12_harmAlone 81 = .ok (.ireturn, 1) := by decide +kernel
theorem dX12_believedOf_0 : decode cX12_believedOf 0 = .ok (.aload_n 0, 1) := by decide +kernel
theorem dX12_believedOf_1 : decode cX12_believedOf 1 = .ok (.iload_n 1, 1) := by decide +kernel
theorem dX12_believedOf_2 : decode cX12_believedOf 2 = .ok (.invokevirtual 311, 3) := by decide +kernel
theorem dX12_believedOf_5 : decode cX12_believedOf 5 = .ok (.aload_n 0, 1) := by decide +kernel
theorem dX12_believedOf_6 : decode cX12_believedOf 6 = .ok (.getfield 46, 3) := by decide +kernel
theorem dX12_believedOf_9 : decode cX12_believedOf 9 = .ok (.iload_n 2, 1) := by decide +kernel
theorem dX12_believedOf_10 : decode cX12_believedOf 10 = .ok (.iaload, 1) := by decide +kernel
theorem dX12_believedOf_11 : decode cX12_believedOf 11 = .ok (.ireturn, 1) := by decide +kernel
theorem dX12_holds_0 : decode cX12_holds 0 = .ok (.aload_n 0, 1) := by decide +kernel
theorem dX12_holds_1 : decode cX12_holds 1 = .ok (.iload_n 1, 1) := by decide +kernel
theorem dX12_holds_2 : decode cX12_holds 2 = .ok (.invokevirtual 317, 3) := by decide +kernel
theorem dX12_holds_5 : decode cX12_holds 5 = .ok (.ifCond .eq 23, 3) := by decide +kernel
theorem dX12_holds_8 : decode cX12_holds 8 = .ok (.aload_n 0, 1) := by decide +kernel
theorem dX12_holds_9 : decode cX12_holds 9 = .ok (.iload_n 2, 1) := by decide +kernel
theorem dX12_holds_10 : decode cX12_holds 10 = .ok (.invokevirtual 320, 3) := by decide +kernel
theorem dX12_holds_13 : decode cX12_holds 13 = .ok (.ifCond .eq 15, 3) := by decide +kernel
theorem dX12_holds_16 : decode cX12_holds 16 = .ok (.iload_n 3, 1) := by decide +kernel
theorem dX12_holds_17 : decode cX12_holds 17 = .ok (.i2l, 1) := by decide +kernel
theorem dX12_holds_18 : decode cX12_holds 18 = .ok (.lconst 0, 1) := by decide +kernel
theorem dX12_holds_19 : decode cX12_holds 19 = .ok (.ldc2_w 323, 3) := by decide +kernel
theorem dX12_holds_22 : decode cX12_holds 22 = .ok (.invokestatic 106, 3) := by decide +kernel
theorem dX12_holds_25 : decode cX12_holds 25 = .ok (.ifCond .ne 5, 3) := by decide +kernel
theorem dX12_holds_28 : decode cX12_holds 28 = .ok (.iconst (-1), 1) := by decide +kernel
theorem dX12_holds_29 : decode cX12_holds 29 = .ok (.ireturn, 1) := by decide +kernel
theorem dX12_holds_30 : decode cX12_holds 30 = .ok (.iload_n 3, 1) := by decide +kernel
theorem dX12_holds_31 : decode cX12_holds 31 = .ok (.ifCond .ne 12, 3) := by decide +kernel
theorem dX12_holds_34 : decode cX12_holds 34 = .ok (.aload_n 0, 1) := by decide +kernel
theorem dX12_holds_35 : decode cX12_holds 35 = .ok (.iload_n 1, 1) := by decide +kernel
theorem dX12_holds_36 : decode cX12_holds 36 = .ok (.iload_n 2, 1) := by decide +kernel
theorem dX12_holds_37 : decode cX12_holds 37 = .ok (.invokevirtual 305, 3) := by decide +kernel
theorem dX12_holds_40 : decode cX12_holds 40 = .ok (.goto 23, 3) := by decide +kernel
theorem dX12_holds_43 : decode cX12_holds 43 = .ok (.iload_n 3, 1) := by decide +kernel
theorem dX12_holds_44 : decode cX12_holds 44 = .ok (.iconst 1, 1) := by decide +kernel
theorem dX12_holds_45 : decode cX12_holds 45 = .ok (.if_icmp .ne 12, 3) := by decide +kernel
theorem dX12_holds_48 : decode cX12_holds 48 = .ok (.aload_n 0, 1) := by decide +kernel
theorem dX12_holds_49 : decode cX12_holds 49 = .ok (.iload_n 1, 1) := by decide +kernel
theorem dX12_holds_50 : decode cX12_holds 50 = .ok (.iload_n 2, 1) := by decide +kernel
theorem dX12_holds_51 : decode cX12_holds 51 = .ok (.invokevirtual 325, 3) := by decide +kernel
theorem dX12_holds_54 : decode cX12_holds 54 = .ok (.goto 9, 3) := by decide +kernel
theorem dX12_holds_57 : decode cX12_holds 57 = .ok (.aload_n 0, 1) := by decide +kernel
theorem dX12_holds_58 : decode cX12_holds 58 = .ok (.iload_n 1, 1) := by decide +kernel
theorem dX12_holds_59 : decode cX12_holds 59 = .ok (.iload_n 2, 1) := by decide +kernel
theorem dX12_holds_60 : decode cX12_holds 60 = .ok (.invokevirtual 328, 3) := by decide +kernel
theorem dX12_holds_63 : decode cX12_holds 63 = .ok (.ireturn, 1) := by decide +kernel
theorem dX12_person_0 : decode cX12_person 0 = .ok (.aload_n 0, 1) := by decide +kernel
theorem dX12_person_1 : decode cX12_person 1 = .ok (.iload_n 1, 1) := by decide +kernel
theorem dX12_person_2 : decode cX12_person 2 = .ok (.invokevirtual 317, 3) := by decide +kernel
theorem dX12_person_5 : decode cX12_person 5 = .ok (.ifCond .eq 15, 3) := by decide +kernel
theorem dX12_person_8 : decode cX12_person 8 = .ok (.iload_n 2, 1) := by decide +kernel
theorem dX12_person_9 : decode cX12_person 9 = .ok (.i2l, 1) := by decide +kernel
theorem dX12_person_10 : decode cX12_person 10 = .ok (.lconst 0, 1) := by decide +kernel
theorem dX12_person_11 : decode cX12_person 11 = .ok (.ldc2_w 331, 3) := by decide +kernel
theorem dX12_person_14 : decode cX12_person 14 = .ok (.invokestatic 106, 3) := by decide +kernel
theorem dX12_person_17 : decode cX12_person 17 = .ok (.ifCond .ne 5, 3) := by decide +kernel
theorem dX12_person_20 : decode cX12_person 20 = .ok (.iconst (-1), 1) := by decide +kernel
theorem dX12_person_21 : decode cX12_person 21 = .ok (.ireturn, 1) := by decide +kernel
theorem dX12_person_22 : decode cX12_person 22 = .ok (.aload_n 0, 1) := by decide +kernel
theorem dX12_person_23 : decode cX12_person 23 = .ok (.iload_n 1, 1) := by decide +kernel
theorem dX12_person_24 : decode cX12_person 24 = .ok (.invokevirtual 311, 3) := by decide +kernel
theorem dX12_person_27 : decode cX12_person 27 = .ok (.iload_n 2, 1) := by decide +kernel
theorem dX12_person_28 : decode cX12_person 28 = .ok (.tableswitch 58 0 3 #[32, 42, 47, 52], 32) := by decide +kernel
theorem dX12_person_60 : decode cX12_person 60 = .ok (.aload_n 0, 1) := by decide +kernel
theorem dX12_person_61 : decode cX12_person 61 = .ok (.getfield 39, 3) := by decide +kernel
theorem dX12_person_64 : decode cX12_person 64 = .ok (.bipush 123, 2) := by decide +kernel
theorem dX12_person_66 : decode cX12_person 66 = .ok (.iload_n 1, 1) := by decide +kernel
theorem dX12_person_67 : decode cX12_person 67 = .ok (.iadd, 1) := by decide +kernel
theorem dX12_person_68 : decode cX12_person 68 = .ok (.iaload, 1) := by decide +kernel
theorem dX12_person_69 : decode cX12_person 69 = .ok (.ireturn, 1) := by decide +kernel
theorem dX12_person_70 : decode cX12_person 70 = .ok (.aload_n 0, 1) := by decide +kernel
theorem dX12_person_71 : decode cX12_person 71 = .ok (.invokevirtual 314, 3) := by decide +kernel
theorem dX12_person_74 : decode cX12_person 74 = .ok (.ireturn, 1) := by decide +kernel
theorem dX12_person_75 : decode cX12_person 75 = .ok (.aload_n 0, 1) := by decide +kernel
theorem dX12_person_76 : decode cX12_person 76 = .ok (.invokevirtual 333, 3) := by decide +kernel
theorem dX12_person_79 : decode cX12_person 79 = .ok (.ireturn, 1) := by decide +kernel
theorem dX12_person_80 : decode cX12_person 80 = .ok (.aload_n 0, 1) := by decide +kernel
theorem dX12_person_81 : decode cX12_person 81 = .ok (.iload_n 1, 1) := by decide +kernel
theorem dX12_person_82 : decode cX12_person 82 = .ok (.invokevirtual 336, 3) := by decide +kernel
theorem dX12_person_85 : decode cX12_person 85 = .ok (.ireturn, 1) := by decide +kernel
theorem dX12_person_86 : decode cX12_person 86 = .ok (.aload_n 0, 1) := by decide +kernel
theorem dX12_person_87 : decode cX12_person 87 = .ok (.getfield 39, 3) := by decide +kernel
theorem dX12_person_90 : decode cX12_person 90 = .ok (.sipush 269, 3) := by decide +kernel
theorem dX12_person_93 : decode cX12_person 93 = .ok (.iaload, 1) := by decide +kernel
theorem dX12_person_94 : decode cX12_person 94 = .ok (.iload_n 1, 1) := by decide +kernel
theorem dX12_person_95 : decode cX12_person 95 = .ok (.ishr, 1) := by decide +kernel
theorem dX12_person_96 : decode cX12_person 96 = .ok (.iconst 1, 1) := by decide +kernel
theorem dX12_person_97 : decode cX12_person 97 = .ok (.iand, 1) := by decide +kernel
theorem dX12_person_98 : decode cX12_person 98 = .ok (.ireturn, 1) := by decide +kernel
theorem dX12_trust_0 : decode cX12_trust 0 = .ok (.aload_n 0, 1) := by decide +kernel
theorem dX12_trust_1 : decode cX12_trust 1 = .ok (.iload_n 1, 1) := by decide +kernel
theorem dX12_trust_2 : decode cX12_trust 2 = .ok (.invokevirtual 317, 3) := by decide +kernel
theorem dX12_trust_5 : decode cX12_trust 5 = .ok (.ifCond .eq 25, 3) := by decide +kernel
theorem dX12_trust_8 : decode cX12_trust 8 = .ok (.aload_n 0, 1) := by decide +kernel
theorem dX12_trust_9 : decode cX12_trust 9 = .ok (.iload_n 2, 1) := by decide +kernel
theorem dX12_trust_10 : decode cX12_trust 10 = .ok (.invokevirtual 317, 3) := by decide +kernel
theorem dX12_trust_13 : decode cX12_trust 13 = .ok (.ifCond .eq 17, 3) := by decide +kernel
theorem dX12_trust_16 : decode cX12_trust 16 = .ok (.iload_n 1, 1) := by decide +kernel
theorem dX12_trust_17 : decode cX12_trust 17 = .ok (.iload_n 2, 1) := by decide +kernel
theorem dX12_trust_18 : decode cX12_trust 18 = .ok (.if_icmp .eq 12, 3) := by decide +kernel
theorem dX12_trust_21 : decode cX12_trust 21 = .ok (.aload_n 0, 1) := by decide +kernel
theorem dX12_trust_22 : decode cX12_trust 22 = .ok (.iload_n 1, 1) := by decide +kernel
theorem dX12_trust_23 : decode cX12_trust 23 = .ok (.iload_n 2, 1) := by decide +kernel
theorem dX12_trust_24 : decode cX12_trust 24 = .ok (.invokevirtual 339, 3) := by decide +kernel
theorem dX12_trust_27 : decode cX12_trust 27 = .ok (.goto 4, 3) := by decide +kernel
theorem dX12_trust_30 : decode cX12_trust 30 = .ok (.iconst (-1), 1) := by decide +kernel
theorem dX12_trust_31 : decode cX12_trust 31 = .ok (.ireturn, 1) := by decide +kernel
theorem dX12_words_0 : decode cX12_words 0 = .ok (.aload_n 0, 1) := by decide +kernel
theorem dX12_words_1 : decode cX12_words 1 = .ok (.getfield 36, 3) := by decide +kernel
theorem dX12_words_4 : decode cX12_words 4 = .ok (.iconst 0, 1) := by decide +kernel
theorem dX12_words_5 : decode cX12_words 5 = .ok (.iload_n 1, 1) := by decide +kernel
theorem dX12_words_6 : decode cX12_words 6 = .ok (.i2l, 1) := by decide +kernel
theorem dX12_words_7 : decode cX12_words 7 = .ok (.lastore, 1) := by decide +kernel
theorem dX12_words_8 : decode cX12_words 8 = .ok (.aload_n 0, 1) := by decide +kernel
theorem dX12_words_9 : decode cX12_words 9 = .ok (.getfield 36, 3) := by decide +kernel
theorem dX12_words_12 : decode cX12_words 12 = .ok (.iconst 1, 1) := by decide +kernel
theorem dX12_words_13 : decode cX12_words 13 = .ok (.iload_n 2, 1) := by decide +kernel
theorem dX12_words_14 : decode cX12_words 14 = .ok (.i2l, 1) := by decide +kernel
theorem dX12_words_15 : decode cX12_words 15 = .ok (.lastore, 1) := by decide +kernel
theorem dX12_words_16 : decode cX12_words 16 = .ok (.aload_n 0, 1) := by decide +kernel
theorem dX12_words_17 : decode cX12_words 17 = .ok (.getfield 36, 3) := by decide +kernel
theorem dX12_words_20 : decode cX12_words 20 = .ok (.iconst 2, 1) := by decide +kernel
theorem dX12_words_21 : decode cX12_words 21 = .ok (.iload_n 3, 1) := by decide +kernel
theorem dX12_words_22 : decode cX12_words 22 = .ok (.i2l, 1) := by decide +kernel
theorem dX12_words_23 : decode cX12_words 23 = .ok (.lastore, 1) := by decide +kernel
theorem dX12_words_24 : decode cX12_words 24 = .ok (.aload_n 0, 1) := by decide +kernel
theorem dX12_words_25 : decode cX12_words 25 = .ok (.getfield 36, 3) := by decide +kernel
theorem dX12_words_28 : decode cX12_words 28 = .ok (.iconst 3, 1) := by decide +kernel
theorem dX12_words_29 : decode cX12_words 29 = .ok (.iload 4, 2) := by decide +kernel
theorem dX12_words_31 : decode cX12_words 31 = .ok (.i2l, 1) := by decide +kernel
theorem dX12_words_32 : decode cX12_words 32 = .ok (.lastore, 1) := by decide +kernel
theorem dX12_words_33 : decode cX12_words 33 = .ok (.aload_n 0, 1) := by decide +kernel
theorem dX12_words_34 : decode cX12_words 34 = .ok (.getfield 36, 3) := by decide +kernel
theorem dX12_words_37 : decode cX12_words 37 = .ok (.iconst 4, 1) := by decide +kernel
theorem dX12_words_38 : decode cX12_words 38 = .ok (.aload_n 0, 1) := by decide +kernel
theorem dX12_words_39 : decode cX12_words 39 = .ok (.iload_n 3, 1) := by decide +kernel
theorem dX12_words_40 : decode cX12_words 40 = .ok (.invokevirtual 342, 3) := by decide +kernel
theorem dX12_words_43 : decode cX12_words 43 = .ok (.i2l, 1) := by decide +kernel
theorem dX12_words_44 : decode cX12_words 44 = .ok (.lastore, 1) := by decide +kernel
theorem dX12_words_45 : decode cX12_words 45 = .ok (.aload_n 0, 1) := by decide +kernel
theorem dX12_words_46 : decode cX12_words 46 = .ok (.getfield 36, 3) := by decide +kernel
theorem dX12_words_49 : decode cX12_words 49 = .ok (.iconst 5, 1) := by decide +kernel
theorem dX12_words_50 : decode cX12_words 50 = .ok (.aload_n 0, 1) := by decide +kernel
theorem dX12_words_51 : decode cX12_words 51 = .ok (.iload_n 1, 1) := by decide +kernel
theorem dX12_words_52 : decode cX12_words 52 = .ok (.iload_n 3, 1) := by decide +kernel
theorem dX12_words_53 : decode cX12_words 53 = .ok (.invokevirtual 328, 3) := by decide +kernel
theorem dX12_words_56 : decode cX12_words 56 = .ok (.i2l, 1) := by decide +kernel
theorem dX12_words_57 : decode cX12_words 57 = .ok (.lastore, 1) := by decide +kernel
theorem dX12_words_58 : decode cX12_words 58 = .ok (.aload_n 0, 1) := by decide +kernel
theorem dX12_words_59 : decode cX12_words 59 = .ok (.getfield 36, 3) := by decide +kernel
theorem dX12_words_62 : decode cX12_words 62 = .ok (.bipush 6, 2) := by decide +kernel
theorem dX12_words_64 : decode cX12_words 64 = .ok (.aload_n 0, 1) := by decide +kernel
theorem dX12_words_65 : decode cX12_words 65 = .ok (.iload_n 2, 1) := by decide +kernel
theorem dX12_words_66 : decode cX12_words 66 = .ok (.iload_n 3, 1) := by decide +kernel
theorem dX12_words_67 : decode cX12_words 67 = .ok (.invokevirtual 328, 3) := by decide +kernel
theorem dX12_words_70 : decode cX12_words 70 = .ok (.i2l, 1) := by decide +kernel
theorem dX12_words_71 : decode cX12_words 71 = .ok (.lastore, 1) := by decide +kernel
theorem dX12_words_72 : decode cX12_words 72 = .ok (.aload_n 0, 1) := by decide +kernel
theorem dX12_words_73 : decode cX12_words 73 = .ok (.getfield 36, 3) := by decide +kernel
theorem dX12_words_76 : decode cX12_words 76 = .ok (.bipush 7, 2) := by decide +kernel
theorem dX12_words_78 : decode cX12_words 78 = .ok (.aload_n 0, 1) := by decide +kernel
theorem dX12_words_79 : decode cX12_words 79 = .ok (.getfield 39, 3) := by decide +kernel
theorem dX12_words_82 : decode cX12_words 82 = .ok (.bipush 123, 2) := by decide +kernel
theorem dX12_words_84 : decode cX12_words 84 = .ok (.iload_n 2, 1) := by decide +kernel
theorem dX12_words_85 : decode cX12_words 85 = .ok (.iadd, 1) := by decide +kernel
theorem dX12_words_86 : decode cX12_words 86 = .ok (.iaload, 1) := by decide +kernel
theorem dX12_words_87 : decode cX12_words 87 = .ok (.i2l, 1) := by decide +kernel
theorem dX12_words_88 : decode cX12_words 88 = .ok (.lastore, 1) := by decide +kernel
theorem dX12_words_89 : decode cX12_words 89 = .ok (.aload_n 0, 1) := by decide +kernel
theorem dX12_words_90 : decode cX12_words 90 = .ok (.getfield 36, 3) := by decide +kernel
theorem dX12_words_93 : decode cX12_words 93 = .ok (.bipush 8, 2) := by decide +kernel
theorem dX12_words_95 : decode cX12_words 95 = .ok (.aload_n 0, 1) := by decide +kernel
theorem dX12_words_96 : decode cX12_words 96 = .ok (.getfield 39, 3) := by decide +kernel
theorem dX12_words_99 : decode cX12_words 99 = .ok (.sipush 269, 3) := by decide +kernel
theorem dX12_words_102 : decode cX12_words 102 = .ok (.iaload, 1) := by decide +kernel
theorem dX12_words_103 : decode cX12_words 103 = .ok (.iload_n 2, 1) := by decide +kernel
theorem dX12_words_104 : decode cX12_words 104 = .ok (.ishr, 1) := by decide +kernel
theorem dX12_words_105 : decode cX12_words 105 = .ok (.iconst 1, 1) := by decide +kernel
theorem dX12_words_106 : decode cX12_words 106 = .ok (.iand, 1) := by decide +kernel
theorem dX12_words_107 : decode cX12_words 107 = .ok (.i2l, 1) := by decide +kernel
theorem dX12_words_108 : decode cX12_words 108 = .ok (.lastore, 1) := by decide +kernel
theorem dX12_words_109 : decode cX12_words 109 = .ok (.aload_n 0, 1) := by decide +kernel
theorem dX12_words_110 : decode cX12_words 110 = .ok (.getfield 36, 3) := by decide +kernel
theorem dX12_words_113 : decode cX12_words 113 = .ok (.bipush 9, 2) := by decide +kernel
theorem dX12_words_115 : decode cX12_words 115 = .ok (.aload_n 0, 1) := by decide +kernel
theorem dX12_words_116 : decode cX12_words 116 = .ok (.iload_n 2, 1) := by decide +kernel
theorem dX12_words_117 : decode cX12_words 117 = .ok (.iload_n 1, 1) := by decide +kernel
theorem dX12_words_118 : decode cX12_words 118 = .ok (.invokevirtual 339, 3) := by decide +kernel
theorem dX12_words_121 : decode cX12_words 121 = .ok (.i2l, 1) := by decide +kernel
theorem dX12_words_122 : decode cX12_words 122 = .ok (.lastore, 1) := by decide +kernel
theorem dX12_words_123 : decode cX12_words 123 = .ok (.aload_n 0, 1) := by decide +kernel
theorem dX12_words_124 : decode cX12_words 124 = .ok (.getfield 36, 3) := by decide +kernel
theorem dX12_words_127 : decode cX12_words 127 = .ok (.bipush 10, 2) := by decide +kernel
theorem dX12_words_129 : decode cX12_words 129 = .ok (.aload_n 0, 1) := by decide +kernel
theorem dX12_words_130 : decode cX12_words 130 = .ok (.iload_n 3, 1) := by decide +kernel
theorem dX12_words_131 : decode cX12_words 131 = .ok (.iload 4, 2) := by decide +kernel
theorem dX12_words_133 : decode cX12_words 133 = .ok (.invokevirtual 345, 3) := by decide +kernel
theorem dX12_words_136 : decode cX12_words 136 = .ok (.i2l, 1) := by decide +kernel
theorem dX12_words_137 : decode cX12_words 137 = .ok (.lastore, 1) := by decide +kernel
theorem dX12_words_138 : decode cX12_words 138 = .ok (.aload_n 0, 1) := by decide +kernel
theorem dX12_words_139 : decode cX12_words 139 = .ok (.getfield 36, 3) := by decide +kernel
theorem dX12_words_142 : decode cX12_words 142 = .ok (.bipush 11, 2) := by decide +kernel
theorem dX12_words_144 : decode cX12_words 144 = .ok (.iload 5, 2) := by decide +kernel
theorem dX12_words_146 : decode cX12_words 146 = .ok (.ifCond .eq 7, 3) := by decide +kernel
theorem dX12_words_149 : decode cX12_words 149 = .ok (.lconst 1, 1) := by decide +kernel
theorem dX12_words_150 : decode cX12_words 150 = .ok (.goto 4, 3) := by decide +kernel
theorem dX12_words_153 : decode cX12_words 153 = .ok (.lconst 0, 1) := by decide +kernel
theorem dX12_words_154 : decode cX12_words 154 = .ok (.lastore, 1) := by decide +kernel
theorem dX12_words_155 : decode cX12_words 155 = .ok (.aload_n 0, 1) := by decide +kernel
theorem dX12_words_156 : decode cX12_words 156 = .ok (.getfield 36, 3) := by decide +kernel
theorem dX12_words_159 : decode cX12_words 159 = .ok (.bipush 12, 2) := by decide +kernel
theorem dX12_words_161 : decode cX12_words 161 = .ok (.aload_n 0, 1) := by decide +kernel
theorem dX12_words_162 : decode cX12_words 162 = .ok (.getfield 39, 3) := by decide +kernel
theorem dX12_words_165 : decode cX12_words 165 = .ok (.bipush 7, 2) := by decide +kernel
theorem dX12_words_167 : decode cX12_words 167 = .ok (.iaload, 1) := by decide +kernel
theorem dX12_words_168 : decode cX12_words 168 = .ok (.i2l, 1) := by decide +kernel
theorem dX12_words_169 : decode cX12_words 169 = .ok (.lastore, 1) := by decide +kernel
theorem dX12_words_170 : decode cX12_words 170 = .ok (.aload_n 0, 1) := by decide +kernel
theorem dX12_words_171 : decode cX12_words 171 = .ok (.getfield 36, 3) := by decide +kernel
theorem dX12_words_174 : decode cX12_words 174 = .ok (.bipush 13, 2) := by decide +kernel
theorem dX12_words_176 : decode cX12_words 176 = .ok (.aload_n 0, 1) := by decide +kernel
theorem dX12_words_177 : decode cX12_words 177 = .ok (.getfield 39, 3) := by decide +kernel
theorem dX12_words_180 : decode cX12_words 180 = .ok (.bipush 6, 2) := by decide +kernel
theorem dX12_words_182 : decode cX12_words 182 = .ok (.iaload, 1) := by decide +kernel
theorem dX12_words_183 : decode cX12_words 183 = .ok (.i2l, 1) := by decide +kernel
theorem dX12_words_184 : decode cX12_words 184 = .ok (.lastore, 1) := by decide +kernel
theorem dX12_words_185 : decode cX12_words 185 = .ok (.return_, 1) := by decide +kernel
theorem dX12_hasLies_0 : decode cX12_hasLies 0 = .ok (.iconst 0, 1) := by decide +kernel
theorem dX12_hasLies_1 : decode cX12_hasLies 1 = .ok (.istore_n 2, 1) := by decide +kernel
theorem dX12_hasLies_2 : decode cX12_hasLies 2 = .ok (.iload_n 2, 1) := by decide +kernel
theorem dX12_hasLies_3 : decode cX12_hasLies 3 = .ok (.aload_n 0, 1) := by decide +kernel
theorem dX12_hasLies_4 : decode cX12_hasLies 4 = .ok (.getfield 23, 3) := by decide +kernel
theorem dX12_hasLies_7 : decode cX12_hasLies 7 = .ok (.iload_n 1, 1) := by decide +kernel
theorem dX12_hasLies_8 : decode cX12_hasLies 8 = .ok (.iaload, 1) := by decide +kernel
theorem dX12_hasLies_9 : decode cX12_hasLies 9 = .ok (.if_icmp .ge 27, 3) := by decide +kernel
theorem dX12_hasLies_12 : decode cX12_hasLies 12 = .ok (.aload_n 0, 1) := by decide +kernel
theorem dX12_hasLies_13 : decode cX12_hasLies 13 = .ok (.getfield 20, 3) := by decide +kernel
theorem dX12_hasLies_16 : decode cX12_hasLies 16 = .ok (.bipush 60, 2) := by decide +kernel
theorem dX12_hasLies_18 : decode cX12_hasLies 18 = .ok (.iload_n 1, 1) := by decide +kernel
theorem dX12_hasLies_19 : decode cX12_hasLies 19 = .ok (.imul, 1) := by decide +kernel
theorem dX12_hasLies_20 : decode cX12_hasLies 20 = .ok (.iconst 5, 1) := by decide +kernel
theorem dX12_hasLies_21 : decode cX12_hasLies 21 = .ok (.iload_n 2, 1) := by decide +kernel
theorem dX12_hasLies_22 : decode cX12_hasLies 22 = .ok (.imul, 1) := by decide +kernel
theorem dX12_hasLies_23 : decode cX12_hasLies 23 = .ok (.iadd, 1) := by decide +kernel
theorem dX12_hasLies_24 : decode cX12_hasLies 24 = .ok (.iaload, 1) := by decide +kernel
theorem dX12_hasLies_25 : decode cX12_hasLies 25 = .ok (.ifCond .ne 5, 3) := by decide +kernel
theorem dX12_hasLies_28 : decode cX12_hasLies 28 = .ok (.iconst 1, 1) := by decide +kernel
theorem dX12_hasLies_29 : decode cX12_hasLies 29 = .ok (.ireturn, 1) := by decide +kernel
theorem dX12_hasLies_30 : decode cX12_hasLies 30 = .ok (.iinc 2 1, 3) := by decide +kernel
theorem dX12_hasLies_33 : decode cX12_hasLies 33 = .ok (.goto (-31), 3) := by decide +kernel
theorem dX12_hasLies_36 : decode cX12_hasLies 36 = .ok (.iconst 0, 1) := by decide +kernel
theorem dX12_hasLies_37 : decode cX12_hasLies 37 = .ok (.ireturn, 1) := by decide +kernel
theorem dX12_isLie_0 : decode cX12_isLie 0 = .ok (.aload_n 0, 1) := by decide +kernel
theorem dX12_isLie_1 : decode cX12_isLie 1 = .ok (.getfield 42, 3) := by decide +kernel
theorem dX12_isLie_4 : decode cX12_isLie 4 = .ok (.ifCond .lt 14, 3) := by decide +kernel
theorem dX12_isLie_7 : decode cX12_isLie 7 = .ok (.aload_n 0, 1) := by decide +kernel
theorem dX12_isLie_8 : decode cX12_isLie 8 = .ok (.aload_n 0, 1) := by decide +kernel
theorem dX12_isLie_9 : decode cX12_isLie 9 = .ok (.getfield 42, 3) := by decide +kernel
theorem dX12_isLie_12 : decode cX12_isLie 12 = .ok (.invokevirtual 348, 3) := by decide +kernel
theorem dX12_isLie_15 : decode cX12_isLie 15 = .ok (.ifCond .ne 19, 3) := by decide +kernel
theorem dX12_isLie_18 : decode cX12_isLie 18 = .ok (.iload 4, 2) := by decide +kernel
theorem dX12_isLie_20 : decode cX12_isLie 20 = .ok (.aload_n 0, 1) := by decide +kernel
theorem dX12_isLie_21 : decode cX12_isLie 21 = .ok (.iload_n 3, 1) := by decide +kernel
theorem dX12_isLie_22 : decode cX12_isLie 22 = .ok (.invokevirtual 342, 3) := by decide +kernel
theorem dX12_isLie_25 : decode cX12_isLie 25 = .ok (.if_icmp .eq 7, 3) := by decide +kernel
theorem dX12_isLie_28 : decode cX12_isLie 28 = .ok (.iconst 1, 1) := by decide +kernel
theorem dX12_isLie_29 : decode cX12_isLie 29 = .ok (.goto 4, 3) := by decide +kernel
theorem dX12_isLie_32 : decode cX12_isLie 32 = .ok (.iconst 0, 1) := by decide +kernel
theorem dX12_isLie_33 : decode cX12_isLie 33 = .ok (.ireturn, 1) := by decide +kernel
theorem dX12_isLie_34 : decode cX12_isLie 34 = .ok (.aload_n 0, 1) := by decide +kernel
theorem dX12_isLie_35 : decode cX12_isLie 35 = .ok (.iload_n 1, 1) := by decide +kernel
theorem dX12_isLie_36 : decode cX12_isLie 36 = .ok (.iload_n 2, 1) := by decide +kernel
theorem dX12_isLie_37 : decode cX12_isLie 37 = .ok (.iload_n 3, 1) := by decide +kernel
theorem dX12_isLie_38 : decode cX12_isLie 38 = .ok (.iload 4, 2) := by decide +kernel
theorem dX12_isLie_40 : decode cX12_isLie 40 = .ok (.iload 5, 2) := by decide +kernel
theorem dX12_isLie_42 : decode cX12_isLie 42 = .ok (.invokevirtual 351, 3) := by decide +kernel
theorem dX12_isLie_45 : decode cX12_isLie 45 = .ok (.iconst 0, 1) := by decide +kernel
theorem dX12_isLie_46 : decode cX12_isLie 46 = .ok (.istore 6, 2) := by decide +kernel
theorem dX12_isLie_48 : decode cX12_isLie 48 = .ok (.iload 6, 2) := by decide +kernel
theorem dX12_isLie_50 : decode cX12_isLie 50 = .ok (.aload_n 0, 1) := by decide +kernel
theorem dX12_isLie_51 : decode cX12_isLie 51 = .ok (.getfield 23, 3) := by decide +kernel
theorem dX12_isLie_54 : decode cX12_isLie 54 = .ok (.aload_n 0, 1) := by decide +kernel
theorem dX12_isLie_55 : decode cX12_isLie 55 = .ok (.getfield 42, 3) := by decide +kernel
theorem dX12_isLie_58 : decode cX12_isLie 58 = .ok (.iaload, 1) := by decide +kernel
theorem dX12_isLie_59 : decode cX12_isLie 59 = .ok (.if_icmp .ge 66, 3) := by decide +kernel
theorem dX12_isLie_62 : decode cX12_isLie 62 = .ok (.bipush 60, 2) := by decide +kernel
theorem dX12_isLie_64 : decode cX12_isLie 64 = .ok (.aload_n 0, 1) := by decide +kernel
theorem dX12_isLie_65 : decode cX12_isLie 65 = .ok (.getfield 42, 3) := by decide +kernel
theorem dX12_isLie_68 : decode cX12_isLie 68 = .ok (.imul, 1) := by decide +kernel
theorem dX12_isLie_69 : decode cX12_isLie 69 = .ok (.iconst 5, 1) := by decide +kernel
theorem dX12_isLie_70 : decode cX12_isLie 70 = .ok (.iload 6, 2) := by decide +kernel
theorem dX12_isLie_72 : decode cX12_isLie 72 = .ok (.imul, 1) := by decide +kernel
theorem dX12_isLie_73 : decode cX12_isLie 73 = .ok (.iadd, 1) := by decide +kernel
theorem dX12_isLie_74 : decode cX12_isLie 74 = .ok (.istore 7, 2) := by decide +kernel
theorem dX12_isLie_76 : decode cX12_isLie 76 = .ok (.aload_n 0, 1) := by decide +kernel
theorem dX12_isLie_77 : decode cX12_isLie 77 = .ok (.getfield 20, 3) := by decide +kernel
theorem dX12_isLie_80 : decode cX12_isLie 80 = .ok (.iload 7, 2) := by decide +kernel
theorem dX12_isLie_82 : decode cX12_isLie 82 = .ok (.iaload, 1) := by decide +kernel
theorem dX12_isLie_83 : decode cX12_isLie 83 = .ok (.ifCond .ne 36, 3) := by decide +kernel
theorem dX12_isLie_86 : decode cX12_isLie 86 = .ok (.aload_n 0, 1) := by decide +kernel
theorem dX12_isLie_87 : decode cX12_isLie 87 = .ok (.aload_n 0, 1) := by decide +kernel
theorem dX12_isLie_88 : decode cX12_isLie 88 = .ok (.getfield 42, 3) := by decide +kernel
theorem dX12_isLie_91 : decode cX12_isLie 91 = .ok (.aload_n 0, 1) := by decide +kernel
theorem dX12_isLie_92 : decode cX12_isLie 92 = .ok (.getfield 20, 3) := by decide +kernel
theorem dX12_isLie_95 : decode cX12_isLie 95 = .ok (.iload 7, 2) := by decide +kernel
theorem dX12_isLie_97 : decode cX12_isLie 97 = .ok (.iconst 3, 1) := by decide +kernel
theorem dX12_isLie_98 : decode cX12_isLie 98 = .ok (.iadd, 1) := by decide +kernel
theorem dX12_isLie_99 : decode cX12_isLie 99 = .ok (.iaload, 1) := by decide +kernel
theorem dX12_isLie_100 : decode cX12_isLie 100 = .ok (.aload_n 0, 1) := by decide +kernel
theorem dX12_isLie_101 : decode cX12_isLie 101 = .ok (.getfield 20, 3) := by decide +kernel
theorem dX12_isLie_104 : decode cX12_isLie 104 = .ok (.iload 7, 2) := by decide +kernel
theorem dX12_isLie_106 : decode cX12_isLie 106 = .ok (.iconst 4, 1) := by decide +kernel
theorem dX12_isLie_107 : decode cX12_isLie 107 = .ok (.iadd, 1) := by decide +kernel
theorem dX12_isLie_108 : decode cX12_isLie 108 = .ok (.iaload, 1) := by decide +kernel
theorem dX12_isLie_109 : decode cX12_isLie 109 = .ok (.invokevirtual 355, 3) := by decide +kernel
theorem dX12_isLie_112 : decode cX12_isLie 112 = .ok (.lconst 1, 1) := by decide +kernel
theorem dX12_isLie_113 : decode cX12_isLie 113 = .ok (.lcmp, 1) := by decide +kernel
theorem dX12_isLie_114 : decode cX12_isLie 114 = .ok (.ifCond .ne 5, 3) := by decide +kernel
theorem dX12_isLie_117 : decode cX12_isLie 117 = .ok (.iconst 1, 1) := by decide +kernel
theorem dX12_isLie_118 : decode cX12_isLie 118 = .ok (.ireturn, 1) := by decide +kernel
theorem dX12_isLie_119 : decode cX12_isLie 119 = .ok (.iinc 6 1, 3) := by decide +kernel
theorem dX12_isLie_122 : decode cX12_isLie 122 = .ok (.goto (-74), 3) := by decide +kernel
theorem dX12_isLie_125 : decode cX12_isLie 125 = .ok (.iconst 0, 1) := by decide +kernel
theorem dX12_isLie_126 : decode cX12_isLie 126 = .ok (.ireturn, 1) := by decide +kernel
theorem dX12_isTold_0 : decode cX12_isTold 0 = .ok (.aload_n 0, 1) := by decide +kernel
theorem dX12_isTold_1 : decode cX12_isTold 1 = .ok (.iload_n 2, 1) := by decide +kernel
theorem dX12_isTold_2 : decode cX12_isTold 2 = .ok (.iload_n 1, 1) := by decide +kernel
theorem dX12_isTold_3 : decode cX12_isTold 3 = .ok (.invokevirtual 339, 3) := by decide +kernel
theorem dX12_isTold_6 : decode cX12_isTold 6 = .ok (.istore 5, 2) := by decide +kernel
theorem dX12_isTold_8 : decode cX12_isTold 8 = .ok (.aload_n 0, 1) := by decide +kernel
theorem dX12_isTold_9 : decode cX12_isTold 9 = .ok (.iload_n 2, 1) := by decide +kernel
theorem dX12_isTold_10 : decode cX12_isTold 10 = .ok (.iload_n 3, 1) := by decide +kernel
theorem dX12_isTold_11 : decode cX12_isTold 11 = .ok (.invokevirtual 305, 3) := by decide +kernel
theorem dX12_isTold_14 : decode cX12_isTold 14 = .ok (.iconst 2, 1) := by decide +kernel
theorem dX12_isTold_15 : decode cX12_isTold 15 = .ok (.if_icmp .eq 14, 3) := by decide +kernel
theorem dX12_isTold_18 : decode cX12_isTold 18 = .ok (.iload 5, 2) := by decide +kernel
theorem dX12_isTold_20 : decode cX12_isTold 20 = .ok (.aload_n 0, 1) := by decide +kernel
theorem dX12_isTold_21 : decode cX12_isTold 21 = .ok (.iload_n 2, 1) := by decide +kernel
theorem dX12_isTold_22 : decode cX12_isTold 22 = .ok (.iload_n 3, 1) := by decide +kernel
theorem dX12_isTold_23 : decode cX12_isTold 23 = .ok (.invokevirtual 325, 3) := by decide +kernel
theorem dX12_isTold_26 : decode cX12_isTold 26 = .ok (.if_icmp .lt 13, 3) := by decide +kernel
theorem dX12_isTold_29 : decode cX12_isTold 29 = .ok (.aload_n 0, 1) := by decide +kernel
theorem dX12_isTold_30 : decode cX12_isTold 30 = .ok (.iload_n 2, 1) := by decide +kernel
theorem dX12_isTold_31 : decode cX12_isTold 31 = .ok (.iload_n 3, 1) := by decide +kernel
theorem dX12_isTold_32 : decode cX12_isTold 32 = .ok (.iload 4, 2) := by decide +kernel
theorem dX12_isTold_34 : decode cX12_isTold 34 = .ok (.iload 5, 2) := by decide +kernel
theorem dX12_isTold_36 : decode cX12_isTold 36 = .ok (.invokevirtual 359, 3) := by decide +kernel
theorem dX12_isTold_39 : decode cX12_isTold 39 = .ok (.return_, 1) := by decide +kernel
theorem dX12_says_0 : decode cX12_says 0 = .ok (.aload_n 0, 1) := by decide +kernel
theorem dX12_says_1 : decode cX12_says 1 = .ok (.iload_n 1, 1) := by decide +kernel
theorem dX12_says_2 : decode cX12_says 2 = .ok (.iload_n 2, 1) := by decide +kernel
theorem dX12_says_3 : decode cX12_says 3 = .ok (.iload_n 3, 1) := by decide +kernel
theorem dX12_says_4 : decode cX12_says 4 = .ok (.iload 4, 2) := by decide +kernel
theorem dX12_says_6 : decode cX12_says 6 = .ok (.iload 5, 2) := by decide +kernel
theorem dX12_says_8 : decode cX12_says 8 = .ok (.invokevirtual 363, 3) := by decide +kernel
theorem dX12_says_11 : decode cX12_says 11 = .ok (.istore 6, 2) := by decide +kernel
theorem dX12_says_13 : decode cX12_says 13 = .ok (.aload_n 0, 1) := by decide +kernel
theorem dX12_says_14 : decode cX12_says 14 = .ok (.iload_n 1, 1) := by decide +kernel
theorem dX12_says_15 : decode cX12_says 15 = .ok (.iload_n 2, 1) := by decide +kernel
theorem dX12_says_16 : decode cX12_says 16 = .ok (.iload_n 3, 1) := by decide +kernel
theorem dX12_says_17 : decode cX12_says 17 = .ok (.iload 4, 2) := by decide +kernel
theorem dX12_says_19 : decode cX12_says 19 = .ok (.invokevirtual 367, 3) := by decide +kernel
theorem dX12_says_22 : decode cX12_says 22 = .ok (.iload 6, 2) := by decide +kernel
theorem dX12_says_24 : decode cX12_says 24 = .ok (.ifCond .ne 5, 3) := by decide +kernel
theorem dX12_says_27 : decode cX12_says 27 = .ok (.iconst 0, 1) := by decide +kernel
theorem dX12_says_28 : decode cX12_says 28 = .ok (.ireturn, 1) := by decide +kernel
theorem dX12_says_29 : decode cX12_says 29 = .ok (.aload_n 0, 1) := by decide +kernel
theorem dX12_says_30 : decode cX12_says 30 = .ok (.getfield 39, 3) := by decide +kernel
theorem dX12_says_33 : decode cX12_says 33 = .ok (.bipush 123, 2) := by decide +kernel
theorem dX12_says_35 : decode cX12_says 35 = .ok (.iload_n 2, 1) := by decide +kernel
theorem dX12_says_36 : decode cX12_says 36 = .ok (.iadd, 1) := by decide +kernel
theorem dX12_says_37 : decode cX12_says 37 = .ok (.dup2, 1) := by decide +kernel
theorem dX12_says_38 : decode cX12_says 38 = .ok (.iaload, 1) := by decide +kernel
theorem dX12_says_39 : decode cX12_says 39 = .ok (.iconst 1, 1) := by decide +kernel
theorem dX12_says_40 : decode cX12_says 40 = .ok (.iadd, 1) := by decide +kernel
theorem dX12_says_41 : decode cX12_says 41 = .ok (.iastore, 1) := by decide +kernel
theorem dX12_says_42 : decode cX12_says 42 = .ok (.aload_n 0, 1) := by decide +kernel
theorem dX12_says_43 : decode cX12_says 43 = .ok (.getfield 39, 3) := by decide +kernel
theorem dX12_says_46 : decode cX12_says 46 = .ok (.bipush 123, 2) := by decide +kernel
theorem dX12_says_48 : decode cX12_says 48 = .ok (.iload_n 2, 1) := by decide +kernel
theorem dX12_says_49 : decode cX12_says 49 = .ok (.iadd, 1) := by decide +kernel
theorem dX12_says_50 : decode cX12_says 50 = .ok (.iaload, 1) := by decide +kernel
theorem dX12_says_51 : decode cX12_says 51 = .ok (.iconst 2, 1) := by decide +kernel
theorem dX12_says_52 : decode cX12_says 52 = .ok (.if_icmp .ne 35, 3) := by decide +kernel
theorem dX12_says_55 : decode cX12_says 55 = .ok (.aload_n 0, 1) := by decide +kernel
theorem dX12_says_56 : decode cX12_says 56 = .ok (.getfield 39, 3) := by decide +kernel
theorem dX12_says_59 : decode cX12_says 59 = .ok (.bipush 9, 2) := by decide +kernel
theorem dX12_says_61 : decode cX12_says 61 = .ok (.iaload, 1) := by decide +kernel
theorem dX12_says_62 : decode cX12_says 62 = .ok (.ifCond .ge 25, 3) := by decide +kernel
theorem dX12_says_65 : decode cX12_says 65 = .ok (.aload_n 0, 1) := by decide +kernel
theorem dX12_says_66 : decode cX12_says 66 = .ok (.getfield 39, 3) := by decide +kernel
theorem dX12_says_69 : decode cX12_says 69 = .ok (.bipush 8, 2) := by decide +kernel
theorem dX12_says_71 : decode cX12_says 71 = .ok (.aload_n 0, 1) := by decide +kernel
theorem dX12_says_72 : decode cX12_says 72 = .ok (.getfield 39, 3) := by decide +kernel
theorem dX12_says_75 : decode cX12_says 75 = .ok (.bipush 7, 2) := by decide +kernel
theorem dX12_says_77 : decode cX12_says 77 = .ok (.iaload, 1) := by decide +kernel
theorem dX12_says_78 : decode cX12_says 78 = .ok (.iastore, 1) := by decide +kernel
theorem dX12_says_79 : decode cX12_says 79 = .ok (.aload_n 0, 1) := by decide +kernel
theorem dX12_says_80 : decode cX12_says 80 = .ok (.getfield 39, 3) := by decide +kernel
theorem dX12_says_83 : decode cX12_says 83 = .ok (.bipush 9, 2) := by decide +kernel
theorem dX12_says_85 : decode cX12_says 85 = .ok (.iload_n 2, 1) := by decide +kernel
theorem dX12_says_86 : decode cX12_says 86 = .ok (.iastore, 1) := by decide +kernel
theorem dX12_says_87 : decode cX12_says 87 = .ok (.iconst 1, 1) := by decide +kernel
theorem dX12_says_88 : decode cX12_says 88 = .ok (.ireturn, 1) := by decide +kernel
theorem dX12_maySay_0 : decode cX12_maySay 0 = .ok (.aload_n 0, 1) := by decide +kernel
theorem dX12_maySay_1 : decode cX12_maySay 1 = .ok (.iload_n 1, 1) := by decide +kernel
theorem dX12_maySay_2 : decode cX12_maySay 2 = .ok (.invokevirtual 317, 3) := by decide +kernel
theorem dX12_maySay_5 : decode cX12_maySay 5 = .ok (.ifCond .eq 48, 3) := by decide +kernel
theorem dX12_maySay_8 : decode cX12_maySay 8 = .ok (.aload_n 0, 1) := by decide +kernel
theorem dX12_maySay_9 : decode cX12_maySay 9 = .ok (.iload_n 2, 1) := by decide +kernel
theorem dX12_maySay_10 : decode cX12_maySay 10 = .ok (.invokevirtual 317, 3) := by decide +kernel
theorem dX12_maySay_13 : decode cX12_maySay 13 = .ok (.ifCond .eq 40, 3) := by decide +kernel
theorem dX12_maySay_16 : decode cX12_maySay 16 = .ok (.iload_n 1, 1) := by decide +kernel
theorem dX12_maySay_17 : decode cX12_maySay 17 = .ok (.iload_n 2, 1) := by decide +kernel
theorem dX12_maySay_18 : decode cX12_maySay 18 = .ok (.if_icmp .eq 35, 3) := by decide +kernel
theorem dX12_maySay_21 : decode cX12_maySay 21 = .ok (.aload_n 0, 1) := by decide +kernel
theorem dX12_maySay_22 : decode cX12_maySay 22 = .ok (.iload_n 1, 1) := by decide +kernel
theorem dX12_maySay_23 : decode cX12_maySay 23 = .ok (.iload_n 2, 1) := by decide +kernel
theorem dX12_maySay_24 : decode cX12_maySay 24 = .ok (.invokevirtual 299, 3) := by decide +kernel
theorem dX12_maySay_27 : decode cX12_maySay 27 = .ok (.ifCond .lt 26, 3) := by decide +kernel
theorem dX12_maySay_30 : decode cX12_maySay 30 = .ok (.aload_n 0, 1) := by decide +kernel
theorem dX12_maySay_31 : decode cX12_maySay 31 = .ok (.iload_n 3, 1) := by decide +kernel
theorem dX12_maySay_32 : decode cX12_maySay 32 = .ok (.invokevirtual 320, 3) := by decide +kernel
theorem dX12_maySay_35 : decode cX12_maySay 35 = .ok (.ifCond .eq 18, 3) := by decide +kernel
theorem dX12_maySay_38 : decode cX12_maySay 38 = .ok (.iload 4, 2) := by decide +kernel
theorem dX12_maySay_40 : decode cX12_maySay 40 = .ok (.i2l, 1) := by decide +kernel
theorem dX12_maySay_41 : decode cX12_maySay 41 = .ok (.lconst 0, 1) := by decide +kernel
theorem dX12_maySay_42 : decode cX12_maySay 42 = .ok (.lconst 1, 1) := by decide +kernel
theorem dX12_maySay_43 : decode cX12_maySay 43 = .ok (.invokestatic 106, 3) := by decide +kernel
theorem dX12_maySay_46 : decode cX12_maySay 46 = .ok (.ifCond .eq 7, 3) := by decide +kernel
theorem dX12_maySay_49 : decode cX12_maySay 49 = .ok (.iconst 1, 1) := by decide +kernel
theorem dX12_maySay_50 : decode cX12_maySay 50 = .ok (.goto 4, 3) := by decide +kernel
theorem dX12_maySay_53 : decode cX12_maySay 53 = .ok (.iconst 0, 1) := by decide +kernel
theorem dX12_maySay_54 : decode cX12_maySay 54 = .ok (.ireturn, 1) := by decide +kernel
theorem dX12_keepsAct_0 : decode cX12_keepsAct 0 = .ok (.aload_n 0, 1) := by decide +kernel
theorem dX12_keepsAct_1 : decode cX12_keepsAct 1 = .ok (.getfield 281, 3) := by decide +kernel
theorem dX12_keepsAct_4 : decode cX12_keepsAct 4 = .ok (.bipush 20, 2) := by decide +kernel
theorem dX12_keepsAct_6 : decode cX12_keepsAct 6 = .ok (.if_icmp .ne 46, 3) := by decide +kernel
theorem dX12_keepsAct_9 : decode cX12_keepsAct 9 = .ok (.sipush 130, 3) := by decide +kernel
theorem dX12_keepsAct_12 : decode cX12_keepsAct 12 = .ok (.istore_n 1, 1) := by decide +kernel
theorem dX12_keepsAct_13 : decode cX12_keepsAct 13 = .ok (.iload_n 1, 1) := by decide +kernel
theorem dX12_keepsAct_14 : decode cX12_keepsAct 14 = .ok (.sipush 2600, 3) := by decide +kernel
theorem dX12_keepsAct_17 : decode cX12_keepsAct 17 = .ok (.if_icmp .ge 25, 3) := by decide +kernel
theorem dX12_keepsAct_20 : decode cX12_keepsAct 20 = .ok (.aload_n 0, 1) := by decide +kernel
theorem dX12_keepsAct_21 : decode cX12_keepsAct 21 = .ok (.getfield 49, 3) := by decide +kernel
theorem dX12_keepsAct_24 : decode cX12_keepsAct 24 = .ok (.iload_n 1, 1) := by decide +kernel
theorem dX12_keepsAct_25 : decode cX12_keepsAct 25 = .ok (.sipush 130, 3) := by decide +kernel
theorem dX12_keepsAct_28 : decode cX12_keepsAct 28 = .ok (.isub, 1) := by decide +kernel
theorem dX12_keepsAct_29 : decode cX12_keepsAct 29 = .ok (.aload_n 0, 1) := by decide +kernel
theorem dX12_keepsAct_30 : decode cX12_keepsAct 30 = .ok (.getfield 49, 3) := by decide +kernel
theorem dX12_keepsAct_33 : decode cX12_keepsAct 33 = .ok (.iload_n 1, 1) := by decide +kernel
theorem dX12_keepsAct_34 : decode cX12_keepsAct 34 = .ok (.iaload, 1) := by decide +kernel
theorem dX12_keepsAct_35 : decode cX12_keepsAct 35 = .ok (.iastore, 1) := by decide +kernel
theorem dX12_keepsAct_36 : decode cX12_keepsAct 36 = .ok (.iinc 1 1, 3) := by decide +kernel
theorem dX12_keepsAct_39 : decode cX12_keepsAct 39 = .ok (.goto (-26), 3) := by decide +kernel
theorem dX12_keepsAct_42 : decode cX12_keepsAct 42 = .ok (.aload_n 0, 1) := by decide +kernel
theorem dX12_keepsAct_43 : decode cX12_keepsAct 43 = .ok (.dup, 1) := by decide +kernel
theorem dX12_keepsAct_44 : decode cX12_keepsAct 44 = .ok (.getfield 281, 3) := by decide +kernel
theorem dX12_keepsAct_47 : decode cX12_keepsAct 47 = .ok (.iconst 1, 1) := by decide +kernel
theorem dX12_keepsAct_48 : decode cX12_keepsAct 48 = .ok (.isub, 1) := by decide +kernel
theorem dX12_keepsAct_49 : decode cX12_keepsAct 49 = .ok (.putfield 281, 3) := by decide +kernel
theorem dX12_keepsAct_52 : decode cX12_keepsAct 52 = .ok (.iconst 0, 1) := by decide +kernel
theorem dX12_keepsAct_53 : decode cX12_keepsAct 53 = .ok (.istore_n 1, 1) := by decide +kernel
theorem dX12_keepsAct_54 : decode cX12_keepsAct 54 = .ok (.iload_n 1, 1) := by decide +kernel
theorem dX12_keepsAct_55 : decode cX12_keepsAct 55 = .ok (.sipush 130, 3) := by decide +kernel
theorem dX12_keepsAct_58 : decode cX12_keepsAct 58 = .ok (.if_icmp .ge 30, 3) := by decide +kernel
theorem dX12_keepsAct_61 : decode cX12_keepsAct 61 = .ok (.aload_n 0, 1) := by decide +kernel
theorem dX12_keepsAct_62 : decode cX12_keepsAct 62 = .ok (.getfield 49, 3) := by decide +kernel
theorem dX12_keepsAct_65 : decode cX12_keepsAct 65 = .ok (.sipush 130, 3) := by decide +kernel
theorem dX12_keepsAct_68 : decode cX12_keepsAct 68 = .ok (.aload_n 0, 1) := by decide +kernel
theorem dX12_keepsAct_69 : decode cX12_keepsAct 69 = .ok (.getfield 281, 3) := by decide +kernel
theorem dX12_keepsAct_72 : decode cX12_keepsAct 72 = .ok (.imul, 1) := by decide +kernel
theorem dX12_keepsAct_73 : decode cX12_keepsAct 73 = .ok (.iload_n 1, 1) := by decide +kernel
theorem dX12_keepsAct_74 : decode cX12_keepsAct 74 = .ok (.iadd, 1) := by decide +kernel
theorem dX12_keepsAct_75 : decode cX12_keepsAct 75 = .ok (.aload_n 0, 1) := by decide +kernel
theorem dX12_keepsAct_76 : decode cX12_keepsAct 76 = .ok (.getfield 39, 3) := by decide +kernel
theorem dX12_keepsAct_79 : decode cX12_keepsAct 79 = .ok (.iload_n 1, 1) := by decide +kernel
theorem dX12_keepsAct_80 : decode cX12_keepsAct 80 = .ok (.iaload, 1) := by decide +kernel
theorem dX12_keepsAct_81 : decode cX12_keepsAct 81 = .ok (.iastore, 1) := by decide +kernel
theorem dX12_keepsAct_82 : decode cX12_keepsAct 82 = .ok (.iinc 1 1, 3) := by decide +kernel
theorem dX12_keepsAct_85 : decode cX12_keepsAct 85 = .ok (.goto (-31), 3) := by decide +kernel
theorem dX12_keepsAct_88 : decode cX12_keepsAct 88 = .ok (.aload_n 0, 1) := by decide +kernel
theorem dX12_keepsAct_89 : decode cX12_keepsAct 89 = .ok (.dup, 1) := by decide +kernel
theorem dX12_keepsAct_90 : decode cX12_keepsAct 90 = .ok (.getfield 281, 3) := by decide +kernel
theorem dX12_keepsAct_93 : decode cX12_keepsAct 93 = .ok (.iconst 1, 1) := by decide +kernel
theorem dX12_keepsAct_94 : decode cX12_keepsAct 94 = .ok (.iadd, 1) := by decide +kernel
theorem dX12_keepsAct_95 : decode cX12_keepsAct 95 = .ok (.putfield 281, 3) := by decide +kernel
theorem dX12_keepsAct_98 : decode cX12_keepsAct 98 = .ok (.return_, 1) := by decide +kernel
theorem dX12_undo_0 : decode cX12_undo 0 = .ok (.aload_n 0, 1) := by decide +kernel
theorem dX12_undo_1 : decode cX12_undo 1 = .ok (.getfield 281, 3) := by decide +kernel
theorem dX12_undo_4 : decode cX12_undo 4 = .ok (.ifCond .ne 5, 3) := by decide +kernel
theorem dX12_undo_7 : decode cX12_undo 7 = .ok (.iconst (-1), 1) := by decide +kernel
theorem dX12_undo_8 : decode cX12_undo 8 = .ok (.ireturn, 1) := by decide +kernel
theorem dX12_undo_9 : decode cX12_undo 9 = .ok (.aload_n 0, 1) := by decide +kernel
theorem dX12_undo_10 : decode cX12_undo 10 = .ok (.dup, 1) := by decide +kernel
theorem dX12_undo_11 : decode cX12_undo 11 = .ok (.getfield 281, 3) := by decide +kernel
theorem dX12_undo_14 : decode cX12_undo 14 = .ok (.iconst 1, 1) := by decide +kernel
theorem dX12_undo_15 : decode cX12_undo 15 = .ok (.isub, 1) := by decide +kernel
theorem dX12_undo_16 : decode cX12_undo 16 = .ok (.putfield 281, 3) := by decide +kernel
theorem dX12_undo_19 : decode cX12_undo 19 = .ok (.iconst 0, 1) := by decide +kernel
theorem dX12_undo_20 : decode cX12_undo 20 = .ok (.istore_n 1, 1) := by decide +kernel
theorem dX12_undo_21 : decode cX12_undo 21 = .ok (.iload_n 1, 1) := by decide +kernel
theorem dX12_undo_22 : decode cX12_undo 22 = .ok (.sipush 130, 3) := by decide +kernel
theorem dX12_undo_25 : decode cX12_undo 25 = .ok (.if_icmp .ge 30, 3) := by decide +kernel
theorem dX12_undo_28 : decode cX12_undo 28 = .ok (.aload_n 0, 1) := by decide +kernel
theorem dX12_undo_29 : decode cX12_undo 29 = .ok (.getfield 39, 3) := by decide +kernel
theorem dX12_undo_32 : decode cX12_undo 32 = .ok (.iload_n 1, 1) := by decide +kernel
theorem dX12_undo_33 : decode cX12_undo 33 = .ok (.aload_n 0, 1) := by decide +kernel
theorem dX12_undo_34 : decode cX12_undo 34 = .ok (.getfield 49, 3) := by decide +kernel
theorem dX12_undo_37 : decode cX12_undo 37 = .ok (.sipush 130, 3) := by decide +kernel
theorem dX12_undo_40 : decode cX12_undo 40 = .ok (.aload_n 0, 1) := by decide +kernel
theorem dX12_undo_41 : decode cX12_undo 41 = .ok (.getfield 281, 3) := by decide +kernel
theorem dX12_undo_44 : decode cX12_undo 44 = .ok (.imul, 1) := by decide +kernel
theorem dX12_undo_45 : decode cX12_undo 45 = .ok (.iload_n 1, 1) := by decide +kernel
theorem dX12_undo_46 : decode cX12_undo 46 = .ok (.iadd, 1) := by decide +kernel
theorem dX12_undo_47 : decode cX12_undo 47 = .ok (.iaload, 1) := by decide +kernel
theorem dX12_undo_48 : decode cX12_undo 48 = .ok (.iastore, 1) := by decide +kernel
theorem dX12_undo_49 : decode cX12_undo 49 = .ok (.iinc 1 1, 3) := by decide +kernel
theorem dX12_undo_52 : decode cX12_undo 52 = .ok (.goto (-31), 3) := by decide +kernel
theorem dX12_undo_55 : decode cX12_undo 55 = .ok (.aload_n 0, 1) := by decide +kernel
theorem dX12_undo_56 : decode cX12_undo 56 = .ok (.getfield 281, 3) := by decide +kernel
theorem dX12_undo_59 : decode cX12_undo 59 = .ok (.ireturn, 1) := by decide +kernel
theorem dX12_say_0 : decode cX12_say 0 = .ok (.aload_n 0, 1) := by decide +kernel
theorem dX12_say_1 : decode cX12_say 1 = .ok (.iload_n 1, 1) := by decide +kernel
theorem dX12_say_2 : decode cX12_say 2 = .ok (.iload_n 2, 1) := by decide +kernel
theorem dX12_say_3 : decode cX12_say 3 = .ok (.iload_n 3, 1) := by decide +kernel
theorem dX12_say_4 : decode cX12_say 4 = .ok (.iload 4, 2) := by decide +kernel
theorem dX12_say_6 : decode cX12_say 6 = .ok (.invokevirtual 370, 3) := by decide +kernel
theorem dX12_say_9 : decode cX12_say 9 = .ok (.ifCond .ne 5, 3) := by decide +kernel
theorem dX12_say_12 : decode cX12_say 12 = .ok (.iconst (-1), 1) := by decide +kernel
theorem dX12_say_13 : decode cX12_say 13 = .ok (.ireturn, 1) := by decide +kernel
theorem dX12_say_14 : decode cX12_say 14 = .ok (.aload_n 0, 1) := by decide +kernel
theorem dX12_say_15 : decode cX12_say 15 = .ok (.invokevirtual 374, 3) := by decide +kernel
theorem dX12_say_18 : decode cX12_say 18 = .ok (.aload_n 0, 1) := by decide +kernel
theorem dX12_say_19 : decode cX12_say 19 = .ok (.iload_n 1, 1) := by decide +kernel
theorem dX12_say_20 : decode cX12_say 20 = .ok (.iload_n 2, 1) := by decide +kernel
theorem dX12_say_21 : decode cX12_say 21 = .ok (.iload_n 3, 1) := by decide +kernel
theorem dX12_say_22 : decode cX12_say 22 = .ok (.iload 4, 2) := by decide +kernel
theorem dX12_say_24 : decode cX12_say 24 = .ok (.iconst 0, 1) := by decide +kernel
theorem dX12_say_25 : decode cX12_say 25 = .ok (.invokevirtual 377, 3) := by decide +kernel
theorem dX12_say_28 : decode cX12_say 28 = .ok (.ireturn, 1) := by decide +kernel
theorem dX12_would_0 : decode cX12_would 0 = .ok (.aload_n 0, 1) := by decide +kernel
theorem dX12_would_1 : decode cX12_would 1 = .ok (.iload_n 1, 1) := by decide +kernel
theorem dX12_would_2 : decode cX12_would 2 = .ok (.iload_n 2, 1) := by decide +kernel
theorem dX12_would_3 : decode cX12_would 3 = .ok (.iload_n 3, 1) := by decide +kernel
theorem dX12_would_4 : decode cX12_would 4 = .ok (.iload 4, 2) := by decide +kernel
theorem dX12_would_6 : decode cX12_would 6 = .ok (.invokevirtual 370, 3) := by decide +kernel
theorem dX12_would_9 : decode cX12_would 9 = .ok (.ifCond .ne 7, 3) := by decide +kernel
theorem dX12_would_12 : decode cX12_would 12 = .ok (.iconst (-1), 1) := by decide +kernel
theorem dX12_would_13 : decode cX12_would 13 = .ok (.goto 21, 3) := by decide +kernel
theorem dX12_would_16 : decode cX12_would 16 = .ok (.aload_n 0, 1) := by decide +kernel
theorem dX12_would_17 : decode cX12_would 17 = .ok (.iload_n 1, 1) := by decide +kernel
theorem dX12_would_18 : decode cX12_would 18 = .ok (.iload_n 2, 1) := by decide +kernel
theorem dX12_would_19 : decode cX12_would 19 = .ok (.iload_n 3, 1) := by decide +kernel
theorem dX12_would_20 : decode cX12_would 20 = .ok (.iload 4, 2) := by decide +kernel
theorem dX12_would_22 : decode cX12_would 22 = .ok (.iconst 0, 1) := by decide +kernel
theorem dX12_would_23 : decode cX12_would 23 = .ok (.invokevirtual 363, 3) := by decide +kernel
theorem dX12_would_26 : decode cX12_would 26 = .ok (.ifCond .eq 7, 3) := by decide +kernel
theorem dX12_would_29 : decode cX12_would 29 = .ok (.iconst 1, 1) := by decide +kernel
theorem dX12_would_30 : decode cX12_would 30 = .ok (.goto 4, 3) := by decide +kernel
theorem dX12_would_33 : decode cX12_would 33 = .ok (.iconst 0, 1) := by decide +kernel
theorem dX12_would_34 : decode cX12_would 34 = .ok (.ireturn, 1) := by decide +kernel
theorem dX12_passesOn_0 : decode cX12_passesOn 0 = .ok (.iconst 0, 1) := by decide +kernel
theorem dX12_passesOn_1 : decode cX12_passesOn 1 = .ok (.istore_n 3, 1) := by decide +kernel
theorem dX12_passesOn_2 : decode cX12_passesOn 2 = .ok (.iconst 0, 1) := by decide +kernel
theorem dX12_passesOn_3 : decode cX12_passesOn 3 = .ok (.istore 4, 2) := by decide +kernel
theorem dX12_passesOn_5 : decode cX12_passesOn 5 = .ok (.iload 4, 2) := by decide +kernel
theorem dX12_passesOn_7 : decode cX12_passesOn 7 = .ok (.aload_n 0, 1) := by decide +kernel
theorem dX12_passesOn_8 : decode cX12_passesOn 8 = .ok (.getfield 39, 3) := by decide +kernel
theorem dX12_passesOn_11 : decode cX12_passesOn 11 = .ok (.iconst 0, 1) := by decide +kernel
theorem dX12_passesOn_12 : decode cX12_passesOn 12 = .ok (.iaload, 1) := by decide +kernel
theorem dX12_passesOn_13 : decode cX12_passesOn 13 = .ok (.if_icmp .ge 50, 3) := by decide +kernel
theorem dX12_passesOn_16 : decode cX12_passesOn 16 = .ok (.aload_n 0, 1) := by decide +kernel
theorem dX12_passesOn_17 : decode cX12_passesOn 17 = .ok (.iload_n 1, 1) := by decide +kernel
theorem dX12_passesOn_18 : decode cX12_passesOn 18 = .ok (.iload 4, 2) := by decide +kernel
theorem dX12_passesOn_20 : decode cX12_passesOn 20 = .ok (.invokevirtual 305, 3) := by decide +kernel
theorem dX12_passesOn_23 : decode cX12_passesOn 23 = .ok (.istore 5, 2) := by decide +kernel
theorem dX12_passesOn_25 : decode cX12_passesOn 25 = .ok (.iload 5, 2) := by decide +kernel
theorem dX12_passesOn_27 : decode cX12_passesOn 27 = .ok (.iconst 2, 1) := by decide +kernel
theorem dX12_passesOn_28 : decode cX12_passesOn 28 = .ok (.if_icmp .eq 29, 3) := by decide +kernel
theorem dX12_passesOn_31 : decode cX12_passesOn 31 = .ok (.iload 5, 2) := by decide +kernel
theorem dX12_passesOn_33 : decode cX12_passesOn 33 = .ok (.aload_n 0, 1) := by decide +kernel
theorem dX12_passesOn_34 : decode cX12_passesOn 34 = .ok (.iload_n 2, 1) := by decide +kernel
theorem dX12_passesOn_35 : decode cX12_passesOn 35 = .ok (.iload 4, 2) := by decide +kernel
theorem dX12_passesOn_37 : decode cX12_passesOn 37 = .ok (.invokevirtual 305, 3) := by decide +kernel
theorem dX12_passesOn_40 : decode cX12_passesOn 40 = .ok (.if_icmp .eq 17, 3) := by decide +kernel
theorem dX12_passesOn_43 : decode cX12_passesOn 43 = .ok (.iload_n 3, 1) := by decide +kernel
theorem dX12_passesOn_44 : decode cX12_passesOn 44 = .ok (.aload_n 0, 1) := by decide +kernel
theorem dX12_passesOn_45 : decode cX12_passesOn 45 = .ok (.iload_n 1, 1) := by decide +kernel
theorem dX12_passesOn_46 : decode cX12_passesOn 46 = .ok (.iload_n 2, 1) := by decide +kernel
theorem dX12_passesOn_47 : decode cX12_passesOn 47 = .ok (.iload 4, 2) := by decide +kernel
theorem dX12_passesOn_49 : decode cX12_passesOn 49 = .ok (.iload 5, 2) := by decide +kernel
theorem dX12_passesOn_51 : decode cX12_passesOn 51 = .ok (.iconst 1, 1) := by decide +kernel
theorem dX12_passesOn_52 : decode cX12_passesOn 52 = .ok (.invokevirtual 377, 3) := by decide +kernel
theorem dX12_passesOn_55 : decode cX12_passesOn 55 = .ok (.iadd, 1) := by decide +kernel
theorem dX12_passesOn_56 : decode cX12_passesOn 56 = .ok (.istore_n 3, 1) := by decide +kernel
theorem dX12_passesOn_57 : decode cX12_passesOn 57 = .ok (.iinc 4 1, 3) := by decide +kernel
theorem dX12_passesOn_60 : decode cX12_passesOn 60 = .ok (.goto (-55), 3) := by decide +kernel
theorem dX12_passesOn_63 : decode cX12_passesOn 63 = .ok (.iload_n 3, 1) := by decide +kernel
theorem dX12_passesOn_64 : decode cX12_passesOn 64 = .ok (.ireturn, 1) := by decide +kernel
theorem dX12_meet_0 : decode cX12_meet 0 = .ok (.aload_n 0, 1) := by decide +kernel
theorem dX12_meet_1 : decode cX12_meet 1 = .ok (.iload_n 1, 1) := by decide +kernel
theorem dX12_meet_2 : decode cX12_meet 2 = .ok (.invokevirtual 317, 3) := by decide +kernel
theorem dX12_meet_5 : decode cX12_meet 5 = .ok (.ifCond .eq 25, 3) := by decide +kernel
theorem dX12_meet_8 : decode cX12_meet 8 = .ok (.aload_n 0, 1) := by decide +kernel
theorem dX12_meet_9 : decode cX12_meet 9 = .ok (.iload_n 2, 1) := by decide +kernel
theorem dX12_meet_10 : decode cX12_meet 10 = .ok (.invokevirtual 317, 3) := by decide +kernel
theorem dX12_meet_13 : decode cX12_meet 13 = .ok (.ifCond .eq 17, 3) := by decide +kernel
theorem dX12_meet_16 : decode cX12_meet 16 = .ok (.iload_n 1, 1) := by decide +kernel
theorem dX12_meet_17 : decode cX12_meet 17 = .ok (.iload_n 2, 1) := by decide +kernel
theorem dX12_meet_18 : decode cX12_meet 18 = .ok (.if_icmp .eq 12, 3) := by decide +kernel
theorem dX12_meet_21 : decode cX12_meet 21 = .ok (.aload_n 0, 1) := by decide +kernel
theorem dX12_meet_22 : decode cX12_meet 22 = .ok (.iload_n 1, 1) := by decide +kernel
theorem dX12_meet_23 : decode cX12_meet 23 = .ok (.iload_n 2, 1) := by decide +kernel
theorem dX12_meet_24 : decode cX12_meet 24 = .ok (.invokevirtual 299, 3) := by decide +kernel
theorem dX12_meet_27 : decode cX12_meet 27 = .ok (.ifCond .ge 5, 3) := by decide +kernel
theorem dX12_meet_30 : decode cX12_meet 30 = .ok (.iconst (-1), 1) := by decide +kernel
theorem dX12_meet_31 : decode cX12_meet 31 = .ok (.ireturn, 1) := by decide +kernel
theorem dX12_meet_32 : decode cX12_meet 32 = .ok (.aload_n 0, 1) := by decide +kernel
theorem dX12_meet_33 : decode cX12_meet 33 = .ok (.invokevirtual 374, 3) := by decide +kernel
theorem dX12_meet_36 : decode cX12_meet 36 = .ok (.iload_n 1, 1) := by decide +kernel
theorem dX12_meet_37 : decode cX12_meet 37 = .ok (.iload_n 2, 1) := by decide +kernel
theorem dX12_meet_38 : decode cX12_meet 38 = .ok (.if_icmp .ge 7, 3) := by decide +kernel
theorem dX12_meet_41 : decode cX12_meet 41 = .ok (.iload_n 1, 1) := by decide +kernel
theorem dX12_meet_42 : decode cX12_meet 42 = .ok (.goto 4, 3) := by decide +kernel
theorem dX12_meet_45 : decode cX12_meet 45 = .ok (.iload_n 2, 1) := by decide +kernel
theorem dX12_meet_46 : decode cX12_meet 46 = .ok (.istore_n 3, 1) := by decide +kernel
theorem dX12_meet_47 : decode cX12_meet 47 = .ok (.iload_n 1, 1) := by decide +kernel
theorem dX12_meet_48 : decode cX12_meet 48 = .ok (.iload_n 2, 1) := by decide +kernel
theorem dX12_meet_49 : decode cX12_meet 49 = .ok (.if_icmp .ge 7, 3) := by decide +kernel
theorem dX12_meet_52 : decode cX12_meet 52 = .ok (.iload_n 2, 1) := by decide +kernel
theorem dX12_meet_53 : decode cX12_meet 53 = .ok (.goto 4, 3) := by decide +kernel
theorem dX12_meet_56 : decode cX12_meet 56 = .ok (.iload_n 1, 1) := by decide +kernel
theorem dX12_meet_57 : decode cX12_meet 57 = .ok (.istore 4, 2) := by decide +kernel
theorem dX12_meet_59 : decode cX12_meet 59 = .ok (.aload_n 0, 1) := by decide +kernel
theorem dX12_meet_60 : decode cX12_meet 60 = .ok (.iload_n 3, 1) := by decide +kernel
theorem dX12_meet_61 : decode cX12_meet 61 = .ok (.iload 4, 2) := by decide +kernel
theorem dX12_meet_63 : decode cX12_meet 63 = .ok (.invokevirtual 381, 3) := by decide +kernel
theorem dX12_meet_66 : decode cX12_meet 66 = .ok (.istore 5, 2) := by decide +kernel
theorem dX12_meet_68 : decode cX12_meet 68 = .ok (.iload 5, 2) := by decide +kernel
theorem dX12_meet_70 : decode cX12_meet 70 = .ok (.aload_n 0, 1) := by decide +kernel
theorem dX12_meet_71 : decode cX12_meet 71 = .ok (.iload 4, 2) := by decide +kernel
theorem dX12_meet_73 : decode cX12_meet 73 = .ok (.iload_n 3, 1) := by decide +kernel
theorem dX12_meet_74 : decode cX12_meet 74 = .ok (.invokevirtual 381, 3) := by decide +kernel
theorem dX12_meet_77 : decode cX12_meet 77 = .ok (.iadd, 1) := by decide +kernel
theorem dX12_meet_78 : decode cX12_meet 78 = .ok (.ireturn, 1) := by decide +kernel
theorem dX12_hour_0 : decode cX12_hour 0 = .ok (.aload_n 0, 1) := by decide +kernel
theorem dX12_hour_1 : decode cX12_hour 1 = .ok (.invokevirtual 384, 3) := by decide +kernel
theorem dX12_hour_4 : decode cX12_hour 4 = .ok (.ifCond .eq 15, 3) := by decide +kernel
theorem dX12_hour_7 : decode cX12_hour 7 = .ok (.aload_n 0, 1) := by decide +kernel
theorem dX12_hour_8 : decode cX12_hour 8 = .ok (.getfield 39, 3) := by decide +kernel
theorem dX12_hour_11 : decode cX12_hour 11 = .ok (.bipush 7, 2) := by decide +kernel
theorem dX12_hour_13 : decode cX12_hour 13 = .ok (.iaload, 1) := by decide +kernel
theorem dX12_hour_14 : decode cX12_hour 14 = .ok (.bipush 23, 2) := by decide +kernel
theorem dX12_hour_16 : decode cX12_hour 16 = .ok (.if_icmp .ne 5, 3) := by decide +kernel
theorem dX12_hour_19 : decode cX12_hour 19 = .ok (.iconst (-1), 1) := by decide +kernel
theorem dX12_hour_20 : decode cX12_hour 20 = .ok (.ireturn, 1) := by decide +kernel
theorem dX12_hour_21 : decode cX12_hour 21 = .ok (.aload_n 0, 1) := by decide +kernel
theorem dX12_hour_22 : decode cX12_hour 22 = .ok (.invokevirtual 374, 3) := by decide +kernel
theorem dX12_hour_25 : decode cX12_hour 25 = .ok (.aload_n 0, 1) := by decide +kernel
theorem dX12_hour_26 : decode cX12_hour 26 = .ok (.getfield 39, 3) := by decide +kernel
theorem dX12_hour_29 : decode cX12_hour 29 = .ok (.bipush 7, 2) := by decide +kernel
theorem dX12_hour_31 : decode cX12_hour 31 = .ok (.dup2, 1) := by decide +kernel
theorem dX12_hour_32 : decode cX12_hour 32 = .ok (.iaload, 1) := by decide +kernel
theorem dX12_hour_33 : decode cX12_hour 33 = .ok (.iconst 1, 1) := by decide +kernel
theorem dX12_hour_34 : decode cX12_hour 34 = .ok (.iadd, 1) := by decide +kernel
theorem dX12_hour_35 : decode cX12_hour 35 = .ok (.iastore, 1) := by decide +kernel
theorem dX12_hour_36 : decode cX12_hour 36 = .ok (.aload_n 0, 1) := by decide +kernel
theorem dX12_hour_37 : decode cX12_hour 37 = .ok (.getfield 39, 3) := by decide +kernel
theorem dX12_hour_40 : decode cX12_hour 40 = .ok (.bipush 7, 2) := by decide +kernel
theorem dX12_hour_42 : decode cX12_hour 42 = .ok (.iaload, 1) := by decide +kernel
theorem dX12_hour_43 : decode cX12_hour 43 = .ok (.ireturn, 1) := by decide +kernel
theorem dX12_dayComes_0 : decode cX12_dayComes 0 = .ok (.aload_n 0, 1) := by decide +kernel
theorem dX12_dayComes_1 : decode cX12_dayComes 1 = .ok (.getfield 39, 3) := by decide +kernel
theorem dX12_dayComes_4 : decode cX12_dayComes 4 = .ok (.bipush 6, 2) := by decide +kernel
theorem dX12_dayComes_6 : decode cX12_dayComes 6 = .ok (.dup2, 1) := by decide +kernel
theorem dX12_dayComes_7 : decode cX12_dayComes 7 = .ok (.iaload, 1) := by decide +kernel
theorem dX12_dayComes_8 : decode cX12_dayComes 8 = .ok (.iconst 1, 1) := by decide +kernel
theorem dX12_dayComes_9 : decode cX12_dayComes 9 = .ok (.iadd, 1) := by decide +kernel
theorem dX12_dayComes_10 : decode cX12_dayComes 10 = .ok (.iastore, 1) := by decide +kernel
theorem dX12_dayComes_11 : decode cX12_dayComes 11 = .ok (.aload_n 0, 1) := by decide +kernel
theorem dX12_dayComes_12 : decode cX12_dayComes 12 = .ok (.getfield 39, 3) := by decide +kernel
theorem dX12_dayComes_15 : decode cX12_dayComes 15 = .ok (.bipush 7, 2) := by decide +kernel
theorem dX12_dayComes_17 : decode cX12_dayComes 17 = .ok (.iconst 0, 1) := by decide +kernel
theorem dX12_dayComes_18 : decode cX12_dayComes 18 = .ok (.iastore, 1) := by decide +kernel
theorem dX12_dayComes_19 : decode cX12_dayComes 19 = .ok (.aload_n 0, 1) := by decide +kernel
theorem dX12_dayComes_20 : decode cX12_dayComes 20 = .ok (.getfield 39, 3) := by decide +kernel
theorem dX12_dayComes_23 : decode cX12_dayComes 23 = .ok (.bipush 8, 2) := by decide +kernel
theorem dX12_dayComes_25 : decode cX12_dayComes 25 = .ok (.iconst (-1), 1) := by decide +kernel
theorem dX12_dayComes_26 : decode cX12_dayComes 26 = .ok (.iastore, 1) := by decide +kernel
theorem dX12_dayComes_27 : decode cX12_dayComes 27 = .ok (.aload_n 0, 1) := by decide +kernel
theorem dX12_dayComes_28 : decode cX12_dayComes 28 = .ok (.getfield 39, 3) := by decide +kernel
theorem dX12_dayComes_31 : decode cX12_dayComes 31 = .ok (.bipush 9, 2) := by decide +kernel
theorem dX12_dayComes_33 : decode cX12_dayComes 33 = .ok (.iconst (-1), 1) := by decide +kernel
theorem dX12_dayComes_34 : decode cX12_dayComes 34 = .ok (.iastore, 1) := by decide +kernel
theorem dX12_dayComes_35 : decode cX12_dayComes 35 = .ok (.iconst 0, 1) := by decide +kernel
theorem dX12_dayComes_36 : decode cX12_dayComes 36 = .ok (.istore_n 1, 1) := by decide +kernel
theorem dX12_dayComes_37 : decode cX12_dayComes 37 = .ok (.iload_n 1, 1) := by decide +kernel
theorem dX12_dayComes_38 : decode cX12_dayComes 38 = .ok (.aload_n 0, 1) := by decide +kernel
theorem dX12_dayComes_39 : decode cX12_dayComes 39 = .ok (.getfield 39, 3) := by decide +kernel
theorem dX12_dayComes_42 : decode cX12_dayComes 42 = .ok (.iconst 2, 1) := by decide +kernel
theorem dX12_dayComes_43 : decode cX12_dayComes 43 = .ok (.iaload, 1) := by decide +kernel
theorem dX12_dayComes_44 : decode cX12_dayComes 44 = .ok (.if_icmp .ge 72, 3) := by decide +kernel
theorem dX12_dayComes_47 : decode cX12_dayComes 47 = .ok (.aload_n 0, 1) := by decide +kernel
theorem dX12_dayComes_48 : decode cX12_dayComes 48 = .ok (.getfield 39, 3) := by decide +kernel
theorem dX12_dayComes_51 : decode cX12_dayComes 51 = .ok (.bipush 123, 2) := by decide +kernel
theorem dX12_dayComes_53 : decode cX12_dayComes 53 = .ok (.iload_n 1, 1) := by decide +kernel
theorem dX12_dayComes_54 : decode cX12_dayComes 54 = .ok (.iadd, 1) := by decide +kernel
theorem dX12_dayComes_55 : decode cX12_dayComes 55 = .ok (.iconst 0, 1) := by decide +kernel
theorem dX12_dayComes_56 : decode cX12_dayComes 56 = .ok (.iastore, 1) := by decide +kernel
theorem dX12_dayComes_57 : decode cX12_dayComes 57 = .ok (.iconst 0, 1) := by decide +kernel
theorem dX12_dayComes_58 : decode cX12_dayComes 58 = .ok (.istore_n 2, 1) := by decide +kernel
theorem dX12_dayComes_59 : decode cX12_dayComes 59 = .ok (.iload_n 2, 1) := by decide +kernel
theorem dX12_dayComes_60 : decode cX12_dayComes 60 = .ok (.aload_n 0, 1) := by decide +kernel
theorem dX12_dayComes_61 : decode cX12_dayComes 61 = .ok (.getfield 39, 3) := by decide +kernel
theorem dX12_dayComes_64 : decode cX12_dayComes 64 = .ok (.iconst 0, 1) := by decide +kernel
theorem dX12_dayComes_65 : decode cX12_dayComes 65 = .ok (.iaload, 1) := by decide +kernel
theorem dX12_dayComes_66 : decode cX12_dayComes 66 = .ok (.if_icmp .ge 44, 3) := by decide +kernel
theorem dX12_dayComes_69 : decode cX12_dayComes 69 = .ok (.aload_n 0, 1) := by decide +kernel
theorem dX12_dayComes_70 : decode cX12_dayComes 70 = .ok (.getfield 39, 3) := by decide +kernel
theorem dX12_dayComes_73 : decode cX12_dayComes 73 = .ok (.bipush 10, 2) := by decide +kernel
theorem dX12_dayComes_75 : decode cX12_dayComes 75 = .ok (.iaload, 1) := by decide +kernel
theorem dX12_dayComes_76 : decode cX12_dayComes 76 = .ok (.iconst 1, 1) := by decide +kernel
theorem dX12_dayComes_77 : decode cX12_dayComes 77 = .ok (.if_icmp .ne 27, 3) := by decide +kernel
theorem dX12_dayComes_80 : decode cX12_dayComes 80 = .ok (.aload_n 0, 1) := by decide +kernel
theorem dX12_dayComes_81 : decode cX12_dayComes 81 = .ok (.iload_n 1, 1) := by decide +kernel
theorem dX12_dayComes_82 : decode cX12_dayComes 82 = .ok (.iload_n 2, 1) := by decide +kernel
theorem dX12_dayComes_83 : decode cX12_dayComes 83 = .ok (.invokevirtual 305, 3) := by decide +kernel
theorem dX12_dayComes_86 : decode cX12_dayComes 86 = .ok (.iconst 1, 1) := by decide +kernel
theorem dX12_dayComes_87 : decode cX12_dayComes 87 = .ok (.aload_n 0, 1) := by decide +kernel
theorem dX12_dayComes_88 : decode cX12_dayComes 88 = .ok (.iload_n 2, 1) := by decide +kernel
theorem dX12_dayComes_89 : decode cX12_dayComes 89 = .ok (.invokevirtual 342, 3) := by decide +kernel
theorem dX12_dayComes_92 : decode cX12_dayComes 92 = .ok (.isub, 1) := by decide +kernel
theorem dX12_dayComes_93 : decode cX12_dayComes 93 = .ok (.if_icmp .ne 11, 3) := by decide +kernel
theorem dX12_dayComes_96 : decode cX12_dayComes 96 = .ok (.aload_n 0, 1) := by decide +kernel
theorem dX12_dayComes_97 : decode cX12_dayComes 97 = .ok (.iload_n 1, 1) := by decide +kernel
theorem dX12_dayComes_98 : decode cX12_dayComes 98 = .ok (.iload_n 2, 1) := by decide +kernel
theorem dX12_dayComes_99 : decode cX12_dayComes 99 = .ok (.iconst 2, 1) := by decide +kernel
theorem dX12_dayComes_100 : decode cX12_dayComes 100 = .ok (.iconst 0, 1) := by decide +kernel
theorem dX12_dayComes_101 : decode cX12_dayComes 101 = .ok (.invokevirtual 359, 3) := by decide +kernel
theorem dX12_dayComes_104 : decode cX12_dayComes 104 = .ok (.iinc 2 1, 3) := by decide +kernel
theorem dX12_dayComes_107 : decode cX12_dayComes 107 = .ok (.goto (-48), 3) := by decide +kernel
theorem dX12_dayComes_110 : decode cX12_dayComes 110 = .ok (.iinc 1 1, 3) := by decide +kernel
theorem dX12_dayComes_113 : decode cX12_dayComes 113 = .ok (.goto (-76), 3) := by decide +kernel
theorem dX12_dayComes_116 : decode cX12_dayComes 116 = .ok (.return_, 1) := by decide +kernel
theorem dX12_midnight_0 : decode cX12_midnight 0 = .ok (.aload_n 0, 1) := by decide +kernel
theorem dX12_midnight_1 : decode cX12_midnight 1 = .ok (.invokevirtual 384, 3) := by decide +kernel
theorem dX12_midnight_4 : decode cX12_midnight 4 = .ok (.ifCond .eq 16, 3) := by decide +kernel
theorem dX12_midnight_7 : decode cX12_midnight 7 = .ok (.aload_n 0, 1) := by decide +kernel
theorem dX12_midnight_8 : decode cX12_midnight 8 = .ok (.getfield 39, 3) := by decide +kernel
theorem dX12_midnight_11 : decode cX12_midnight 11 = .ok (.bipush 6, 2) := by decide +kernel
theorem dX12_midnight_13 : decode cX12_midnight 13 = .ok (.iaload, 1) := by decide +kernel
theorem dX12_midnight_14 : decode cX12_midnight 14 = .ok (.sipush 9999, 3) := by decide +kernel
theorem dX12_midnight_17 : decode cX12_midnight 17 = .ok (.if_icmp .ne 5, 3) := by decide +kernel
theorem dX12_midnight_20 : decode cX12_midnight 20 = .ok (.iconst (-1), 1) := by decide +kernel
theorem dX12_midnight_21 : decode cX12_midnight 21 = .ok (.ireturn, 1) := by decide +kernel
theorem dX12_midnight_22 : decode cX12_midnight 22 = .ok (.aload_n 0, 1) := by decide +kernel
theorem dX12_midnight_23 : decode cX12_midnight 23 = .ok (.invokevirtual 374, 3) := by decide +kernel
theorem dX12_midnight_26 : decode cX12_midnight 26 = .ok (.aload_n 0, 1) := by decide +kernel
theorem dX12_midnight_27 : decode cX12_midnight 27 = .ok (.invokevirtual 387, 3) := by decide +kernel
theorem dX12_midnight_30 : decode cX12_midnight 30 = .ok (.aload_n 0, 1) := by decide +kernel
theorem dX12_midnight_31 : decode cX12_midnight 31 = .ok (.getfield 39, 3) := by decide +kernel
theorem dX12_midnight_34 : decode cX12_midnight 34 = .ok (.bipush 6, 2) := by decide +kernel
theorem dX12_midnight_36 : decode cX12_midnight 36 = .ok (.iaload, 1) := by decide +kernel
theorem dX12_midnight_37 : decode cX12_midnight 37 = .ok (.ireturn, 1) := by decide +kernel
theorem dX12_summedBy_0 : decode cX12_summedBy 0 = .ok (.iconst 0, 1) := by decide +kernel
theorem dX12_summedBy_1 : decode cX12_summedBy 1 = .ok (.istore_n 2, 1) := by decide +kernel
theorem dX12_summedBy_2 : decode cX12_summedBy 2 = .ok (.iload_n 2, 1) := by decide +kernel
theorem dX12_summedBy_3 : decode cX12_summedBy 3 = .ok (.aload_n 0, 1) := by decide +kernel
theorem dX12_summedBy_4 : decode cX12_summedBy 4 = .ok (.getfield 23, 3) := by decide +kernel
theorem dX12_summedBy_7 : decode cX12_summedBy 7 = .ok (.iload_n 1, 1) := by decide +kernel
theorem dX12_summedBy_8 : decode cX12_summedBy 8 = .ok (.iaload, 1) := by decide +kernel
theorem dX12_summedBy_9 : decode cX12_summedBy 9 = .ok (.if_icmp .ge 87, 3) := by decide +kernel
theorem dX12_summedBy_12 : decode cX12_summedBy 12 = .ok (.bipush 60, 2) := by decide +kernel
theorem dX12_summedBy_14 : decode cX12_summedBy 14 = .ok (.iload_n 1, 1) := by decide +kernel
theorem dX12_summedBy_15 : decode cX12_summedBy 15 = .ok (.imul, 1) := by decide +kernel
theorem dX12_summedBy_16 : decode cX12_summedBy 16 = .ok (.iconst 5, 1) := by decide +kernel
theorem dX12_summedBy_17 : decode cX12_summedBy 17 = .ok (.iload_n 2, 1) := by decide +kernel
theorem dX12_summedBy_18 : decode cX12_summedBy 18 = .ok (.imul, 1) := by decide +kernel
theorem dX12_summedBy_19 : decode cX12_summedBy 19 = .ok (.iadd, 1) := by decide +kernel
theorem dX12_summedBy_20 : decode cX12_summedBy 20 = .ok (.istore_n 3, 1) := by decide +kernel
theorem dX12_summedBy_21 : decode cX12_summedBy 21 = .ok (.aload_n 0, 1) := by decide +kernel
theorem dX12_summedBy_22 : decode cX12_summedBy 22 = .ok (.getfield 20, 3) := by decide +kernel
theorem dX12_summedBy_25 : decode cX12_summedBy 25 = .ok (.iload_n 3, 1) := by decide +kernel
theorem dX12_summedBy_26 : decode cX12_summedBy 26 = .ok (.iaload, 1) := by decide +kernel
theorem dX12_summedBy_27 : decode cX12_summedBy 27 = .ok (.iconst 1, 1) := by decide +kernel
theorem dX12_summedBy_28 : decode cX12_summedBy 28 = .ok (.if_icmp .ne 62, 3) := by decide +kernel
theorem dX12_summedBy_31 : decode cX12_summedBy 31 = .ok (.aload_n 0, 1) := by decide +kernel
theorem dX12_summedBy_32 : decode cX12_summedBy 32 = .ok (.getfield 20, 3) := by decide +kernel
theorem dX12_summedBy_35 : decode cX12_summedBy 35 = .ok (.iload_n 3, 1) := by decide +kernel
theorem dX12_summedBy_36 : decode cX12_summedBy 36 = .ok (.iconst 3, 1) := by decide +kernel
theorem dX12_summedBy_37 : decode cX12_summedBy 37 = .ok (.iadd, 1) := by decide +kernel
theorem dX12_summedBy_38 : decode cX12_summedBy 38 = .ok (.iaload, 1) := by decide +kernel
theorem dX12_summedBy_39 : decode cX12_summedBy 39 = .ok (.ifCond .lt 29, 3) := by decide +kernel
theorem dX12_summedBy_42 : decode cX12_summedBy 42 = .ok (.aload_n 0, 1) := by decide +kernel
theorem dX12_summedBy_43 : decode cX12_summedBy 43 = .ok (.iload_n 1, 1) := by decide +kernel
theorem dX12_summedBy_44 : decode cX12_summedBy 44 = .ok (.aload_n 0, 1) := by decide +kernel
theorem dX12_summedBy_45 : decode cX12_summedBy 45 = .ok (.getfield 20, 3) := by decide +kernel
theorem dX12_summedBy_48 : decode cX12_summedBy 48 = .ok (.iload_n 3, 1) := by decide +kernel
theorem dX12_summedBy_49 : decode cX12_summedBy 49 = .ok (.iconst 3, 1) := by decide +kernel
theorem dX12_summedBy_50 : decode cX12_summedBy 50 = .ok (.iadd, 1) := by decide +kernel
theorem dX12_summedBy_51 : decode cX12_summedBy 51 = .ok (.iaload, 1) := by decide +kernel
theorem dX12_summedBy_52 : decode cX12_summedBy 52 = .ok (.aload_n 0, 1) := by decide +kernel
theorem dX12_summedBy_53 : decode cX12_summedBy 53 = .ok (.getfield 20, 3) := by decide +kernel
theorem dX12_summedBy_56 : decode cX12_summedBy 56 = .ok (.iload_n 3, 1) := by decide +kernel
theorem dX12_summedBy_57 : decode cX12_summedBy 57 = .ok (.iconst 4, 1) := by decide +kernel
theorem dX12_summedBy_58 : decode cX12_summedBy 58 = .ok (.iadd, 1) := by decide +kernel
theorem dX12_summedBy_59 : decode cX12_summedBy 59 = .ok (.iaload, 1) := by decide +kernel
theorem dX12_summedBy_60 : decode cX12_summedBy 60 = .ok (.invokevirtual 355, 3) := by decide +kernel
theorem dX12_summedBy_63 : decode cX12_summedBy 63 = .ok (.lconst 1, 1) := by decide +kernel
theorem dX12_summedBy_64 : decode cX12_summedBy 64 = .ok (.lcmp, 1) := by decide +kernel
theorem dX12_summedBy_65 : decode cX12_summedBy 65 = .ok (.ifCond .ne 25, 3) := by decide +kernel
theorem dX12_summedBy_68 : decode cX12_summedBy 68 = .ok (.aload_n 0, 1) := by decide +kernel
theorem dX12_summedBy_69 : decode cX12_summedBy 69 = .ok (.iload_n 1, 1) := by decide +kernel
theorem dX12_summedBy_70 : decode cX12_summedBy 70 = .ok (.aload_n 0, 1) := by decide +kernel
theorem dX12_summedBy_71 : decode cX12_summedBy 71 = .ok (.getfield 20, 3) := by decide +kernel
theorem dX12_summedBy_74 : decode cX12_summedBy 74 = .ok (.iload_n 3, 1) := by decide +kernel
theorem dX12_summedBy_75 : decode cX12_summedBy 75 = .ok (.iconst 1, 1) := by decide +kernel
theorem dX12_summedBy_76 : decode cX12_summedBy 76 = .ok (.iadd, 1) := by decide +kernel
theorem dX12_summedBy_77 : decode cX12_summedBy 77 = .ok (.iaload, 1) := by decide +kernel
theorem dX12_summedBy_78 : decode cX12_summedBy 78 = .ok (.aload_n 0, 1) := by decide +kernel
theorem dX12_summedBy_79 : decode cX12_summedBy 79 = .ok (.getfield 20, 3) := by decide +kernel
theorem dX12_summedBy_82 : decode cX12_summedBy 82 = .ok (.iload_n 3, 1) := by decide +kernel
theorem dX12_summedBy_83 : decode cX12_summedBy 83 = .ok (.iconst 2, 1) := by decide +kernel
theorem dX12_summedBy_84 : decode cX12_summedBy 84 = .ok (.iadd, 1) := by decide +kernel
theorem dX12_summedBy_85 : decode cX12_summedBy 85 = .ok (.iaload, 1) := by decide +kernel
theorem dX12_summedBy_86 : decode cX12_summedBy 86 = .ok (.invokevirtual 355, 3) := by decide +kernel
theorem dX12_summedBy_89 : decode cX12_summedBy 89 = .ok (.lreturn, 1) := by decide +kernel
theorem dX12_summedBy_90 : decode cX12_summedBy 90 = .ok (.iinc 2 1, 3) := by decide +kernel
theorem dX12_summedBy_93 : decode cX12_summedBy 93 = .ok (.goto (-91), 3) := by decide +kernel
theorem dX12_summedBy_96 : decode cX12_summedBy 96 = .ok (.lconst 0, 1) := by decide +kernel
theorem dX12_summedBy_97 : decode cX12_summedBy 97 = .ok (.lreturn, 1) := by decide +kernel
theorem dX12_passes_0 : decode cX12_passes 0 = .ok (.aload_n 0, 1) := by decide +kernel
theorem dX12_passes_1 : decode cX12_passes 1 = .ok (.getfield 39, 3) := by decide +kernel
theorem dX12_passes_4 : decode cX12_passes 4 = .ok (.bipush 7, 2) := by decide +kernel
theorem dX12_passes_6 : decode cX12_passes 6 = .ok (.iaload, 1) := by decide +kernel
theorem dX12_passes_7 : decode cX12_passes 7 = .ok (.aload_n 0, 1) := by decide +kernel
theorem dX12_passes_8 : decode cX12_passes 8 = .ok (.getfield 39, 3) := by decide +kernel
theorem dX12_passes_11 : decode cX12_passes 11 = .ok (.iconst 2, 1) := by decide +kernel
theorem dX12_passes_12 : decode cX12_passes 12 = .ok (.iaload, 1) := by decide +kernel
theorem dX12_passes_13 : decode cX12_passes 13 = .ok (.irem, 1) := by decide +kernel
theorem dX12_passes_14 : decode cX12_passes 14 = .ok (.istore_n 2, 1) := by decide +kernel
theorem dX12_passes_15 : decode cX12_passes 15 = .ok (.iconst (-1), 1) := by decide +kernel
theorem dX12_passes_16 : decode cX12_passes 16 = .ok (.istore_n 3, 1) := by decide +kernel
theorem dX12_passes_17 : decode cX12_passes 17 = .ok (.lconst 0, 1) := by decide +kernel
theorem dX12_passes_18 : decode cX12_passes 18 = .ok (.lstore 4, 2) := by decide +kernel
theorem dX12_passes_20 : decode cX12_passes 20 = .ok (.iconst 0, 1) := by decide +kernel
theorem dX12_passes_21 : decode cX12_passes 21 = .ok (.istore 6, 2) := by decide +kernel
theorem dX12_passes_23 : decode cX12_passes 23 = .ok (.iload 6, 2) := by decide +kernel
theorem dX12_passes_25 : decode cX12_passes 25 = .ok (.bipush 16, 2) := by decide +kernel
theorem dX12_passes_27 : decode cX12_passes 27 = .ok (.aload_n 0, 1) := by decide +kernel
theorem dX12_passes_28 : decode cX12_passes 28 = .ok (.getfield 39, 3) := by decide +kernel
theorem dX12_passes_31 : decode cX12_passes 31 = .ok (.iconst 2, 1) := by decide +kernel
theorem dX12_passes_32 : decode cX12_passes 32 = .ok (.iaload, 1) := by decide +kernel
theorem dX12_passes_33 : decode cX12_passes 33 = .ok (.imul, 1) := by decide +kernel
theorem dX12_passes_34 : decode cX12_passes 34 = .ok (.if_icmp .ge 83, 3) := by decide +kernel
theorem dX12_passes_37 : decode cX12_passes 37 = .ok (.iload 6, 2) := by decide +kernel
theorem dX12_passes_39 : decode cX12_passes 39 = .ok (.bipush 16, 2) := by decide +kernel
theorem dX12_passes_41 : decode cX12_passes 41 = .ok (.idiv, 1) := by decide +kernel
theorem dX12_passes_42 : decode cX12_passes 42 = .ok (.istore 7, 2) := by decide +kernel
theorem dX12_passes_44 : decode cX12_passes 44 = .ok (.iload 6, 2) := by decide +kernel
theorem dX12_passes_46 : decode cX12_passes 46 = .ok (.iconst 2, 1) := by decide +kernel
theorem dX12_passes_47 : decode cX12_passes 47 = .ok (.idiv, 1) := by decide +kernel
theorem dX12_passes_48 : decode cX12_passes 48 = .ok (.bipush 8, 2) := by decide +kernel
theorem dX12_passes_50 : decode cX12_passes 50 = .ok (.irem, 1) := by decide +kernel
theorem dX12_passes_51 : decode cX12_passes 51 = .ok (.istore 8, 2) := by decide +kernel
theorem dX12_passes_53 : decode cX12_passes 53 = .ok (.aload_n 0, 1) := by decide +kernel
theorem dX12_passes_54 : decode cX12_passes 54 = .ok (.iload_n 2, 1) := by decide +kernel
theorem dX12_passes_55 : decode cX12_passes 55 = .ok (.iload 7, 2) := by decide +kernel
theorem dX12_passes_57 : decode cX12_passes 57 = .ok (.iload 8, 2) := by decide +kernel
theorem dX12_passes_59 : decode cX12_passes 59 = .ok (.iload 6, 2) := by decide +kernel
theorem dX12_passes_61 : decode cX12_passes 61 = .ok (.iconst 2, 1) := by decide +kernel
theorem dX12_passes_62 : decode cX12_passes 62 = .ok (.irem, 1) := by decide +kernel
theorem dX12_passes_63 : decode cX12_passes 63 = .ok (.invokevirtual 370, 3) := by decide +kernel
theorem dX12_passes_66 : decode cX12_passes 66 = .ok (.ifCond .ne 6, 3) := by decide +kernel
theorem dX12_passes_69 : decode cX12_passes 69 = .ok (.goto 42, 3) := by decide +kernel
theorem dX12_passes_72 : decode cX12_passes 72 = .ok (.aload_n 0, 1) := by decide +kernel
theorem dX12_passes_73 : decode cX12_passes 73 = .ok (.iload_n 2, 1) := by decide +kernel
theorem dX12_passes_74 : decode cX12_passes 74 = .ok (.iload 7, 2) := by decide +kernel
theorem dX12_passes_76 : decode cX12_passes 76 = .ok (.iload 8, 2) := by decide +kernel
theorem dX12_passes_78 : decode cX12_passes 78 = .ok (.iload 6, 2) := by decide +kernel
theorem dX12_passes_80 : decode cX12_passes 80 = .ok (.iconst 2, 1) := by decide +kernel
theorem dX12_passes_81 : decode cX12_passes 81 = .ok (.irem, 1) := by decide +kernel
theorem dX12_passes_82 : decode cX12_passes 82 = .ok (.iconst 0, 1) := by decide +kernel
theorem dX12_passes_83 : decode cX12_passes 83 = .ok (.invokevirtual 351, 3) := by decide +kernel
theorem dX12_passes_86 : decode cX12_passes 86 = .ok (.aload_n 0, 1) := by decide +kernel
theorem dX12_passes_87 : decode cX12_passes 87 = .ok (.iload_n 1, 1) := by decide +kernel
theorem dX12_passes_88 : decode cX12_passes 88 = .ok (.invokevirtual 390, 3) := by decide +kernel
theorem dX12_passes_91 : decode cX12_passes 91 = .ok (.lstore 9, 2) := by decide +kernel
theorem dX12_passes_93 : decode cX12_passes 93 = .ok (.lload 9, 2) := by decide +kernel
theorem dX12_passes_95 : decode cX12_passes 95 = .ok (.lload 4, 2) := by decide +kernel
theorem dX12_passes_97 : decode cX12_passes 97 = .ok (.lcmp, 1) := by decide +kernel
theorem dX12_passes_98 : decode cX12_passes 98 = .ok (.ifCond .gt 6, 3) := by decide +kernel
theorem dX12_passes_101 : decode cX12_passes 101 = .ok (.goto 10, 3) := by decide +kernel
theorem dX12_passes_104 : decode cX12_passes 104 = .ok (.iload 6, 2) := by decide +kernel
theorem dX12_passes_106 : decode cX12_passes 106 = .ok (.istore_n 3, 1) := by decide +kernel
theorem dX12_passes_107 : decode cX12_passes 107 = .ok (.lload 9, 2) := by decide +kernel
theorem dX12_passes_109 : decode cX12_passes 109 = .ok (.lstore 4, 2) := by decide +kernel
theorem dX12_passes_111 : decode cX12_passes 111 = .ok (.iinc 6 1, 3) := by decide +kernel
theorem dX12_passes_114 : decode cX12_passes 114 = .ok (.goto (-91), 3) := by decide +kernel
theorem dX12_passes_117 : decode cX12_passes 117 = .ok (.iload_n 3, 1) := by decide +kernel
theorem dX12_passes_118 : decode cX12_passes 118 = .ok (.ifCond .ge 7, 3) := by decide +kernel
theorem dX12_passes_121 : decode cX12_passes 121 = .ok (.iconst 0, 1) := by decide +kernel
theorem dX12_passes_122 : decode cX12_passes 122 = .ok (.goto 22, 3) := by decide +kernel
theorem dX12_passes_125 : decode cX12_passes 125 = .ok (.aload_n 0, 1) := by decide +kernel
theorem dX12_passes_126 : decode cX12_passes 126 = .ok (.iload_n 2, 1) := by decide +kernel
theorem dX12_passes_127 : decode cX12_passes 127 = .ok (.iload_n 3, 1) := by decide +kernel
theorem dX12_passes_128 : decode cX12_passes 128 = .ok (.bipush 16, 2) := by decide +kernel
theorem dX12_passes_130 : decode cX12_passes 130 = .ok (.idiv, 1) := by decide +kernel
theorem dX12_passes_131 : decode cX12_passes 131 = .ok (.iload_n 3, 1) := by decide +kernel
theorem dX12_passes_132 : decode cX12_passes 132 = .ok (.iconst 2, 1) := by decide +kernel
theorem dX12_passes_133 : decode cX12_passes 133 = .ok (.idiv, 1) := by decide +kernel
theorem dX12_passes_134 : decode cX12_passes 134 = .ok (.bipush 8, 2) := by decide +kernel
theorem dX12_passes_136 : decode cX12_passes 136 = .ok (.irem, 1) := by decide +kernel
theorem dX12_passes_137 : decode cX12_passes 137 = .ok (.iload_n 3, 1) := by decide +kernel
theorem dX12_passes_138 : decode cX12_passes 138 = .ok (.iconst 2, 1) := by decide +kernel
theorem dX12_passes_139 : decode cX12_passes 139 = .ok (.irem, 1) := by decide +kernel
theorem dX12_passes_140 : decode cX12_passes 140 = .ok (.iconst 0, 1) := by decide +kernel
theorem dX12_passes_141 : decode cX12_passes 141 = .ok (.invokevirtual 377, 3) := by decide +kernel
theorem dX12_passes_144 : decode cX12_passes 144 = .ok (.istore 6, 2) := by decide +kernel
theorem dX12_passes_146 : decode cX12_passes 146 = .ok (.aload_n 0, 1) := by decide +kernel
theorem dX12_passes_147 : decode cX12_passes 147 = .ok (.getfield 39, 3) := by decide +kernel
theorem dX12_passes_150 : decode cX12_passes 150 = .ok (.bipush 7, 2) := by decide +kernel
theorem dX12_passes_152 : decode cX12_passes 152 = .ok (.iaload, 1) := by decide +kernel
theorem dX12_passes_153 : decode cX12_passes 153 = .ok (.bipush 23, 2) := by decide +kernel
theorem dX12_passes_155 : decode cX12_passes 155 = .ok (.if_icmp .ne 10, 3) := by decide +kernel
theorem dX12_passes_158 : decode cX12_passes 158 = .ok (.aload_n 0, 1) := by decide +kernel
theorem dX12_passes_159 : decode cX12_passes 159 = .ok (.invokevirtual 387, 3) := by decide +kernel
theorem dX12_passes_162 : decode cX12_passes 162 = .ok (.goto 14, 3) := by decide +kernel
theorem dX12_passes_165 : decode cX12_passes 165 = .ok (.aload_n 0, 1) := by decide +kernel
theorem dX12_passes_166 : decode cX12_passes 166 = .ok (.getfield 39, 3) := by decide +kernel
theorem dX12_passes_169 : decode cX12_passes 169 = .ok (.bipush 7, 2) := by decide +kernel
theorem dX12_passes_171 : decode cX12_passes 171 = .ok (.dup2, 1) := by decide +kernel
theorem dX12_passes_172 : decode cX12_passes 172 = .ok (.iaload, 1) := by decide +kernel
theorem dX12_passes_173 : decode cX12_passes 173 = .ok (.iconst 1, 1) := by decide +kernel
theorem dX12_passes_174 : decode cX12_passes 174 = .ok (.iadd, 1) := by decide +kernel
theorem dX12_passes_175 : decode cX12_passes 175 = .ok (.iastore, 1) := by decide +kernel
theorem dX12_passes_176 : decode cX12_passes 176 = .ok (.iload 6, 2) := by decide +kernel
theorem dX12_passes_178 : decode cX12_passes 178 = .ok (.ireturn, 1) := by decide +kernel
theorem dX12_run_0 : decode cX12_run 0 = .ok (.aload_n 0, 1) := by decide +kernel
theorem dX12_run_1 : decode cX12_run 1 = .ok (.getfield 39, 3) := by decide +kernel
theorem dX12_run_4 : decode cX12_run 4 = .ok (.iconst 2, 1) := by decide +kernel
theorem dX12_run_5 : decode cX12_run 5 = .ok (.iaload, 1) := by decide +kernel
theorem dX12_run_6 : decode cX12_run 6 = .ok (.ifCond .eq 49, 3) := by decide +kernel
theorem dX12_run_9 : decode cX12_run 9 = .ok (.aload_n 0, 1) := by decide +kernel
theorem dX12_run_10 : decode cX12_run 10 = .ok (.iload_n 1, 1) := by decide +kernel
theorem dX12_run_11 : decode cX12_run 11 = .ok (.invokevirtual 302, 3) := by decide +kernel
theorem dX12_run_14 : decode cX12_run 14 = .ok (.ifCond .eq 41, 3) := by decide +kernel
theorem dX12_run_17 : decode cX12_run 17 = .ok (.iload_n 2, 1) := by decide +kernel
theorem dX12_run_18 : decode cX12_run 18 = .ok (.i2l, 1) := by decide +kernel
theorem dX12_run_19 : decode cX12_run 19 = .ok (.lconst 1, 1) := by decide +kernel
theorem dX12_run_20 : decode cX12_run 20 = .ok (.ldc2_w 394, 3) := by decide +kernel
theorem dX12_run_23 : decode cX12_run 23 = .ok (.invokestatic 106, 3) := by decide +kernel
theorem dX12_run_26 : decode cX12_run 26 = .ok (.ifCond .eq 29, 3) := by decide +kernel
theorem dX12_run_29 : decode cX12_run 29 = .ok (.aload_n 0, 1) := by decide +kernel
theorem dX12_run_30 : decode cX12_run 30 = .ok (.getfield 39, 3) := by decide +kernel
theorem dX12_run_33 : decode cX12_run 33 = .ok (.bipush 6, 2) := by decide +kernel
theorem dX12_run_35 : decode cX12_run 35 = .ok (.iaload, 1) := by decide +kernel
theorem dX12_run_36 : decode cX12_run 36 = .ok (.aload_n 0, 1) := by decide +kernel
theorem dX12_run_37 : decode cX12_run 37 = .ok (.getfield 39, 3) := by decide +kernel
theorem dX12_run_40 : decode cX12_run 40 = .ok (.bipush 7, 2) := by decide +kernel
theorem dX12_run_42 : decode cX12_run 42 = .ok (.iaload, 1) := by decide +kernel
theorem dX12_run_43 : decode cX12_run 43 = .ok (.iload_n 2, 1) := by decide +kernel
theorem dX12_run_44 : decode cX12_run 44 = .ok (.iadd, 1) := by decide +kernel
theorem dX12_run_45 : decode cX12_run 45 = .ok (.bipush 24, 2) := by decide +kernel
theorem dX12_run_47 : decode cX12_run 47 = .ok (.idiv, 1) := by decide +kernel
theorem dX12_run_48 : decode cX12_run 48 = .ok (.iadd, 1) := by decide +kernel
theorem dX12_run_49 : decode cX12_run 49 = .ok (.sipush 9999, 3) := by decide +kernel
theorem dX12_run_52 : decode cX12_run 52 = .ok (.if_icmp .le 5, 3) := by decide +kernel
theorem dX12_run_55 : decode cX12_run 55 = .ok (.iconst (-1), 1) := by decide +kernel
theorem dX12_run_56 : decode cX12_run 56 = .ok (.ireturn, 1) := by decide +kernel
theorem dX12_run_57 : decode cX12_run 57 = .ok (.aload_n 0, 1) := by decide +kernel
theorem dX12_run_58 : decode cX12_run 58 = .ok (.iconst 0, 1) := by decide +kernel
theorem dX12_run_59 : decode cX12_run 59 = .ok (.putfield 281, 3) := by decide +kernel
theorem dX12_run_62 : decode cX12_run 62 = .ok (.iconst 0, 1) := by decide +kernel
theorem dX12_run_63 : decode cX12_run 63 = .ok (.istore_n 3, 1) := by decide +kernel
theorem dX12_run_64 : decode cX12_run 64 = .ok (.iconst 0, 1) := by decide +kernel
theorem dX12_run_65 : decode cX12_run 65 = .ok (.istore 4, 2) := by decide +kernel
theorem dX12_run_67 : decode cX12_run 67 = .ok (.iload 4, 2) := by decide +kernel
theorem dX12_run_69 : decode cX12_run 69 = .ok (.iload_n 2, 1) := by decide +kernel
theorem dX12_run_70 : decode cX12_run 70 = .ok (.if_icmp .ge 17, 3) := by decide +kernel
theorem dX12_run_73 : decode cX12_run 73 = .ok (.iload_n 3, 1) := by decide +kernel
theorem dX12_run_74 : decode cX12_run 74 = .ok (.aload_n 0, 1) := by decide +kernel
theorem dX12_run_75 : decode cX12_run 75 = .ok (.iload_n 1, 1) := by decide +kernel
theorem dX12_run_76 : decode cX12_run 76 = .ok (.invokevirtual 396, 3) := by decide +kernel
theorem dX12_run_79 : decode cX12_run 79 = .ok (.iadd, 1) := by decide +kernel
theorem dX12_run_80 : decode cX12_run 80 = .ok (.istore_n 3, 1) := by decide +kernel
theorem dX12_run_81 : decode cX12_run 81 = .ok (.iinc 4 1, 3) := by decide +kernel
theorem dX12_run_84 : decode cX12_run 84 = .ok (.goto (-17), 3) := by decide +kernel
theorem dX12_run_87 : decode cX12_run 87 = .ok (.iload_n 3, 1) := by decide +kernel
theorem dX12_run_88 : decode cX12_run 88 = .ok (.ireturn, 1) := by decide +kernel
theorem dX12_breach_0 : decode cX12_breach 0 = .ok (.aload_n 0, 1) := by decide +kernel
theorem dX12_breach_1 : decode cX12_breach 1 = .ok (.invokevirtual 384, 3) := by decide +kernel
theorem dX12_breach_4 : decode cX12_breach 4 = .ok (.ifCond .eq 13, 3) := by decide +kernel
theorem dX12_breach_7 : decode cX12_breach 7 = .ok (.iload_n 1, 1) := by decide +kernel
theorem dX12_breach_8 : decode cX12_breach 8 = .ok (.i2l, 1) := by decide +kernel
theorem dX12_breach_9 : decode cX12_breach 9 = .ok (.lconst 0, 1) := by decide +kernel
theorem dX12_breach_10 : decode cX12_breach 10 = .ok (.lconst 1, 1) := by decide +kernel
theorem dX12_breach_11 : decode cX12_breach 11 = .ok (.invokestatic 106, 3) := by decide +kernel
theorem dX12_breach_14 : decode cX12_breach 14 = .ok (.ifCond .ne 5, 3) := by decide +kernel
theorem dX12_breach_17 : decode cX12_breach 17 = .ok (.iconst (-1), 1) := by decide +kernel
theorem dX12_breach_18 : decode cX12_breach 18 = .ok (.ireturn, 1) := by decide +kernel
theorem dX12_breach_19 : decode cX12_breach 19 = .ok (.aload_n 0, 1) := by decide +kernel
theorem dX12_breach_20 : decode cX12_breach 20 = .ok (.getfield 39, 3) := by decide +kernel
theorem dX12_breach_23 : decode cX12_breach 23 = .ok (.bipush 9, 2) := by decide +kernel
theorem dX12_breach_25 : decode cX12_breach 25 = .ok (.iaload, 1) := by decide +kernel
theorem dX12_breach_26 : decode cX12_breach 26 = .ok (.ifCond .ge 8, 3) := by decide +kernel
theorem dX12_breach_29 : decode cX12_breach 29 = .ok (.bipush (-2), 2) := by decide +kernel
theorem dX12_breach_31 : decode cX12_breach 31 = .ok (.goto 12, 3) := by decide +kernel
theorem dX12_breach_34 : decode cX12_breach 34 = .ok (.aload_n 0, 1) := by decide +kernel
theorem dX12_breach_35 : decode cX12_breach 35 = .ok (.getfield 39, 3) := by decide +kernel
theorem dX12_breach_38 : decode cX12_breach 38 = .ok (.bipush 8, 2) := by decide +kernel
theorem dX12_breach_40 : decode cX12_breach 40 = .ok (.iload_n 1, 1) := by decide +kernel
theorem dX12_breach_41 : decode cX12_breach 41 = .ok (.iadd, 1) := by decide +kernel
theorem dX12_breach_42 : decode cX12_breach 42 = .ok (.iaload, 1) := by decide +kernel
theorem dX12_breach_43 : decode cX12_breach 43 = .ok (.ireturn, 1) := by decide +kernel
theorem dX12_areTold_0 : decode cX12_areTold 0 = .ok (.iconst 0, 1) := by decide +kernel
theorem dX12_areTold_1 : decode cX12_areTold 1 = .ok (.istore_n 2, 1) := by decide +kernel
theorem dX12_areTold_2 : decode cX12_areTold 2 = .ok (.iload_n 2, 1) := by decide +kernel
theorem dX12_areTold_3 : decode cX12_areTold 3 = .ok (.aload_n 0, 1) := by decide +kernel
theorem dX12_areTold_4 : decode cX12_areTold 4 = .ok (.getfield 39, 3) := by decide +kernel
theorem dX12_areTold_7 : decode cX12_areTold 7 = .ok (.iconst 2, 1) := by decide +kernel
theorem dX12_areTold_8 : decode cX12_areTold 8 = .ok (.iaload, 1) := by decide +kernel
theorem dX12_areTold_9 : decode cX12_areTold 9 = .ok (.if_icmp .ge 21, 3) := by decide +kernel
theorem dX12_areTold_12 : decode cX12_areTold 12 = .ok (.aload_n 0, 1) := by decide +kernel
theorem dX12_areTold_13 : decode cX12_areTold 13 = .ok (.iload_n 2, 1) := by decide +kernel
theorem dX12_areTold_14 : decode cX12_areTold 14 = .ok (.invokevirtual 336, 3) := by decide +kernel
theorem dX12_areTold_17 : decode cX12_areTold 17 = .ok (.iload_n 1, 1) := by decide +kernel
theorem dX12_areTold_18 : decode cX12_areTold 18 = .ok (.iand, 1) := by decide +kernel
theorem dX12_areTold_19 : decode cX12_areTold 19 = .ok (.ifCond .ne 5, 3) := by decide +kernel
theorem dX12_areTold_22 : decode cX12_areTold 22 = .ok (.iconst 0, 1) := by decide +kernel
theorem dX12_areTold_23 : decode cX12_areTold 23 = .ok (.ireturn, 1) := by decide +kernel
theorem dX12_areTold_24 : decode cX12_areTold 24 = .ok (.iinc 2 1, 3) := by decide +kernel
theorem dX12_areTold_27 : decode cX12_areTold 27 = .ok (.goto (-25), 3) := by decide +kernel
theorem dX12_areTold_30 : decode cX12_areTold 30 = .ok (.iconst 1, 1) := by decide +kernel
theorem dX12_areTold_31 : decode cX12_areTold 31 = .ok (.ireturn, 1) := by decide +kernel
theorem dX12_tellers_0 : decode cX12_tellers 0 = .ok (.aload_n 0, 1) := by decide +kernel
theorem dX12_tellers_1 : decode cX12_tellers 1 = .ok (.invokevirtual 384, 3) := by decide +kernel
theorem dX12_tellers_4 : decode cX12_tellers 4 = .ok (.ifCond .eq 13, 3) := by decide +kernel
theorem dX12_tellers_7 : decode cX12_tellers 7 = .ok (.iload_n 1, 1) := by decide +kernel
theorem dX12_tellers_8 : decode cX12_tellers 8 = .ok (.i2l, 1) := by decide +kernel
theorem dX12_tellers_9 : decode cX12_tellers 9 = .ok (.lconst 0, 1) := by decide +kernel
theorem dX12_tellers_10 : decode cX12_tellers 10 = .ok (.lconst 1, 1) := by decide +kernel
theorem dX12_tellers_11 : decode cX12_tellers 11 = .ok (.invokestatic 106, 3) := by decide +kernel
theorem dX12_tellers_14 : decode cX12_tellers 14 = .ok (.ifCond .ne 5, 3) := by decide +kernel
theorem dX12_tellers_17 : decode cX12_tellers 17 = .ok (.iconst (-1), 1) := by decide +kernel
theorem dX12_tellers_18 : decode cX12_tellers 18 = .ok (.ireturn, 1) := by decide +kernel
theorem dX12_tellers_19 : decode cX12_tellers 19 = .ok (.bipush (-2), 2) := by decide +kernel
theorem dX12_tellers_21 : decode cX12_tellers 21 = .ok (.istore_n 2, 1) := by decide +kernel
theorem dX12_tellers_22 : decode cX12_tellers 22 = .ok (.iconst 0, 1) := by decide +kernel
theorem dX12_tellers_23 : decode cX12_tellers 23 = .ok (.istore_n 3, 1) := by decide +kernel
theorem dX12_tellers_24 : decode cX12_tellers 24 = .ok (.iload_n 3, 1) := by decide +kernel
theorem dX12_tellers_25 : decode cX12_tellers 25 = .ok (.iconst 1, 1) := by decide +kernel
theorem dX12_tellers_26 : decode cX12_tellers 26 = .ok (.aload_n 0, 1) := by decide +kernel
theorem dX12_tellers_27 : decode cX12_tellers 27 = .ok (.getfield 39, 3) := by decide +kernel
theorem dX12_tellers_30 : decode cX12_tellers 30 = .ok (.iconst 2, 1) := by decide +kernel
theorem dX12_tellers_31 : decode cX12_tellers 31 = .ok (.iaload, 1) := by decide +kernel
theorem dX12_tellers_32 : decode cX12_tellers 32 = .ok (.ishl, 1) := by decide +kernel
theorem dX12_tellers_33 : decode cX12_tellers 33 = .ok (.if_icmp .ge 34, 3) := by decide +kernel
theorem dX12_tellers_36 : decode cX12_tellers 36 = .ok (.iload_n 2, 1) := by decide +kernel
theorem dX12_tellers_37 : decode cX12_tellers 37 = .ok (.ifCond .lt 14, 3) := by decide +kernel
theorem dX12_tellers_40 : decode cX12_tellers 40 = .ok (.iload_n 3, 1) := by decide +kernel
theorem dX12_tellers_41 : decode cX12_tellers 41 = .ok (.invokestatic 399, 3) := by decide +kernel
theorem dX12_tellers_44 : decode cX12_tellers 44 = .ok (.iload_n 2, 1) := by decide +kernel
theorem dX12_tellers_45 : decode cX12_tellers 45 = .ok (.invokestatic 399, 3) := by decide +kernel
theorem dX12_tellers_48 : decode cX12_tellers 48 = .ok (.if_icmp .ge 13, 3) := by decide +kernel
theorem dX12_tellers_51 : decode cX12_tellers 51 = .ok (.aload_n 0, 1) := by decide +kernel
theorem dX12_tellers_52 : decode cX12_tellers 52 = .ok (.iload_n 3, 1) := by decide +kernel
theorem dX12_tellers_53 : decode cX12_tellers 53 = .ok (.invokevirtual 402, 3) := by decide +kernel
theorem dX12_tellers_56 : decode cX12_tellers 56 = .ok (.ifCond .eq 5, 3) := by decide +kernel
theorem dX12_tellers_59 : decode cX12_tellers 59 = .ok (.iload_n 3, 1) := by decide +kernel
theorem dX12_tellers_60 : decode cX12_tellers 60 = .ok (.istore_n 2, 1) := by decide +kernel
theorem dX12_tellers_61 : decode cX12_tellers 61 = .ok (.iinc 3 1, 3) := by decide +kernel
theorem dX12_tellers_64 : decode cX12_tellers 64 = .ok (.goto (-40), 3) := by decide +kernel
theorem dX12_tellers_67 : decode cX12_tellers 67 = .ok (.iload_n 2, 1) := by decide +kernel
theorem dX12_tellers_68 : decode cX12_tellers 68 = .ok (.ifCond .ge 8, 3) := by decide +kernel
theorem dX12_tellers_71 : decode cX12_tellers 71 = .ok (.bipush (-2), 2) := by decide +kernel
theorem dX12_tellers_73 : decode cX12_tellers 73 = .ok (.goto 15, 3) := by decide +kernel
theorem dX12_tellers_76 : decode cX12_tellers 76 = .ok (.iload_n 1, 1) := by decide +kernel
theorem dX12_tellers_77 : decode cX12_tellers 77 = .ok (.ifCond .ne 10, 3) := by decide +kernel
theorem dX12_tellers_80 : decode cX12_tellers 80 = .ok (.iload_n 2, 1) := by decide +kernel
theorem dX12_tellers_81 : decode cX12_tellers 81 = .ok (.invokestatic 399, 3) := by decide +kernel
theorem dX12_tellers_84 : decode cX12_tellers 84 = .ok (.goto 4, 3) := by decide +kernel
theorem dX12_tellers_87 : decode cX12_tellers 87 = .ok (.iload_n 2, 1) := by decide +kernel
theorem dX12_tellers_88 : decode cX12_tellers 88 = .ok (.ireturn, 1) := by decide +kernel
theorem dX12_harmBehind_0 : decode cX12_harmBehind 0 = .ok (.aload_n 0, 1) := by decide +kernel
theorem dX12_harmBehind_1 : decode cX12_harmBehind 1 = .ok (.iload_n 2, 1) := by decide +kernel
theorem dX12_harmBehind_2 : decode cX12_harmBehind 2 = .ok (.iload_n 3, 1) := by decide +kernel
theorem dX12_harmBehind_3 : decode cX12_harmBehind 3 = .ok (.invokevirtual 305, 3) := by decide +kernel
theorem dX12_harmBehind_6 : decode cX12_harmBehind 6 = .ok (.istore 4, 2) := by decide +kernel
theorem dX12_harmBehind_8 : decode cX12_harmBehind 8 = .ok (.aload_n 0, 1) := by decide +kernel
theorem dX12_harmBehind_9 : decode cX12_harmBehind 9 = .ok (.iload_n 2, 1) := by decide +kernel
theorem dX12_harmBehind_10 : decode cX12_harmBehind 10 = .ok (.iload_n 3, 1) := by decide +kernel
theorem dX12_harmBehind_11 : decode cX12_harmBehind 11 = .ok (.invokevirtual 325, 3) := by decide +kernel
theorem dX12_harmBehind_14 : decode cX12_harmBehind 14 = .ok (.istore 5, 2) := by decide +kernel
theorem dX12_harmBehind_16 : decode cX12_harmBehind 16 = .ok (.aload_n 0, 1) := by decide +kernel
theorem dX12_harmBehind_17 : decode cX12_harmBehind 17 = .ok (.iload_n 1, 1) := by decide +kernel
theorem dX12_harmBehind_18 : decode cX12_harmBehind 18 = .ok (.iload_n 2, 1) := by decide +kernel
theorem dX12_harmBehind_19 : decode cX12_harmBehind 19 = .ok (.iload_n 3, 1) := by decide +kernel
theorem dX12_harmBehind_20 : decode cX12_harmBehind 20 = .ok (.iconst 1, 1) := by decide +kernel
theorem dX12_harmBehind_21 : decode cX12_harmBehind 21 = .ok (.aload_n 0, 1) := by decide +kernel
theorem dX12_harmBehind_22 : decode cX12_harmBehind 22 = .ok (.iload_n 3, 1) := by decide +kernel
theorem dX12_harmBehind_23 : decode cX12_harmBehind 23 = .ok (.invokevirtual 342, 3) := by decide +kernel
theorem dX12_harmBehind_26 : decode cX12_harmBehind 26 = .ok (.isub, 1) := by decide +kernel
theorem dX12_harmBehind_27 : decode cX12_harmBehind 27 = .ok (.invokevirtual 367, 3) := by decide +kernel
theorem dX12_harmBehind_30 : decode cX12_harmBehind 30 = .ok (.aload_n 0, 1) := by decide +kernel
theorem dX12_harmBehind_31 : decode cX12_harmBehind 31 = .ok (.iload_n 2, 1) := by decide +kernel
theorem dX12_harmBehind_32 : decode cX12_harmBehind 32 = .ok (.invokevirtual 405, 3) := by decide +kernel
theorem dX12_harmBehind_35 : decode cX12_harmBehind 35 = .ok (.istore 6, 2) := by decide +kernel
theorem dX12_harmBehind_37 : decode cX12_harmBehind 37 = .ok (.aload_n 0, 1) := by decide +kernel
theorem dX12_harmBehind_38 : decode cX12_harmBehind 38 = .ok (.iload_n 2, 1) := by decide +kernel
theorem dX12_harmBehind_39 : decode cX12_harmBehind 39 = .ok (.iload_n 3, 1) := by decide +kernel
theorem dX12_harmBehind_40 : decode cX12_harmBehind 40 = .ok (.iload 4, 2) := by decide +kernel
theorem dX12_harmBehind_42 : decode cX12_harmBehind 42 = .ok (.iload 5, 2) := by decide +kernel
theorem dX12_harmBehind_44 : decode cX12_harmBehind 44 = .ok (.invokevirtual 359, 3) := by decide +kernel
theorem dX12_harmBehind_47 : decode cX12_harmBehind 47 = .ok (.iload 6, 2) := by decide +kernel
theorem dX12_harmBehind_49 : decode cX12_harmBehind 49 = .ok (.ireturn, 1) := by decide +kernel
theorem dX12_leastFact_0 : decode cX12_leastFact 0 = .ok (.iconst 0, 1) := by decide +kernel
theorem dX12_leastFact_1 : decode cX12_leastFact 1 = .ok (.istore_n 3, 1) := by decide +kernel
theorem dX12_leastFact_2 : decode cX12_leastFact 2 = .ok (.iconst 1, 1) := by decide +kernel
theorem dX12_leastFact_3 : decode cX12_leastFact 3 = .ok (.istore 4, 2) := by decide +kernel
theorem dX12_leastFact_5 : decode cX12_leastFact 5 = .ok (.iload 4, 2) := by decide +kernel
theorem dX12_leastFact_7 : decode cX12_leastFact 7 = .ok (.aload_n 0, 1) := by decide +kernel
theorem dX12_leastFact_8 : decode cX12_leastFact 8 = .ok (.getfield 39, 3) := by decide +kernel
theorem dX12_leastFact_11 : decode cX12_leastFact 11 = .ok (.iconst 0, 1) := by decide +kernel
theorem dX12_leastFact_12 : decode cX12_leastFact 12 = .ok (.iaload, 1) := by decide +kernel
theorem dX12_leastFact_13 : decode cX12_leastFact 13 = .ok (.if_icmp .ge 30, 3) := by decide +kernel
theorem dX12_leastFact_16 : decode cX12_leastFact 16 = .ok (.aload_n 0, 1) := by decide +kernel
theorem dX12_leastFact_17 : decode cX12_leastFact 17 = .ok (.iload_n 1, 1) := by decide +kernel
theorem dX12_leastFact_18 : decode cX12_leastFact 18 = .ok (.iload_n 2, 1) := by decide +kernel
theorem dX12_leastFact_19 : decode cX12_leastFact 19 = .ok (.iload 4, 2) := by decide +kernel
theorem dX12_leastFact_21 : decode cX12_leastFact 21 = .ok (.invokevirtual 408, 3) := by decide +kernel
theorem dX12_leastFact_24 : decode cX12_leastFact 24 = .ok (.aload_n 0, 1) := by decide +kernel
theorem dX12_leastFact_25 : decode cX12_leastFact 25 = .ok (.iload_n 1, 1) := by decide +kernel
theorem dX12_leastFact_26 : decode cX12_leastFact 26 = .ok (.iload_n 2, 1) := by decide +kernel
theorem dX12_leastFact_27 : decode cX12_leastFact 27 = .ok (.iload_n 3, 1) := by decide +kernel
theorem dX12_leastFact_28 : decode cX12_leastFact 28 = .ok (.invokevirtual 408, 3) := by decide +kernel
theorem dX12_leastFact_31 : decode cX12_leastFact 31 = .ok (.if_icmp .ge 6, 3) := by decide +kernel
theorem dX12_leastFact_34 : decode cX12_leastFact 34 = .ok (.iload 4, 2) := by decide +kernel
theorem dX12_leastFact_36 : decode cX12_leastFact 36 = .ok (.istore_n 3, 1) := by decide +kernel
theorem dX12_leastFact_37 : decode cX12_leastFact 37 = .ok (.iinc 4 1, 3) := by decide +kernel
theorem dX12_leastFact_40 : decode cX12_leastFact 40 = .ok (.goto (-35), 3) := by decide +kernel
theorem dX12_leastFact_43 : decode cX12_leastFact 43 = .ok (.iload_n 3, 1) := by decide +kernel
theorem dX12_leastFact_44 : decode cX12_leastFact 44 = .ok (.ireturn, 1) := by decide +kernel
theorem dX12_leastLie_0 : decode cX12_leastLie 0 = .ok (.aload_n 0, 1) := by decide +kernel
theorem dX12_leastLie_1 : decode cX12_leastLie 1 = .ok (.iload_n 1, 1) := by decide +kernel
theorem dX12_leastLie_2 : decode cX12_leastLie 2 = .ok (.iload_n 2, 1) := by decide +kernel
theorem dX12_leastLie_3 : decode cX12_leastLie 3 = .ok (.iconst 0, 1) := by decide +kernel
theorem dX12_leastLie_4 : decode cX12_leastLie 4 = .ok (.iconst 0, 1) := by decide +kernel
theorem dX12_leastLie_5 : decode cX12_leastLie 5 = .ok (.invokevirtual 370, 3) := by decide +kernel
theorem dX12_leastLie_8 : decode cX12_leastLie 8 = .ok (.ifCond .eq 13, 3) := by decide +kernel
theorem dX12_leastLie_11 : decode cX12_leastLie 11 = .ok (.iload_n 3, 1) := by decide +kernel
theorem dX12_leastLie_12 : decode cX12_leastLie 12 = .ok (.i2l, 1) := by decide +kernel
theorem dX12_leastLie_13 : decode cX12_leastLie 13 = .ok (.lconst 0, 1) := by decide +kernel
theorem dX12_leastLie_14 : decode cX12_leastLie 14 = .ok (.lconst 1, 1) := by decide +kernel
theorem dX12_leastLie_15 : decode cX12_leastLie 15 = .ok (.invokestatic 106, 3) := by decide +kernel
theorem dX12_leastLie_18 : decode cX12_leastLie 18 = .ok (.ifCond .ne 5, 3) := by decide +kernel
theorem dX12_leastLie_21 : decode cX12_leastLie 21 = .ok (.iconst (-1), 1) := by decide +kernel
theorem dX12_leastLie_22 : decode cX12_leastLie 22 = .ok (.ireturn, 1) := by decide +kernel
theorem dX12_leastLie_23 : decode cX12_leastLie 23 = .ok (.aload_n 0, 1) := by decide +kernel
theorem dX12_leastLie_24 : decode cX12_leastLie 24 = .ok (.iload_n 1, 1) := by decide +kernel
theorem dX12_leastLie_25 : decode cX12_leastLie 25 = .ok (.iload_n 2, 1) := by decide +kernel
theorem dX12_leastLie_26 : decode cX12_leastLie 26 = .ok (.invokevirtual 412, 3) := by decide +kernel
theorem dX12_leastLie_29 : decode cX12_leastLie 29 = .ok (.istore 4, 2) := by decide +kernel
theorem dX12_leastLie_31 : decode cX12_leastLie 31 = .ok (.iload_n 3, 1) := by decide +kernel
theorem dX12_leastLie_32 : decode cX12_leastLie 32 = .ok (.ifCond .ne 8, 3) := by decide +kernel
theorem dX12_leastLie_35 : decode cX12_leastLie 35 = .ok (.iload 4, 2) := by decide +kernel
theorem dX12_leastLie_37 : decode cX12_leastLie 37 = .ok (.goto 11, 3) := by decide +kernel
theorem dX12_leastLie_40 : decode cX12_leastLie 40 = .ok (.aload_n 0, 1) := by decide +kernel
theorem dX12_leastLie_41 : decode cX12_leastLie 41 = .ok (.iload_n 1, 1) := by decide +kernel
theorem dX12_leastLie_42 : decode cX12_leastLie 42 = .ok (.iload_n 2, 1) := by decide +kernel
theorem dX12_leastLie_43 : decode cX12_leastLie 43 = .ok (.iload 4, 2) := by decide +kernel
theorem dX12_leastLie_45 : decode cX12_leastLie 45 = .ok (.invokevirtual 408, 3) := by decide +kernel
theorem dX12_leastLie_48 : decode cX12_leastLie 48 = .ok (.ireturn, 1) := by decide +kernel
theorem dX12_evening_0 : decode cX12_evening 0 = .ok (.aload_n 0, 1) := by decide +kernel
theorem dX12_evening_1 : decode cX12_evening 1 = .ok (.invokevirtual 384, 3) := by decide +kernel
theorem dX12_evening_4 : decode cX12_evening 4 = .ok (.ifCond .ne 5, 3) := by decide +kernel
theorem dX12_evening_7 : decode cX12_evening 7 = .ok (.iconst (-1), 1) := by decide +kernel
theorem dX12_evening_8 : decode cX12_evening 8 = .ok (.ireturn, 1) := by decide +kernel
theorem dX12_evening_9 : decode cX12_evening 9 = .ok (.iconst 0, 1) := by decide +kernel
theorem dX12_evening_10 : decode cX12_evening 10 = .ok (.istore_n 1, 1) := by decide +kernel
theorem dX12_evening_11 : decode cX12_evening 11 = .ok (.iconst 0, 1) := by decide +kernel
theorem dX12_evening_12 : decode cX12_evening 12 = .ok (.istore_n 2, 1) := by decide +kernel
theorem dX12_evening_13 : decode cX12_evening 13 = .ok (.iload_n 2, 1) := by decide +kernel
theorem dX12_evening_14 : decode cX12_evening 14 = .ok (.aload_n 0, 1) := by decide +kernel
theorem dX12_evening_15 : decode cX12_evening 15 = .ok (.getfield 39, 3) := by decide +kernel
theorem dX12_evening_18 : decode cX12_evening 18 = .ok (.iconst 2, 1) := by decide +kernel
theorem dX12_evening_19 : decode cX12_evening 19 = .ok (.iaload, 1) := by decide +kernel
theorem dX12_evening_20 : decode cX12_evening 20 = .ok (.if_icmp .ge 107, 3) := by decide +kernel
theorem dX12_evening_23 : decode cX12_evening 23 = .ok (.iconst (-1), 1) := by decide +kernel
theorem dX12_evening_24 : decode cX12_evening 24 = .ok (.istore_n 3, 1) := by decide +kernel
theorem dX12_evening_25 : decode cX12_evening 25 = .ok (.iconst 0, 1) := by decide +kernel
theorem dX12_evening_26 : decode cX12_evening 26 = .ok (.istore 4, 2) := by decide +kernel
theorem dX12_evening_28 : decode cX12_evening 28 = .ok (.iload 4, 2) := by decide +kernel
theorem dX12_evening_30 : decode cX12_evening 30 = .ok (.aload_n 0, 1) := by decide +kernel
theorem dX12_evening_31 : decode cX12_evening 31 = .ok (.getfield 39, 3) := by decide +kernel
theorem dX12_evening_34 : decode cX12_evening 34 = .ok (.iconst 2, 1) := by decide +kernel
theorem dX12_evening_35 : decode cX12_evening 35 = .ok (.iaload, 1) := by decide +kernel
theorem dX12_evening_36 : decode cX12_evening 36 = .ok (.if_icmp .ge 69, 3) := by decide +kernel
theorem dX12_evening_39 : decode cX12_evening 39 = .ok (.aload_n 0, 1) := by decide +kernel
theorem dX12_evening_40 : decode cX12_evening 40 = .ok (.getfield 39, 3) := by decide +kernel
theorem dX12_evening_43 : decode cX12_evening 43 = .ok (.bipush 123, 2) := by decide +kernel
theorem dX12_evening_45 : decode cX12_evening 45 = .ok (.iload_n 2, 1) := by decide +kernel
theorem dX12_evening_46 : decode cX12_evening 46 = .ok (.iadd, 1) := by decide +kernel
theorem dX12_evening_47 : decode cX12_evening 47 = .ok (.iaload, 1) := by decide +kernel
theorem dX12_evening_48 : decode cX12_evening 48 = .ok (.ifCond .gt 51, 3) := by decide +kernel
theorem dX12_evening_51 : decode cX12_evening 51 = .ok (.aload_n 0, 1) := by decide +kernel
theorem dX12_evening_52 : decode cX12_evening 52 = .ok (.iload 4, 2) := by decide +kernel
theorem dX12_evening_54 : decode cX12_evening 54 = .ok (.iload_n 2, 1) := by decide +kernel
theorem dX12_evening_55 : decode cX12_evening 55 = .ok (.iconst 0, 1) := by decide +kernel
theorem dX12_evening_56 : decode cX12_evening 56 = .ok (.iconst 0, 1) := by decide +kernel
theorem dX12_evening_57 : decode cX12_evening 57 = .ok (.invokevirtual 370, 3) := by decide +kernel
theorem dX12_evening_60 : decode cX12_evening 60 = .ok (.ifCond .ne 6, 3) := by decide +kernel
theorem dX12_evening_63 : decode cX12_evening 63 = .ok (.goto 36, 3) := by decide +kernel
theorem dX12_evening_66 : decode cX12_evening 66 = .ok (.aload_n 0, 1) := by decide +kernel
theorem dX12_evening_67 : decode cX12_evening 67 = .ok (.iload 4, 2) := by decide +kernel
theorem dX12_evening_69 : decode cX12_evening 69 = .ok (.iload_n 2, 1) := by decide +kernel
theorem dX12_evening_70 : decode cX12_evening 70 = .ok (.aload_n 0, 1) := by decide +kernel
theorem dX12_evening_71 : decode cX12_evening 71 = .ok (.iload 4, 2) := by decide +kernel
theorem dX12_evening_73 : decode cX12_evening 73 = .ok (.iload_n 2, 1) := by decide +kernel
theorem dX12_evening_74 : decode cX12_evening 74 = .ok (.invokevirtual 412, 3) := by decide +kernel
theorem dX12_evening_77 : decode cX12_evening 77 = .ok (.invokevirtual 408, 3) := by decide +kernel
theorem dX12_evening_80 : decode cX12_evening 80 = .ok (.istore 5, 2) := by decide +kernel
theorem dX12_evening_82 : decode cX12_evening 82 = .ok (.iload_n 3, 1) := by decide +kernel
theorem dX12_evening_83 : decode cX12_evening 83 = .ok (.ifCond .lt 9, 3) := by decide +kernel
theorem dX12_evening_86 : decode cX12_evening 86 = .ok (.iload 5, 2) := by decide +kernel
theorem dX12_evening_88 : decode cX12_evening 88 = .ok (.iload_n 3, 1) := by decide +kernel
theorem dX12_evening_89 : decode cX12_evening 89 = .ok (.if_icmp .ge 8, 3) := by decide +kernel
theorem dX12_evening_92 : decode cX12_evening 92 = .ok (.iload 5, 2) := by decide +kernel
theorem dX12_evening_94 : decode cX12_evening 94 = .ok (.goto 4, 3) := by decide +kernel
theorem dX12_evening_97 : decode cX12_evening 97 = .ok (.iload_n 3, 1) := by decide +kernel
theorem dX12_evening_98 : decode cX12_evening 98 = .ok (.istore_n 3, 1) := by decide +kernel
theorem dX12_evening_99 : decode cX12_evening 99 = .ok (.iinc 4 1, 3) := by decide +kernel
theorem dX12_evening_102 : decode cX12_evening 102 = .ok (.goto (-74), 3) := by decide +kernel
theorem dX12_evening_105 : decode cX12_evening 105 = .ok (.iload_n 1, 1) := by decide +kernel
theorem dX12_evening_106 : decode cX12_evening 106 = .ok (.iload_n 3, 1) := by decide +kernel
theorem dX12_evening_107 : decode cX12_evening 107 = .ok (.ifCond .ge 11, 3) := by decide +kernel
theorem dX12_evening_110 : decode cX12_evening 110 = .ok (.aload_n 0, 1) := by decide +kernel
theorem dX12_evening_111 : decode cX12_evening 111 = .ok (.iload_n 2, 1) := by decide +kernel
theorem dX12_evening_112 : decode cX12_evening 112 = .ok (.invokevirtual 405, 3) := by decide +kernel
theorem dX12_evening_115 : decode cX12_evening 115 = .ok (.goto 4, 3) := by decide +kernel
theorem dX12_evening_118 : decode cX12_evening 118 = .ok (.iload_n 3, 1) := by decide +kernel
theorem dX12_evening_119 : decode cX12_evening 119 = .ok (.iadd, 1) := by decide +kernel
theorem dX12_evening_120 : decode cX12_evening 120 = .ok (.istore_n 1, 1) := by decide +kernel
theorem dX12_evening_121 : decode cX12_evening 121 = .ok (.iinc 2 1, 3) := by decide +kernel
theorem dX12_evening_124 : decode cX12_evening 124 = .ok (.goto (-111), 3) := by decide +kernel
theorem dX12_evening_127 : decode cX12_evening 127 = .ok (.iload_n 1, 1) := by decide +kernel
theorem dX12_evening_128 : decode cX12_evening 128 = .ok (.ireturn, 1) := by decide +kernel
theorem dX12_stepped_0 : decode cX12_stepped 0 = .ok (.iload_n 1, 1) := by decide +kernel
theorem dX12_stepped_1 : decode cX12_stepped 1 = .ok (.istore_n 3, 1) := by decide +kernel
theorem dX12_stepped_2 : decode cX12_stepped 2 = .ok (.iconst 0, 1) := by decide +kernel
theorem dX12_stepped_3 : decode cX12_stepped 3 = .ok (.istore 4, 2) := by decide +kernel
theorem dX12_stepped_5 : decode cX12_stepped 5 = .ok (.iload 4, 2) := by decide +kernel
theorem dX12_stepped_7 : decode cX12_stepped 7 = .ok (.aload_n 0, 1) := by decide +kernel
theorem dX12_stepped_8 : decode cX12_stepped 8 = .ok (.getfield 39, 3) := by decide +kernel
theorem dX12_stepped_11 : decode cX12_stepped 11 = .ok (.iconst 3, 1) := by decide +kernel
theorem dX12_stepped_12 : decode cX12_stepped 12 = .ok (.iaload, 1) := by decide +kernel
theorem dX12_stepped_13 : decode cX12_stepped 13 = .ok (.if_icmp .ge 93, 3) := by decide +kernel
theorem dX12_stepped_16 : decode cX12_stepped 16 = .ok (.iload_n 2, 1) := by decide +kernel
theorem dX12_stepped_17 : decode cX12_stepped 17 = .ok (.iload 4, 2) := by decide +kernel
theorem dX12_stepped_19 : decode cX12_stepped 19 = .ok (.invokestatic 214, 3) := by decide +kernel
theorem dX12_stepped_22 : decode cX12_stepped 22 = .ok (.ifCond .eq 6, 3) := by decide +kernel
theorem dX12_stepped_25 : decode cX12_stepped 25 = .ok (.goto 75, 3) := by decide +kernel
theorem dX12_stepped_28 : decode cX12_stepped 28 = .ok (.aload_n 0, 1) := by decide +kernel
theorem dX12_stepped_29 : decode cX12_stepped 29 = .ok (.getfield 39, 3) := by decide +kernel
theorem dX12_stepped_32 : decode cX12_stepped 32 = .ok (.sipush 179, 3) := by decide +kernel
theorem dX12_stepped_35 : decode cX12_stepped 35 = .ok (.iconst 2, 1) := by decide +kernel
theorem dX12_stepped_36 : decode cX12_stepped 36 = .ok (.iload 4, 2) := by decide +kernel
theorem dX12_stepped_38 : decode cX12_stepped 38 = .ok (.imul, 1) := by decide +kernel
theorem dX12_stepped_39 : decode cX12_stepped 39 = .ok (.iadd, 1) := by decide +kernel
theorem dX12_stepped_40 : decode cX12_stepped 40 = .ok (.iaload, 1) := by decide +kernel
theorem dX12_stepped_41 : decode cX12_stepped 41 = .ok (.istore 5, 2) := by decide +kernel
theorem dX12_stepped_43 : decode cX12_stepped 43 = .ok (.aload_n 0, 1) := by decide +kernel
theorem dX12_stepped_44 : decode cX12_stepped 44 = .ok (.getfield 39, 3) := by decide +kernel
theorem dX12_stepped_47 : decode cX12_stepped 47 = .ok (.sipush 179, 3) := by decide +kernel
theorem dX12_stepped_50 : decode cX12_stepped 50 = .ok (.iconst 2, 1) := by decide +kernel
theorem dX12_stepped_51 : decode cX12_stepped 51 = .ok (.iload 4, 2) := by decide +kernel
theorem dX12_stepped_53 : decode cX12_stepped 53 = .ok (.imul, 1) := by decide +kernel
theorem dX12_stepped_54 : decode cX12_stepped 54 = .ok (.iadd, 1) := by decide +kernel
theorem dX12_stepped_55 : decode cX12_stepped 55 = .ok (.iconst 1, 1) := by decide +kernel
theorem dX12_stepped_56 : decode cX12_stepped 56 = .ok (.iadd, 1) := by decide +kernel
theorem dX12_stepped_57 : decode cX12_stepped 57 = .ok (.iaload, 1) := by decide +kernel
theorem dX12_stepped_58 : decode cX12_stepped 58 = .ok (.istore 6, 2) := by decide +kernel
theorem dX12_stepped_60 : decode cX12_stepped 60 = .ok (.iload_n 3, 1) := by decide +kernel
theorem dX12_stepped_61 : decode cX12_stepped 61 = .ok (.iload_n 1, 1) := by decide +kernel
theorem dX12_stepped_62 : decode cX12_stepped 62 = .ok (.iload 5, 2) := by decide +kernel
theorem dX12_stepped_64 : decode cX12_stepped 64 = .ok (.invokestatic 214, 3) := by decide +kernel
theorem dX12_stepped_67 : decode cX12_stepped 67 = .ok (.ifCond .eq 10, 3) := by decide +kernel
theorem dX12_stepped_70 : decode cX12_stepped 70 = .ok (.iconst 1, 1) := by decide +kernel
theorem dX12_stepped_71 : decode cX12_stepped 71 = .ok (.iload 6, 2) := by decide +kernel
theorem dX12_stepped_73 : decode cX12_stepped 73 = .ok (.ishl, 1) := by decide +kernel
theorem dX12_stepped_74 : decode cX12_stepped 74 = .ok (.goto 4, 3) := by decide +kernel
theorem dX12_stepped_77 : decode cX12_stepped 77 = .ok (.iconst 0, 1) := by decide +kernel
theorem dX12_stepped_78 : decode cX12_stepped 78 = .ok (.ior, 1) := by decide +kernel
theorem dX12_stepped_79 : decode cX12_stepped 79 = .ok (.istore_n 3, 1) := by decide +kernel
theorem dX12_stepped_80 : decode cX12_stepped 80 = .ok (.iload_n 3, 1) := by decide +kernel
theorem dX12_stepped_81 : decode cX12_stepped 81 = .ok (.iload_n 1, 1) := by decide +kernel
theorem dX12_stepped_82 : decode cX12_stepped 82 = .ok (.iload 6, 2) := by decide +kernel
theorem dX12_stepped_84 : decode cX12_stepped 84 = .ok (.invokestatic 214, 3) := by decide +kernel
theorem dX12_stepped_87 : decode cX12_stepped 87 = .ok (.ifCond .eq 10, 3) := by decide +kernel
theorem dX12_stepped_90 : decode cX12_stepped 90 = .ok (.iconst 1, 1) := by decide +kernel
theorem dX12_stepped_91 : decode cX12_stepped 91 = .ok (.iload 5, 2) := by decide +kernel
theorem dX12_stepped_93 : decode cX12_stepped 93 = .ok (.ishl, 1) := by decide +kernel
theorem dX12_stepped_94 : decode cX12_stepped 94 = .ok (.goto 4, 3) := by decide +kernel
theorem dX12_stepped_97 : decode cX12_stepped 97 = .ok (.iconst 0, 1) := by decide +kernel
theorem dX12_stepped_98 : decode cX12_stepped 98 = .ok (.ior, 1) := by decide +kernel
theorem dX12_stepped_99 : decode cX12_stepped 99 = .ok (.istore_n 3, 1) := by decide +kernel
theorem dX12_stepped_100 : decode cX12_stepped 100 = .ok (.iinc 4 1, 3) := by decide +kernel
theorem dX12_stepped_103 : decode cX12_stepped 103 = .ok (.goto (-98), 3) := by decide +kernel
theorem dX12_stepped_106 : decode cX12_stepped 106 = .ok (.iload_n 3, 1) := by decide +kernel
theorem dX12_stepped_107 : decode cX12_stepped 107 = .ok (.ireturn, 1) := by decide +kernel
theorem dX12_isParted_0 : decode cX12_isParted 0 = .ok (.iconst 1, 1) := by decide +kernel
theorem dX12_isParted_1 : decode cX12_isParted 1 = .ok (.iload_n 1, 1) := by decide +kernel
theorem dX12_isParted_2 : decode cX12_isParted 2 = .ok (.ishl, 1) := by decide +kernel
theorem dX12_isParted_3 : decode cX12_isParted 3 = .ok (.istore 4, 2) := by decide +kernel
theorem dX12_isParted_5 : decode cX12_isParted 5 = .ok (.iconst 0, 1) := by decide +kernel
theorem dX12_isParted_6 : decode cX12_isParted 6 = .ok (.istore 5, 2) := by decide +kernel
theorem dX12_isParted_8 : decode cX12_isParted 8 = .ok (.iload 5, 2) := by decide +kernel
theorem dX12_isParted_10 : decode cX12_isParted 10 = .ok (.bipush 7, 2) := by decide +kernel
theorem dX12_isParted_12 : decode cX12_isParted 12 = .ok (.if_icmp .ge 18, 3) := by decide +kernel
theorem dX12_isParted_15 : decode cX12_isParted 15 = .ok (.aload_n 0, 1) := by decide +kernel
theorem dX12_isParted_16 : decode cX12_isParted 16 = .ok (.iload 4, 2) := by decide +kernel
theorem dX12_isParted_18 : decode cX12_isParted 18 = .ok (.iload_n 3, 1) := by decide +kernel
theorem dX12_isParted_19 : decode cX12_isParted 19 = .ok (.invokevirtual 415, 3) := by decide +kernel
theorem dX12_isParted_22 : decode cX12_isParted 22 = .ok (.istore 4, 2) := by decide +kernel
theorem dX12_isParted_24 : decode cX12_isParted 24 = .ok (.iinc 5 1, 3) := by decide +kernel
theorem dX12_isParted_27 : decode cX12_isParted 27 = .ok (.goto (-19), 3) := by decide +kernel
theorem dX12_isParted_30 : decode cX12_isParted 30 = .ok (.iload 4, 2) := by decide +kernel
theorem dX12_isParted_32 : decode cX12_isParted 32 = .ok (.iload_n 2, 1) := by decide +kernel
theorem dX12_isParted_33 : decode cX12_isParted 33 = .ok (.invokestatic 214, 3) := by decide +kernel
theorem dX12_isParted_36 : decode cX12_isParted 36 = .ok (.ifCond .ne 7, 3) := by decide +kernel
theorem dX12_isParted_39 : decode cX12_isParted 39 = .ok (.iconst 1, 1) := by decide +kernel
theorem dX12_isParted_40 : decode cX12_isParted 40 = .ok (.goto 4, 3) := by decide +kernel
theorem dX12_isParted_43 : decode cX12_isParted 43 = .ok (.iconst 0, 1) := by decide +kernel
theorem dX12_isParted_44 : decode cX12_isParted 44 = .ok (.ireturn, 1) := by decide +kernel
theorem dX12_walls_0 : decode cX12_walls 0 = .ok (.aload_n 0, 1) := by decide +kernel
theorem dX12_walls_1 : decode cX12_walls 1 = .ok (.iload_n 1, 1) := by decide +kernel
theorem dX12_walls_2 : decode cX12_walls 2 = .ok (.invokevirtual 317, 3) := by decide +kernel
theorem dX12_walls_5 : decode cX12_walls 5 = .ok (.ifCond .eq 26, 3) := by decide +kernel
theorem dX12_walls_8 : decode cX12_walls 8 = .ok (.aload_n 0, 1) := by decide +kernel
theorem dX12_walls_9 : decode cX12_walls 9 = .ok (.iload_n 2, 1) := by decide +kernel
theorem dX12_walls_10 : decode cX12_walls 10 = .ok (.invokevirtual 317, 3) := by decide +kernel
theorem dX12_walls_13 : decode cX12_walls 13 = .ok (.ifCond .eq 18, 3) := by decide +kernel
theorem dX12_walls_16 : decode cX12_walls 16 = .ok (.iload_n 1, 1) := by decide +kernel
theorem dX12_walls_17 : decode cX12_walls 17 = .ok (.iload_n 2, 1) := by decide +kernel
theorem dX12_walls_18 : decode cX12_walls 18 = .ok (.if_icmp .eq 13, 3) := by decide +kernel
theorem dX12_walls_21 : decode cX12_walls 21 = .ok (.iload_n 3, 1) := by decide +kernel
theorem dX12_walls_22 : decode cX12_walls 22 = .ok (.i2l, 1) := by decide +kernel
theorem dX12_walls_23 : decode cX12_walls 23 = .ok (.lconst 0, 1) := by decide +kernel
theorem dX12_walls_24 : decode cX12_walls 24 = .ok (.lconst 1, 1) := by decide +kernel
theorem dX12_walls_25 : decode cX12_walls 25 = .ok (.invokestatic 106, 3) := by decide +kernel
theorem dX12_walls_28 : decode cX12_walls 28 = .ok (.ifCond .ne 5, 3) := by decide +kernel
theorem dX12_walls_31 : decode cX12_walls 31 = .ok (.iconst (-1), 1) := by decide +kernel
theorem dX12_walls_32 : decode cX12_walls 32 = .ok (.ireturn, 1) := by decide +kernel
theorem dX12_walls_33 : decode cX12_walls 33 = .ok (.iconst 1, 1) := by decide +kernel
theorem dX12_walls_34 : decode cX12_walls 34 = .ok (.aload_n 0, 1) := by decide +kernel
theorem dX12_walls_35 : decode cX12_walls 35 = .ok (.getfield 39, 3) := by decide +kernel
theorem dX12_walls_38 : decode cX12_walls 38 = .ok (.iconst 3, 1) := by decide +kernel
theorem dX12_walls_39 : decode cX12_walls 39 = .ok (.iaload, 1) := by decide +kernel
theorem dX12_walls_40 : decode cX12_walls 40 = .ok (.ishl, 1) := by decide +kernel
theorem dX12_walls_41 : decode cX12_walls 41 = .ok (.iconst 1, 1) := by decide +kernel
theorem dX12_walls_42 : decode cX12_walls 42 = .ok (.isub, 1) := by decide +kernel
theorem dX12_walls_43 : decode cX12_walls 43 = .ok (.istore 4, 2) := by decide +kernel
theorem dX12_walls_45 : decode cX12_walls 45 = .ok (.iload 4, 2) := by decide +kernel
theorem dX12_walls_47 : decode cX12_walls 47 = .ok (.istore 5, 2) := by decide +kernel
theorem dX12_walls_49 : decode cX12_walls 49 = .ok (.iload 5, 2) := by decide +kernel
theorem dX12_walls_51 : decode cX12_walls 51 = .ok (.ifCond .lt 37, 3) := by decide +kernel
theorem dX12_walls_54 : decode cX12_walls 54 = .ok (.iload 5, 2) := by decide +kernel
theorem dX12_walls_56 : decode cX12_walls 56 = .ok (.invokestatic 399, 3) := by decide +kernel
theorem dX12_walls_59 : decode cX12_walls 59 = .ok (.iload 4, 2) := by decide +kernel
theorem dX12_walls_61 : decode cX12_walls 61 = .ok (.invokestatic 399, 3) := by decide +kernel
theorem dX12_walls_64 : decode cX12_walls 64 = .ok (.if_icmp .gt 18, 3) := by decide +kernel
theorem dX12_walls_67 : decode cX12_walls 67 = .ok (.aload_n 0, 1) := by decide +kernel
theorem dX12_walls_68 : decode cX12_walls 68 = .ok (.iload_n 1, 1) := by decide +kernel
theorem dX12_walls_69 : decode cX12_walls 69 = .ok (.iload_n 2, 1) := by decide +kernel
theorem dX12_walls_70 : decode cX12_walls 70 = .ok (.iload 5, 2) := by decide +kernel
theorem dX12_walls_72 : decode cX12_walls 72 = .ok (.invokevirtual 418, 3) := by decide +kernel
theorem dX12_walls_75 : decode cX12_walls 75 = .ok (.ifCond .eq 7, 3) := by decide +kernel
theorem dX12_walls_78 : decode cX12_walls 78 = .ok (.iload 5, 2) := by decide +kernel
theorem dX12_walls_80 : decode cX12_walls 80 = .ok (.istore 4, 2) := by decide +kernel
theorem dX12_walls_82 : decode cX12_walls 82 = .ok (.iinc 5 (-1), 3) := by decide +kernel
theorem dX12_walls_85 : decode cX12_walls 85 = .ok (.goto (-36), 3) := by decide +kernel
theorem dX12_walls_88 : decode cX12_walls 88 = .ok (.iload_n 3, 1) := by decide +kernel
theorem dX12_walls_89 : decode cX12_walls 89 = .ok (.ifCond .ne 11, 3) := by decide +kernel
theorem dX12_walls_92 : decode cX12_walls 92 = .ok (.iload 4, 2) := by decide +kernel
theorem dX12_walls_94 : decode cX12_walls 94 = .ok (.invokestatic 399, 3) := by decide +kernel
theorem dX12_walls_97 : decode cX12_walls 97 = .ok (.goto 5, 3) := by decide +kernel
theorem dX12_walls_100 : decode cX12_walls 100 = .ok (.iload 4, 2) := by decide +kernel
theorem dX12_walls_102 : decode cX12_walls 102 = .ok (.ireturn, 1) := by decide +kernel
theorem dX12_leak_0 : decode cX12_leak 0 = .ok (.aload_n 0, 1) := by decide +kernel
theorem dX12_leak_1 : decode cX12_leak 1 = .ok (.iload_n 1, 1) := by decide +kernel
theorem dX12_leak_2 : decode cX12_leak 2 = .ok (.invokevirtual 317, 3) := by decide +kernel
theorem dX12_leak_5 : decode cX12_leak 5 = .ok (.ifCond .eq 11, 3) := by decide +kernel
theorem dX12_leak_8 : decode cX12_leak 8 = .ok (.aload_n 0, 1) := by decide +kernel
theorem dX12_leak_9 : decode cX12_leak 9 = .ok (.iload_n 2, 1) := by decide +kernel
theorem dX12_leak_10 : decode cX12_leak 10 = .ok (.invokevirtual 317, 3) := by decide +kernel
theorem dX12_leak_13 : decode cX12_leak 13 = .ok (.ifCond .ne 5, 3) := by decide +kernel
theorem dX12_leak_16 : decode cX12_leak 16 = .ok (.iconst (-1), 1) := by decide +kernel
theorem dX12_leak_17 : decode cX12_leak 17 = .ok (.ireturn, 1) := by decide +kernel
theorem dX12_leak_18 : decode cX12_leak 18 = .ok (.iconst 1, 1) := by decide +kernel
theorem dX12_leak_19 : decode cX12_leak 19 = .ok (.iload_n 1, 1) := by decide +kernel
theorem dX12_leak_20 : decode cX12_leak 20 = .ok (.ishl, 1) := by decide +kernel
theorem dX12_leak_21 : decode cX12_leak 21 = .ok (.istore_n 3, 1) := by decide +kernel
theorem dX12_leak_22 : decode cX12_leak 22 = .ok (.iconst 0, 1) := by decide +kernel
theorem dX12_leak_23 : decode cX12_leak 23 = .ok (.istore 4, 2) := by decide +kernel
theorem dX12_leak_25 : decode cX12_leak 25 = .ok (.iload 4, 2) := by decide +kernel
theorem dX12_leak_27 : decode cX12_leak 27 = .ok (.bipush 7, 2) := by decide +kernel
theorem dX12_leak_29 : decode cX12_leak 29 = .ok (.if_icmp .ge 27, 3) := by decide +kernel
theorem dX12_leak_32 : decode cX12_leak 32 = .ok (.iload_n 3, 1) := by decide +kernel
theorem dX12_leak_33 : decode cX12_leak 33 = .ok (.iload_n 2, 1) := by decide +kernel
theorem dX12_leak_34 : decode cX12_leak 34 = .ok (.invokestatic 214, 3) := by decide +kernel
theorem dX12_leak_37 : decode cX12_leak 37 = .ok (.ifCond .eq 6, 3) := by decide +kernel
theorem dX12_leak_40 : decode cX12_leak 40 = .ok (.iload 4, 2) := by decide +kernel
theorem dX12_leak_42 : decode cX12_leak 42 = .ok (.ireturn, 1) := by decide +kernel
theorem dX12_leak_43 : decode cX12_leak 43 = .ok (.aload_n 0, 1) := by decide +kernel
theorem dX12_leak_44 : decode cX12_leak 44 = .ok (.iload_n 3, 1) := by decide +kernel
theorem dX12_leak_45 : decode cX12_leak 45 = .ok (.iconst 0, 1) := by decide +kernel
theorem dX12_leak_46 : decode cX12_leak 46 = .ok (.invokevirtual 415, 3) := by decide +kernel
theorem dX12_leak_49 : decode cX12_leak 49 = .ok (.istore_n 3, 1) := by decide +kernel
theorem dX12_leak_50 : decode cX12_leak 50 = .ok (.iinc 4 1, 3) := by decide +kernel
theorem dX12_leak_53 : decode cX12_leak 53 = .ok (.goto (-28), 3) := by decide +kernel
theorem dX12_leak_56 : decode cX12_leak 56 = .ok (.bipush (-2), 2) := by decide +kernel
theorem dX12_leak_58 : decode cX12_leak 58 = .ok (.ireturn, 1) := by decide +kernel
theorem dX12_stated_0 : decode cX12_stated 0 = .ok (.iload_n 1, 1) := by decide +kernel
theorem dX12_stated_1 : decode cX12_stated 1 = .ok (.iconst (-1), 1) := by decide +kernel
theorem dX12_stated_2 : decode cX12_stated 2 = .ok (.if_icmp .ne 14, 3) := by decide +kernel
theorem dX12_stated_5 : decode cX12_stated 5 = .ok (.aload_n 0, 1) := by decide +kernel
theorem dX12_stated_6 : decode cX12_stated 6 = .ok (.getfield 39, 3) := by decide +kernel
theorem dX12_stated_9 : decode cX12_stated 9 = .ok (.sipush 326, 3) := by decide +kernel
theorem dX12_stated_12 : decode cX12_stated 12 = .ok (.iconst 0, 1) := by decide +kernel
theorem dX12_stated_13 : decode cX12_stated 13 = .ok (.iastore, 1) := by decide +kernel
theorem dX12_stated_14 : decode cX12_stated 14 = .ok (.iconst 0, 1) := by decide +kernel
theorem dX12_stated_15 : decode cX12_stated 15 = .ok (.ireturn, 1) := by decide +kernel
theorem dX12_stated_16 : decode cX12_stated 16 = .ok (.aload_n 0, 1) := by decide +kernel
theorem dX12_stated_17 : decode cX12_stated 17 = .ok (.iload_n 1, 1) := by decide +kernel
theorem dX12_stated_18 : decode cX12_stated 18 = .ok (.invokevirtual 317, 3) := by decide +kernel
theorem dX12_stated_21 : decode cX12_stated 21 = .ok (.ifCond .eq 34, 3) := by decide +kernel
theorem dX12_stated_24 : decode cX12_stated 24 = .ok (.aload_n 0, 1) := by decide +kernel
theorem dX12_stated_25 : decode cX12_stated 25 = .ok (.iload_n 2, 1) := by decide +kernel
theorem dX12_stated_26 : decode cX12_stated 26 = .ok (.invokevirtual 320, 3) := by decide +kernel
theorem dX12_stated_29 : decode cX12_stated 29 = .ok (.ifCond .eq 26, 3) := by decide +kernel
theorem dX12_stated_32 : decode cX12_stated 32 = .ok (.iload_n 3, 1) := by decide +kernel
theorem dX12_stated_33 : decode cX12_stated 33 = .ok (.i2l, 1) := by decide +kernel
theorem dX12_stated_34 : decode cX12_stated 34 = .ok (.lconst 0, 1) := by decide +kernel
theorem dX12_stated_35 : decode cX12_stated 35 = .ok (.lconst 1, 1) := by decide +kernel
theorem dX12_stated_36 : decode cX12_stated 36 = .ok (.invokestatic 106, 3) := by decide +kernel
theorem dX12_stated_39 : decode cX12_stated 39 = .ok (.ifCond .eq 16, 3) := by decide +kernel
theorem dX12_stated_42 : decode cX12_stated 42 = .ok (.aload_n 0, 1) := by decide +kernel
theorem dX12_stated_43 : decode cX12_stated 43 = .ok (.getfield 39, 3) := by decide +kernel
theorem dX12_stated_46 : decode cX12_stated 46 = .ok (.sipush 326, 3) := by decide +kernel
theorem dX12_stated_49 : decode cX12_stated 49 = .ok (.iaload, 1) := by decide +kernel
theorem dX12_stated_50 : decode cX12_stated 50 = .ok (.bipush 12, 2) := by decide +kernel
theorem dX12_stated_52 : decode cX12_stated 52 = .ok (.if_icmp .ne 6, 3) := by decide +kernel
theorem dX12_stated_55 : decode cX12_stated 55 = .ok (.bipush (-2), 2) := by decide +kernel
theorem dX12_stated_57 : decode cX12_stated 57 = .ok (.ireturn, 1) := by decide +kernel
theorem dX12_stated_58 : decode cX12_stated 58 = .ok (.sipush 270, 3) := by decide +kernel
theorem dX12_stated_61 : decode cX12_stated 61 = .ok (.iconst 3, 1) := by decide +kernel
theorem dX12_stated_62 : decode cX12_stated 62 = .ok (.aload_n 0, 1) := by decide +kernel
theorem dX12_stated_63 : decode cX12_stated 63 = .ok (.getfield 39, 3) := by decide +kernel
theorem dX12_stated_66 : decode cX12_stated 66 = .ok (.sipush 326, 3) := by decide +kernel
theorem dX12_stated_69 : decode cX12_stated 69 = .ok (.iaload, 1) := by decide +kernel
theorem dX12_stated_70 : decode cX12_stated 70 = .ok (.imul, 1) := by decide +kernel
theorem dX12_stated_71 : decode cX12_stated 71 = .ok (.iadd, 1) := by decide +kernel
theorem dX12_stated_72 : decode cX12_stated 72 = .ok (.istore 4, 2) := by decide +kernel
theorem dX12_stated_74 : decode cX12_stated 74 = .ok (.aload_n 0, 1) := by decide +kernel
theorem dX12_stated_75 : decode cX12_stated 75 = .ok (.getfield 39, 3) := by decide +kernel
theorem dX12_stated_78 : decode cX12_stated 78 = .ok (.iload 4, 2) := by decide +kernel
theorem dX12_stated_80 : decode cX12_stated 80 = .ok (.iload_n 1, 1) := by decide +kernel
theorem dX12_stated_81 : decode cX12_stated 81 = .ok (.iastore, 1) := by decide +kernel
theorem dX12_stated_82 : decode cX12_stated 82 = .ok (.aload_n 0, 1) := by decide +kernel
theorem dX12_stated_83 : decode cX12_stated 83 = .ok (.getfield 39, 3) := by decide +kernel
theorem dX12_stated_86 : decode cX12_stated 86 = .ok (.iload 4, 2) := by decide +kernel
theorem dX12_stated_88 : decode cX12_stated 88 = .ok (.iconst 1, 1) := by decide +kernel
theorem dX12_stated_89 : decode cX12_stated 89 = .ok (.iadd, 1) := by decide +kernel
theorem dX12_stated_90 : decode cX12_stated 90 = .ok (.iload_n 2, 1) := by decide +kernel
theorem dX12_stated_91 : decode cX12_stated 91 = .ok (.iastore, 1) := by decide +kernel
theorem dX12_stated_92 : decode cX12_stated 92 = .ok (.aload_n 0, 1) := by decide +kernel
theorem dX12_stated_93 : decode cX12_stated 93 = .ok (.getfield 39, 3) := by decide +kernel
theorem dX12_stated_96 : decode cX12_stated 96 = .ok (.iload 4, 2) := by decide +kernel
theorem dX12_stated_98 : decode cX12_stated 98 = .ok (.iconst 2, 1) := by decide +kernel
theorem dX12_stated_99 : decode cX12_stated 99 = .ok (.iadd, 1) := by decide +kernel
theorem dX12_stated_100 : decode cX12_stated 100 = .ok (.iload_n 3, 1) := by decide +kernel
theorem dX12_stated_101 : decode cX12_stated 101 = .ok (.iastore, 1) := by decide +kernel
theorem dX12_stated_102 : decode cX12_stated 102 = .ok (.aload_n 0, 1) := by decide +kernel
theorem dX12_stated_103 : decode cX12_stated 103 = .ok (.getfield 39, 3) := by decide +kernel
theorem dX12_stated_106 : decode cX12_stated 106 = .ok (.sipush 326, 3) := by decide +kernel
theorem dX12_stated_109 : decode cX12_stated 109 = .ok (.dup2, 1) := by decide +kernel
theorem dX12_stated_110 : decode cX12_stated 110 = .ok (.iaload, 1) := by decide +kernel
theorem dX12_stated_111 : decode cX12_stated 111 = .ok (.iconst 1, 1) := by decide +kernel
theorem dX12_stated_112 : decode cX12_stated 112 = .ok (.iadd, 1) := by decide +kernel
theorem dX12_stated_113 : decode cX12_stated 113 = .ok (.iastore, 1) := by decide +kernel
theorem dX12_stated_114 : decode cX12_stated 114 = .ok (.aload_n 0, 1) := by decide +kernel
theorem dX12_stated_115 : decode cX12_stated 115 = .ok (.getfield 39, 3) := by decide +kernel
theorem dX12_stated_118 : decode cX12_stated 118 = .ok (.sipush 326, 3) := by decide +kernel
theorem dX12_stated_121 : decode cX12_stated 121 = .ok (.iaload, 1) := by decide +kernel
theorem dX12_stated_122 : decode cX12_stated 122 = .ok (.ireturn, 1) := by decide +kernel
theorem dX12_statedBy_0 : decode cX12_statedBy 0 = .ok (.iconst 0, 1) := by decide +kernel
theorem dX12_statedBy_1 : decode cX12_statedBy 1 = .ok (.istore_n 3, 1) := by decide +kernel
theorem dX12_statedBy_2 : decode cX12_statedBy 2 = .ok (.iconst 0, 1) := by decide +kernel
theorem dX12_statedBy_3 : decode cX12_statedBy 3 = .ok (.istore 4, 2) := by decide +kernel
theorem dX12_statedBy_5 : decode cX12_statedBy 5 = .ok (.iload 4, 2) := by decide +kernel
theorem dX12_statedBy_7 : decode cX12_statedBy 7 = .ok (.aload_n 0, 1) := by decide +kernel
theorem dX12_statedBy_8 : decode cX12_statedBy 8 = .ok (.getfield 39, 3) := by decide +kernel
theorem dX12_statedBy_11 : decode cX12_statedBy 11 = .ok (.sipush 326, 3) := by decide +kernel
theorem dX12_statedBy_14 : decode cX12_statedBy 14 = .ok (.iaload, 1) := by decide +kernel
theorem dX12_statedBy_15 : decode cX12_statedBy 15 = .ok (.if_icmp .ge 63, 3) := by decide +kernel
theorem dX12_statedBy_18 : decode cX12_statedBy 18 = .ok (.sipush 270, 3) := by decide +kernel
theorem dX12_statedBy_21 : decode cX12_statedBy 21 = .ok (.iconst 3, 1) := by decide +kernel
theorem dX12_statedBy_22 : decode cX12_statedBy 22 = .ok (.iload 4, 2) := by decide +kernel
theorem dX12_statedBy_24 : decode cX12_statedBy 24 = .ok (.imul, 1) := by decide +kernel
theorem dX12_statedBy_25 : decode cX12_statedBy 25 = .ok (.iadd, 1) := by decide +kernel
theorem dX12_statedBy_26 : decode cX12_statedBy 26 = .ok (.istore 5, 2) := by decide +kernel
theorem dX12_statedBy_28 : decode cX12_statedBy 28 = .ok (.aload_n 0, 1) := by decide +kernel
theorem dX12_statedBy_29 : decode cX12_statedBy 29 = .ok (.getfield 39, 3) := by decide +kernel
theorem dX12_statedBy_32 : decode cX12_statedBy 32 = .ok (.iload 5, 2) := by decide +kernel
theorem dX12_statedBy_34 : decode cX12_statedBy 34 = .ok (.iaload, 1) := by decide +kernel
theorem dX12_statedBy_35 : decode cX12_statedBy 35 = .ok (.iload_n 1, 1) := by decide +kernel
theorem dX12_statedBy_36 : decode cX12_statedBy 36 = .ok (.if_icmp .ne 36, 3) := by decide +kernel
theorem dX12_statedBy_39 : decode cX12_statedBy 39 = .ok (.iload_n 3, 1) := by decide +kernel
theorem dX12_statedBy_40 : decode cX12_statedBy 40 = .ok (.iload_n 2, 1) := by decide +kernel
theorem dX12_statedBy_41 : decode cX12_statedBy 41 = .ok (.aload_n 0, 1) := by decide +kernel
theorem dX12_statedBy_42 : decode cX12_statedBy 42 = .ok (.getfield 39, 3) := by decide +kernel
theorem dX12_statedBy_45 : decode cX12_statedBy 45 = .ok (.iload 5, 2) := by decide +kernel
theorem dX12_statedBy_47 : decode cX12_statedBy 47 = .ok (.iconst 1, 1) := by decide +kernel
theorem dX12_statedBy_48 : decode cX12_statedBy 48 = .ok (.iadd, 1) := by decide +kernel
theorem dX12_statedBy_49 : decode cX12_statedBy 49 = .ok (.iaload, 1) := by decide +kernel
theorem dX12_statedBy_50 : decode cX12_statedBy 50 = .ok (.ishr, 1) := by decide +kernel
theorem dX12_statedBy_51 : decode cX12_statedBy 51 = .ok (.iconst 1, 1) := by decide +kernel
theorem dX12_statedBy_52 : decode cX12_statedBy 52 = .ok (.iand, 1) := by decide +kernel
theorem dX12_statedBy_53 : decode cX12_statedBy 53 = .ok (.aload_n 0, 1) := by decide +kernel
theorem dX12_statedBy_54 : decode cX12_statedBy 54 = .ok (.getfield 39, 3) := by decide +kernel
theorem dX12_statedBy_57 : decode cX12_statedBy 57 = .ok (.iload 5, 2) := by decide +kernel
theorem dX12_statedBy_59 : decode cX12_statedBy 59 = .ok (.iconst 2, 1) := by decide +kernel
theorem dX12_statedBy_60 : decode cX12_statedBy 60 = .ok (.iadd, 1) := by decide +kernel
theorem dX12_statedBy_61 : decode cX12_statedBy 61 = .ok (.iaload, 1) := by decide +kernel
theorem dX12_statedBy_62 : decode cX12_statedBy 62 = .ok (.if_icmp .ne 7, 3) := by decide +kernel
theorem dX12_statedBy_65 : decode cX12_statedBy 65 = .ok (.iconst 1, 1) := by decide +kernel
theorem dX12_statedBy_66 : decode cX12_statedBy 66 = .ok (.goto 4, 3) := by decide +kernel
theorem dX12_statedBy_69 : decode cX12_statedBy 69 = .ok (.iconst 2, 1) := by decide +kernel
theorem dX12_statedBy_70 : decode cX12_statedBy 70 = .ok (.ior, 1) := by decide +kernel
theorem dX12_statedBy_71 : decode cX12_statedBy 71 = .ok (.istore_n 3, 1) := by decide +kernel
theorem dX12_statedBy_72 : decode cX12_statedBy 72 = .ok (.iinc 4 1, 3) := by decide +kernel
theorem dX12_statedBy_75 : decode cX12_statedBy 75 = .ok (.goto (-70), 3) := by decide +kernel
theorem dX12_statedBy_78 : decode cX12_statedBy 78 = .ok (.iload_n 3, 1) := by decide +kernel
theorem dX12_statedBy_79 : decode cX12_statedBy 79 = .ok (.ireturn, 1) := by decide +kernel
theorem dX12_isTruth_0 : decode cX12_isTruth 0 = .ok (.iconst 0, 1) := by decide +kernel
theorem dX12_isTruth_1 : decode cX12_isTruth 1 = .ok (.istore_n 2, 1) := by decide +kernel
theorem dX12_isTruth_2 : decode cX12_isTruth 2 = .ok (.iload_n 2, 1) := by decide +kernel
theorem dX12_isTruth_3 : decode cX12_isTruth 3 = .ok (.aload_n 0, 1) := by decide +kernel
theorem dX12_isTruth_4 : decode cX12_isTruth 4 = .ok (.getfield 39, 3) := by decide +kernel
theorem dX12_isTruth_7 : decode cX12_isTruth 7 = .ok (.iconst 2, 1) := by decide +kernel
theorem dX12_isTruth_8 : decode cX12_isTruth 8 = .ok (.iaload, 1) := by decide +kernel
theorem dX12_isTruth_9 : decode cX12_isTruth 9 = .ok (.if_icmp .ge 21, 3) := by decide +kernel
theorem dX12_isTruth_12 : decode cX12_isTruth 12 = .ok (.aload_n 0, 1) := by decide +kernel
theorem dX12_isTruth_13 : decode cX12_isTruth 13 = .ok (.iload_n 2, 1) := by decide +kernel
theorem dX12_isTruth_14 : decode cX12_isTruth 14 = .ok (.iload_n 1, 1) := by decide +kernel
theorem dX12_isTruth_15 : decode cX12_isTruth 15 = .ok (.invokevirtual 421, 3) := by decide +kernel
theorem dX12_isTruth_18 : decode cX12_isTruth 18 = .ok (.iconst 3, 1) := by decide +kernel
theorem dX12_isTruth_19 : decode cX12_isTruth 19 = .ok (.if_icmp .ne 5, 3) := by decide +kernel
theorem dX12_isTruth_22 : decode cX12_isTruth 22 = .ok (.iconst 0, 1) := by decide +kernel
theorem dX12_isTruth_23 : decode cX12_isTruth 23 = .ok (.ireturn, 1) := by decide +kernel
theorem dX12_isTruth_24 : decode cX12_isTruth 24 = .ok (.iinc 2 1, 3) := by decide +kernel
theorem dX12_isTruth_27 : decode cX12_isTruth 27 = .ok (.goto (-25), 3) := by decide +kernel
theorem dX12_isTruth_30 : decode cX12_isTruth 30 = .ok (.iconst 1, 1) := by decide +kernel
theorem dX12_isTruth_31 : decode cX12_isTruth 31 = .ok (.ireturn, 1) := by decide +kernel
theorem dX12_peopleOf_0 : decode cX12_peopleOf 0 = .ok (.iconst 0, 1) := by decide +kernel
theorem dX12_peopleOf_1 : decode cX12_peopleOf 1 = .ok (.istore_n 3, 1) := by decide +kernel
theorem dX12_peopleOf_2 : decode cX12_peopleOf 2 = .ok (.iconst 0, 1) := by decide +kernel
theorem dX12_peopleOf_3 : decode cX12_peopleOf 3 = .ok (.istore 4, 2) := by decide +kernel
theorem dX12_peopleOf_5 : decode cX12_peopleOf 5 = .ok (.iload 4, 2) := by decide +kernel
theorem dX12_peopleOf_7 : decode cX12_peopleOf 7 = .ok (.aload_n 0, 1) := by decide +kernel
theorem dX12_peopleOf_8 : decode cX12_peopleOf 8 = .ok (.getfield 39, 3) := by decide +kernel
theorem dX12_peopleOf_11 : decode cX12_peopleOf 11 = .ok (.iconst 2, 1) := by decide +kernel
theorem dX12_peopleOf_12 : decode cX12_peopleOf 12 = .ok (.iaload, 1) := by decide +kernel
theorem dX12_peopleOf_13 : decode cX12_peopleOf 13 = .ok (.if_icmp .ge 31, 3) := by decide +kernel
theorem dX12_peopleOf_16 : decode cX12_peopleOf 16 = .ok (.iload_n 3, 1) := by decide +kernel
theorem dX12_peopleOf_17 : decode cX12_peopleOf 17 = .ok (.aload_n 0, 1) := by decide +kernel
theorem dX12_peopleOf_18 : decode cX12_peopleOf 18 = .ok (.iload 4, 2) := by decide +kernel
theorem dX12_peopleOf_20 : decode cX12_peopleOf 20 = .ok (.iload_n 2, 1) := by decide +kernel
theorem dX12_peopleOf_21 : decode cX12_peopleOf 21 = .ok (.invokevirtual 421, 3) := by decide +kernel
theorem dX12_peopleOf_24 : decode cX12_peopleOf 24 = .ok (.iload_n 1, 1) := by decide +kernel
theorem dX12_peopleOf_25 : decode cX12_peopleOf 25 = .ok (.if_icmp .ne 10, 3) := by decide +kernel
theorem dX12_peopleOf_28 : decode cX12_peopleOf 28 = .ok (.iconst 1, 1) := by decide +kernel
theorem dX12_peopleOf_29 : decode cX12_peopleOf 29 = .ok (.iload 4, 2) := by decide +kernel
theorem dX12_peopleOf_31 : decode cX12_peopleOf 31 = .ok (.ishl, 1) := by decide +kernel
theorem dX12_peopleOf_32 : decode cX12_peopleOf 32 = .ok (.goto 4, 3) := by decide +kernel
theorem dX12_peopleOf_35 : decode cX12_peopleOf 35 = .ok (.iconst 0, 1) := by decide +kernel
theorem dX12_peopleOf_36 : decode cX12_peopleOf 36 = .ok (.ior, 1) := by decide +kernel
theorem dX12_peopleOf_37 : decode cX12_peopleOf 37 = .ok (.istore_n 3, 1) := by decide +kernel
theorem dX12_peopleOf_38 : decode cX12_peopleOf 38 = .ok (.iinc 4 1, 3) := by decide +kernel
theorem dX12_peopleOf_41 : decode cX12_peopleOf 41 = .ok (.goto (-36), 3) := by decide +kernel
theorem dX12_peopleOf_44 : decode cX12_peopleOf 44 = .ok (.iload_n 3, 1) := by decide +kernel
theorem dX12_peopleOf_45 : decode cX12_peopleOf 45 = .ok (.ireturn, 1) := by decide +kernel
theorem dX12_truths_0 : decode cX12_truths 0 = .ok (.aload_n 0, 1) := by decide +kernel
theorem dX12_truths_1 : decode cX12_truths 1 = .ok (.invokevirtual 384, 3) := by decide +kernel
theorem dX12_truths_4 : decode cX12_truths 4 = .ok (.ifCond .eq 15, 3) := by decide +kernel
theorem dX12_truths_7 : decode cX12_truths 7 = .ok (.iload_n 1, 1) := by decide +kernel
theorem dX12_truths_8 : decode cX12_truths 8 = .ok (.i2l, 1) := by decide +kernel
theorem dX12_truths_9 : decode cX12_truths 9 = .ok (.lconst 0, 1) := by decide +kernel
theorem dX12_truths_10 : decode cX12_truths 10 = .ok (.ldc2_w 331, 3) := by decide +kernel
theorem dX12_truths_13 : decode cX12_truths 13 = .ok (.invokestatic 106, 3) := by decide +kernel
theorem dX12_truths_16 : decode cX12_truths 16 = .ok (.ifCond .ne 5, 3) := by decide +kernel
theorem dX12_truths_19 : decode cX12_truths 19 = .ok (.iconst (-1), 1) := by decide +kernel
theorem dX12_truths_20 : decode cX12_truths 20 = .ok (.ireturn, 1) := by decide +kernel
theorem dX12_truths_21 : decode cX12_truths 21 = .ok (.iconst 1, 1) := by decide +kernel
theorem dX12_truths_22 : decode cX12_truths 22 = .ok (.aload_n 0, 1) := by decide +kernel
theorem dX12_truths_23 : decode cX12_truths 23 = .ok (.getfield 39, 3) := by decide +kernel
theorem dX12_truths_26 : decode cX12_truths 26 = .ok (.iconst 0, 1) := by decide +kernel
theorem dX12_truths_27 : decode cX12_truths 27 = .ok (.iaload, 1) := by decide +kernel
theorem dX12_truths_28 : decode cX12_truths 28 = .ok (.ishl, 1) := by decide +kernel
theorem dX12_truths_29 : decode cX12_truths 29 = .ok (.iconst 1, 1) := by decide +kernel
theorem dX12_truths_30 : decode cX12_truths 30 = .ok (.isub, 1) := by decide +kernel
theorem dX12_truths_31 : decode cX12_truths 31 = .ok (.istore_n 2, 1) := by decide +kernel
theorem dX12_truths_32 : decode cX12_truths 32 = .ok (.iconst 0, 1) := by decide +kernel
theorem dX12_truths_33 : decode cX12_truths 33 = .ok (.istore_n 3, 1) := by decide +kernel
theorem dX12_truths_34 : decode cX12_truths 34 = .ok (.iload_n 2, 1) := by decide +kernel
theorem dX12_truths_35 : decode cX12_truths 35 = .ok (.istore 4, 2) := by decide +kernel
theorem dX12_truths_37 : decode cX12_truths 37 = .ok (.iload_n 2, 1) := by decide +kernel
theorem dX12_truths_38 : decode cX12_truths 38 = .ok (.istore 5, 2) := by decide +kernel
theorem dX12_truths_40 : decode cX12_truths 40 = .ok (.iconst 1, 1) := by decide +kernel
theorem dX12_truths_41 : decode cX12_truths 41 = .ok (.aload_n 0, 1) := by decide +kernel
theorem dX12_truths_42 : decode cX12_truths 42 = .ok (.getfield 39, 3) := by decide +kernel
theorem dX12_truths_45 : decode cX12_truths 45 = .ok (.iconst 2, 1) := by decide +kernel
theorem dX12_truths_46 : decode cX12_truths 46 = .ok (.iaload, 1) := by decide +kernel
theorem dX12_truths_47 : decode cX12_truths 47 = .ok (.ishl, 1) := by decide +kernel
theorem dX12_truths_48 : decode cX12_truths 48 = .ok (.iconst 1, 1) := by decide +kernel
theorem dX12_truths_49 : decode cX12_truths 49 = .ok (.isub, 1) := by decide +kernel
theorem dX12_truths_50 : decode cX12_truths 50 = .ok (.istore 6, 2) := by decide +kernel
theorem dX12_truths_52 : decode cX12_truths 52 = .ok (.iload 6, 2) := by decide +kernel
theorem dX12_truths_54 : decode cX12_truths 54 = .ok (.istore 7, 2) := by decide +kernel
theorem dX12_truths_56 : decode cX12_truths 56 = .ok (.iconst 0, 1) := by decide +kernel
theorem dX12_truths_57 : decode cX12_truths 57 = .ok (.istore 8, 2) := by decide +kernel
theorem dX12_truths_59 : decode cX12_truths 59 = .ok (.iload 8, 2) := by decide +kernel
theorem dX12_truths_61 : decode cX12_truths 61 = .ok (.iload_n 2, 1) := by decide +kernel
theorem dX12_truths_62 : decode cX12_truths 62 = .ok (.if_icmp .gt 64, 3) := by decide +kernel
theorem dX12_truths_65 : decode cX12_truths 65 = .ok (.aload_n 0, 1) := by decide +kernel
theorem dX12_truths_66 : decode cX12_truths 66 = .ok (.iload 8, 2) := by decide +kernel
theorem dX12_truths_68 : decode cX12_truths 68 = .ok (.invokevirtual 424, 3) := by decide +kernel
theorem dX12_truths_71 : decode cX12_truths 71 = .ok (.ifCond .ne 6, 3) := by decide +kernel
theorem dX12_truths_74 : decode cX12_truths 74 = .ok (.goto 46, 3) := by decide +kernel
theorem dX12_truths_77 : decode cX12_truths 77 = .ok (.iinc 3 1, 3) := by decide +kernel
theorem dX12_truths_80 : decode cX12_truths 80 = .ok (.iload 4, 2) := by decide +kernel
theorem dX12_truths_82 : decode cX12_truths 82 = .ok (.iload 8, 2) := by decide +kernel
theorem dX12_truths_84 : decode cX12_truths 84 = .ok (.iand, 1) := by decide +kernel
theorem dX12_truths_85 : decode cX12_truths 85 = .ok (.istore 4, 2) := by decide +kernel
theorem dX12_truths_87 : decode cX12_truths 87 = .ok (.iload 5, 2) := by decide +kernel
theorem dX12_truths_89 : decode cX12_truths 89 = .ok (.iload 8, 2) := by decide +kernel
theorem dX12_truths_91 : decode cX12_truths 91 = .ok (.iconst (-1), 1) := by decide +kernel
theorem dX12_truths_92 : decode cX12_truths 92 = .ok (.ixor, 1) := by decide +kernel
theorem dX12_truths_93 : decode cX12_truths 93 = .ok (.iand, 1) := by decide +kernel
theorem dX12_truths_94 : decode cX12_truths 94 = .ok (.istore 5, 2) := by decide +kernel
theorem dX12_truths_96 : decode cX12_truths 96 = .ok (.iload 6, 2) := by decide +kernel
theorem dX12_truths_98 : decode cX12_truths 98 = .ok (.aload_n 0, 1) := by decide +kernel
theorem dX12_truths_99 : decode cX12_truths 99 = .ok (.iconst 2, 1) := by decide +kernel
theorem dX12_truths_100 : decode cX12_truths 100 = .ok (.iload 8, 2) := by decide +kernel
theorem dX12_truths_102 : decode cX12_truths 102 = .ok (.invokevirtual 427, 3) := by decide +kernel
theorem dX12_truths_105 : decode cX12_truths 105 = .ok (.iand, 1) := by decide +kernel
theorem dX12_truths_106 : decode cX12_truths 106 = .ok (.istore 6, 2) := by decide +kernel
theorem dX12_truths_108 : decode cX12_truths 108 = .ok (.iload 7, 2) := by decide +kernel
theorem dX12_truths_110 : decode cX12_truths 110 = .ok (.aload_n 0, 1) := by decide +kernel
theorem dX12_truths_111 : decode cX12_truths 111 = .ok (.iconst 1, 1) := by decide +kernel
theorem dX12_truths_112 : decode cX12_truths 112 = .ok (.iload 8, 2) := by decide +kernel
theorem dX12_truths_114 : decode cX12_truths 114 = .ok (.invokevirtual 427, 3) := by decide +kernel
theorem dX12_truths_117 : decode cX12_truths 117 = .ok (.iand, 1) := by decide +kernel
theorem dX12_truths_118 : decode cX12_truths 118 = .ok (.istore 7, 2) := by decide +kernel
theorem dX12_truths_120 : decode cX12_truths 120 = .ok (.iinc 8 1, 3) := by decide +kernel
theorem dX12_truths_123 : decode cX12_truths 123 = .ok (.goto (-64), 3) := by decide +kernel
theorem dX12_truths_126 : decode cX12_truths 126 = .ok (.iload_n 1, 1) := by decide +kernel
theorem dX12_truths_127 : decode cX12_truths 127 = .ok (.ifCond .ne 5, 3) := by decide +kernel
theorem dX12_truths_130 : decode cX12_truths 130 = .ok (.iload_n 3, 1) := by decide +kernel
theorem dX12_truths_131 : decode cX12_truths 131 = .ok (.ireturn, 1) := by decide +kernel
theorem dX12_truths_132 : decode cX12_truths 132 = .ok (.iload_n 3, 1) := by decide +kernel
theorem dX12_truths_133 : decode cX12_truths 133 = .ok (.ifCond .ne 7, 3) := by decide +kernel
theorem dX12_truths_136 : decode cX12_truths 136 = .ok (.iconst 0, 1) := by decide +kernel
theorem dX12_truths_137 : decode cX12_truths 137 = .ok (.goto 35, 3) := by decide +kernel
theorem dX12_truths_140 : decode cX12_truths 140 = .ok (.iload_n 1, 1) := by decide +kernel
theorem dX12_truths_141 : decode cX12_truths 141 = .ok (.iconst 1, 1) := by decide +kernel
theorem dX12_truths_142 : decode cX12_truths 142 = .ok (.if_icmp .ne 8, 3) := by decide +kernel
theorem dX12_truths_145 : decode cX12_truths 145 = .ok (.iload 4, 2) := by decide +kernel
theorem dX12_truths_147 : decode cX12_truths 147 = .ok (.goto 25, 3) := by decide +kernel
theorem dX12_truths_150 : decode cX12_truths 150 = .ok (.iload_n 1, 1) := by decide +kernel
theorem dX12_truths_151 : decode cX12_truths 151 = .ok (.iconst 2, 1) := by decide +kernel
theorem dX12_truths_152 : decode cX12_truths 152 = .ok (.if_icmp .ne 8, 3) := by decide +kernel
theorem dX12_truths_155 : decode cX12_truths 155 = .ok (.iload 5, 2) := by decide +kernel
theorem dX12_truths_157 : decode cX12_truths 157 = .ok (.goto 15, 3) := by decide +kernel
theorem dX12_truths_160 : decode cX12_truths 160 = .ok (.iload_n 1, 1) := by decide +kernel
theorem dX12_truths_161 : decode cX12_truths 161 = .ok (.iconst 3, 1) := by decide +kernel
theorem dX12_truths_162 : decode cX12_truths 162 = .ok (.if_icmp .ne 8, 3) := by decide +kernel
theorem dX12_truths_165 : decode cX12_truths 165 = .ok (.iload 6, 2) := by decide +kernel
theorem dX12_truths_167 : decode cX12_truths 167 = .ok (.goto 5, 3) := by decide +kernel
theorem dX12_truths_170 : decode cX12_truths 170 = .ok (.iload 7, 2) := by decide +kernel
theorem dX12_truths_172 : decode cX12_truths 172 = .ok (.ireturn, 1) := by decide +kernel
theorem dX12_ask_0 : decode cX12_ask 0 = .ok (.aload_n 0, 1) := by decide +kernel
theorem dX12_ask_1 : decode cX12_ask 1 = .ok (.invokevirtual 384, 3) := by decide +kernel
theorem dX12_ask_4 : decode cX12_ask 4 = .ok (.ifCond .eq 13, 3) := by decide +kernel
theorem dX12_ask_7 : decode cX12_ask 7 = .ok (.iload_n 1, 1) := by decide +kernel
theorem dX12_ask_8 : decode cX12_ask 8 = .ok (.i2l, 1) := by decide +kernel
theorem dX12_ask_9 : decode cX12_ask 9 = .ok (.lconst 0, 1) := by decide +kernel
theorem dX12_ask_10 : decode cX12_ask 10 = .ok (.lconst 1, 1) := by decide +kernel
theorem dX12_ask_11 : decode cX12_ask 11 = .ok (.invokestatic 106, 3) := by decide +kernel
theorem dX12_ask_14 : decode cX12_ask 14 = .ok (.ifCond .ne 5, 3) := by decide +kernel
theorem dX12_ask_17 : decode cX12_ask 17 = .ok (.iconst (-1), 1) := by decide +kernel
theorem dX12_ask_18 : decode cX12_ask 18 = .ok (.ireturn, 1) := by decide +kernel
theorem dX12_ask_19 : decode cX12_ask 19 = .ok (.bipush (-2), 2) := by decide +kernel
theorem dX12_ask_21 : decode cX12_ask 21 = .ok (.istore_n 2, 1) := by decide +kernel
theorem dX12_ask_22 : decode cX12_ask 22 = .ok (.iconst 0, 1) := by decide +kernel
theorem dX12_ask_23 : decode cX12_ask 23 = .ok (.istore_n 3, 1) := by decide +kernel
theorem dX12_ask_24 : decode cX12_ask 24 = .ok (.iconst 0, 1) := by decide +kernel
theorem dX12_ask_25 : decode cX12_ask 25 = .ok (.istore 4, 2) := by decide +kernel
theorem dX12_ask_27 : decode cX12_ask 27 = .ok (.iload 4, 2) := by decide +kernel
theorem dX12_ask_29 : decode cX12_ask 29 = .ok (.aload_n 0, 1) := by decide +kernel
theorem dX12_ask_30 : decode cX12_ask 30 = .ok (.getfield 39, 3) := by decide +kernel
theorem dX12_ask_33 : decode cX12_ask 33 = .ok (.iconst 0, 1) := by decide +kernel
theorem dX12_ask_34 : decode cX12_ask 34 = .ok (.iaload, 1) := by decide +kernel
theorem dX12_ask_35 : decode cX12_ask 35 = .ok (.if_icmp .ge 110, 3) := by decide +kernel
theorem dX12_ask_38 : decode cX12_ask 38 = .ok (.iconst 0, 1) := by decide +kernel
theorem dX12_ask_39 : decode cX12_ask 39 = .ok (.istore 5, 2) := by decide +kernel
theorem dX12_ask_41 : decode cX12_ask 41 = .ok (.iconst 0, 1) := by decide +kernel
theorem dX12_ask_42 : decode cX12_ask 42 = .ok (.istore 6, 2) := by decide +kernel
theorem dX12_ask_44 : decode cX12_ask 44 = .ok (.iconst 0, 1) := by decide +kernel
theorem dX12_ask_45 : decode cX12_ask 45 = .ok (.istore 7, 2) := by decide +kernel
theorem dX12_ask_47 : decode cX12_ask 47 = .ok (.iload 7, 2) := by decide +kernel
theorem dX12_ask_49 : decode cX12_ask 49 = .ok (.iconst 1, 1) := by decide +kernel
theorem dX12_ask_50 : decode cX12_ask 50 = .ok (.aload_n 0, 1) := by decide +kernel
theorem dX12_ask_51 : decode cX12_ask 51 = .ok (.getfield 39, 3) := by decide +kernel
theorem dX12_ask_54 : decode cX12_ask 54 = .ok (.iconst 0, 1) := by decide +kernel
theorem dX12_ask_55 : decode cX12_ask 55 = .ok (.iaload, 1) := by decide +kernel
theorem dX12_ask_56 : decode cX12_ask 56 = .ok (.ishl, 1) := by decide +kernel
theorem dX12_ask_57 : decode cX12_ask 57 = .ok (.if_icmp .ge 36, 3) := by decide +kernel
theorem dX12_ask_60 : decode cX12_ask 60 = .ok (.aload_n 0, 1) := by decide +kernel
theorem dX12_ask_61 : decode cX12_ask 61 = .ok (.iload 7, 2) := by decide +kernel
theorem dX12_ask_63 : decode cX12_ask 63 = .ok (.invokevirtual 424, 3) := by decide +kernel
theorem dX12_ask_66 : decode cX12_ask 66 = .ok (.ifCond .ne 6, 3) := by decide +kernel
theorem dX12_ask_69 : decode cX12_ask 69 = .ok (.goto 18, 3) := by decide +kernel
theorem dX12_ask_72 : decode cX12_ask 72 = .ok (.iinc 5 1, 3) := by decide +kernel
theorem dX12_ask_75 : decode cX12_ask 75 = .ok (.iload 6, 2) := by decide +kernel
theorem dX12_ask_77 : decode cX12_ask 77 = .ok (.iload 7, 2) := by decide +kernel
theorem dX12_ask_79 : decode cX12_ask 79 = .ok (.iload 4, 2) := by decide +kernel
theorem dX12_ask_81 : decode cX12_ask 81 = .ok (.ishr, 1) := by decide +kernel
theorem dX12_ask_82 : decode cX12_ask 82 = .ok (.iconst 1, 1) := by decide +kernel
theorem dX12_ask_83 : decode cX12_ask 83 = .ok (.iand, 1) := by decide +kernel
theorem dX12_ask_84 : decode cX12_ask 84 = .ok (.iadd, 1) := by decide +kernel
theorem dX12_ask_85 : decode cX12_ask 85 = .ok (.istore 6, 2) := by decide +kernel
theorem dX12_ask_87 : decode cX12_ask 87 = .ok (.iinc 7 1, 3) := by decide +kernel
theorem dX12_ask_90 : decode cX12_ask 90 = .ok (.goto (-43), 3) := by decide +kernel
theorem dX12_ask_93 : decode cX12_ask 93 = .ok (.iload 6, 2) := by decide +kernel
theorem dX12_ask_95 : decode cX12_ask 95 = .ok (.iload 5, 2) := by decide +kernel
theorem dX12_ask_97 : decode cX12_ask 97 = .ok (.iload 6, 2) := by decide +kernel
theorem dX12_ask_99 : decode cX12_ask 99 = .ok (.isub, 1) := by decide +kernel
theorem dX12_ask_100 : decode cX12_ask 100 = .ok (.if_icmp .le 8, 3) := by decide +kernel
theorem dX12_ask_103 : decode cX12_ask 103 = .ok (.iload 6, 2) := by decide +kernel
theorem dX12_ask_105 : decode cX12_ask 105 = .ok (.goto 8, 3) := by decide +kernel
theorem dX12_ask_108 : decode cX12_ask 108 = .ok (.iload 5, 2) := by decide +kernel
theorem dX12_ask_110 : decode cX12_ask 110 = .ok (.iload 6, 2) := by decide +kernel
theorem dX12_ask_112 : decode cX12_ask 112 = .ok (.isub, 1) := by decide +kernel
theorem dX12_ask_113 : decode cX12_ask 113 = .ok (.istore 7, 2) := by decide +kernel
theorem dX12_ask_115 : decode cX12_ask 115 = .ok (.iload 5, 2) := by decide +kernel
theorem dX12_ask_117 : decode cX12_ask 117 = .ok (.ifCond .eq 22, 3) := by decide +kernel
theorem dX12_ask_120 : decode cX12_ask 120 = .ok (.iload_n 2, 1) := by decide +kernel
theorem dX12_ask_121 : decode cX12_ask 121 = .ok (.ifCond .lt 12, 3) := by decide +kernel
theorem dX12_ask_124 : decode cX12_ask 124 = .ok (.iload 7, 2) := by decide +kernel
theorem dX12_ask_126 : decode cX12_ask 126 = .ok (.iload_n 3, 1) := by decide +kernel
theorem dX12_ask_127 : decode cX12_ask 127 = .ok (.if_icmp .lt 6, 3) := by decide +kernel
theorem dX12_ask_130 : decode cX12_ask 130 = .ok (.goto 9, 3) := by decide +kernel
theorem dX12_ask_133 : decode cX12_ask 133 = .ok (.iload 4, 2) := by decide +kernel
theorem dX12_ask_135 : decode cX12_ask 135 = .ok (.istore_n 2, 1) := by decide +kernel
theorem dX12_ask_136 : decode cX12_ask 136 = .ok (.iload 7, 2) := by decide +kernel
theorem dX12_ask_138 : decode cX12_ask 138 = .ok (.istore_n 3, 1) := by decide +kernel
theorem dX12_ask_139 : decode cX12_ask 139 = .ok (.iinc 4 1, 3) := by decide +kernel
theorem dX12_ask_142 : decode cX12_ask 142 = .ok (.goto (-115), 3) := by decide +kernel
theorem dX12_ask_145 : decode cX12_ask 145 = .ok (.iload_n 2, 1) := by decide +kernel
theorem dX12_ask_146 : decode cX12_ask 146 = .ok (.ifCond .lt 7, 3) := by decide +kernel
theorem dX12_ask_149 : decode cX12_ask 149 = .ok (.iload_n 1, 1) := by decide +kernel
theorem dX12_ask_150 : decode cX12_ask 150 = .ok (.ifCond .ne 7, 3) := by decide +kernel
theorem dX12_ask_153 : decode cX12_ask 153 = .ok (.iload_n 2, 1) := by decide +kernel
theorem dX12_ask_154 : decode cX12_ask 154 = .ok (.goto 4, 3) := by decide +kernel
theorem dX12_ask_157 : decode cX12_ask 157 = .ok (.iload_n 3, 1) := by decide +kernel
theorem dX12_ask_158 : decode cX12_ask 158 = .ok (.ireturn, 1) := by decide +kernel
theorem dX12_tale_0 : decode cX12_tale 0 = .ok (.iload_n 1, 1) := by decide +kernel
theorem dX12_tale_1 : decode cX12_tale 1 = .ok (.iconst (-1), 1) := by decide +kernel
theorem dX12_tale_2 : decode cX12_tale 2 = .ok (.if_icmp .ne 14, 3) := by decide +kernel
theorem dX12_tale_5 : decode cX12_tale 5 = .ok (.aload_n 0, 1) := by decide +kernel
theorem dX12_tale_6 : decode cX12_tale 6 = .ok (.getfield 39, 3) := by decide +kernel
theorem dX12_tale_9 : decode cX12_tale 9 = .ok (.sipush 327, 3) := by decide +kernel
theorem dX12_tale_12 : decode cX12_tale 12 = .ok (.iconst 0, 1) := by decide +kernel
theorem dX12_tale_13 : decode cX12_tale 13 = .ok (.iastore, 1) := by decide +kernel
theorem dX12_tale_14 : decode cX12_tale 14 = .ok (.iconst 0, 1) := by decide +kernel
theorem dX12_tale_15 : decode cX12_tale 15 = .ok (.ireturn, 1) := by decide +kernel
theorem dX12_tale_16 : decode cX12_tale 16 = .ok (.iload_n 1, 1) := by decide +kernel
theorem dX12_tale_17 : decode cX12_tale 17 = .ok (.i2l, 1) := by decide +kernel
theorem dX12_tale_18 : decode cX12_tale 18 = .ok (.lconst 0, 1) := by decide +kernel
theorem dX12_tale_19 : decode cX12_tale 19 = .ok (.ldc2_w 430, 3) := by decide +kernel
theorem dX12_tale_22 : decode cX12_tale 22 = .ok (.invokestatic 106, 3) := by decide +kernel
theorem dX12_tale_25 : decode cX12_tale 25 = .ok (.ifCond .eq 16, 3) := by decide +kernel
theorem dX12_tale_28 : decode cX12_tale 28 = .ok (.aload_n 0, 1) := by decide +kernel
theorem dX12_tale_29 : decode cX12_tale 29 = .ok (.getfield 39, 3) := by decide +kernel
theorem dX12_tale_32 : decode cX12_tale 32 = .ok (.sipush 327, 3) := by decide +kernel
theorem dX12_tale_35 : decode cX12_tale 35 = .ok (.iaload, 1) := by decide +kernel
theorem dX12_tale_36 : decode cX12_tale 36 = .ok (.bipush 10, 2) := by decide +kernel
theorem dX12_tale_38 : decode cX12_tale 38 = .ok (.if_icmp .ne 6, 3) := by decide +kernel
theorem dX12_tale_41 : decode cX12_tale 41 = .ok (.bipush (-2), 2) := by decide +kernel
theorem dX12_tale_43 : decode cX12_tale 43 = .ok (.ireturn, 1) := by decide +kernel
theorem dX12_tale_44 : decode cX12_tale 44 = .ok (.aload_n 0, 1) := by decide +kernel
theorem dX12_tale_45 : decode cX12_tale 45 = .ok (.getfield 39, 3) := by decide +kernel
theorem dX12_tale_48 : decode cX12_tale 48 = .ok (.sipush 306, 3) := by decide +kernel
theorem dX12_tale_51 : decode cX12_tale 51 = .ok (.iconst 2, 1) := by decide +kernel
theorem dX12_tale_52 : decode cX12_tale 52 = .ok (.aload_n 0, 1) := by decide +kernel
theorem dX12_tale_53 : decode cX12_tale 53 = .ok (.getfield 39, 3) := by decide +kernel
theorem dX12_tale_56 : decode cX12_tale 56 = .ok (.sipush 327, 3) := by decide +kernel
theorem dX12_tale_59 : decode cX12_tale 59 = .ok (.iaload, 1) := by decide +kernel
theorem dX12_tale_60 : decode cX12_tale 60 = .ok (.imul, 1) := by decide +kernel
theorem dX12_tale_61 : decode cX12_tale 61 = .ok (.iadd, 1) := by decide +kernel
theorem dX12_tale_62 : decode cX12_tale 62 = .ok (.iload_n 1, 1) := by decide +kernel
theorem dX12_tale_63 : decode cX12_tale 63 = .ok (.iastore, 1) := by decide +kernel
theorem dX12_tale_64 : decode cX12_tale 64 = .ok (.aload_n 0, 1) := by decide +kernel
theorem dX12_tale_65 : decode cX12_tale 65 = .ok (.getfield 39, 3) := by decide +kernel
theorem dX12_tale_68 : decode cX12_tale 68 = .ok (.sipush 306, 3) := by decide +kernel
theorem dX12_tale_71 : decode cX12_tale 71 = .ok (.iconst 2, 1) := by decide +kernel
theorem dX12_tale_72 : decode cX12_tale 72 = .ok (.aload_n 0, 1) := by decide +kernel
theorem dX12_tale_73 : decode cX12_tale 73 = .ok (.getfield 39, 3) := by decide +kernel
theorem dX12_tale_76 : decode cX12_tale 76 = .ok (.sipush 327, 3) := by decide +kernel
theorem dX12_tale_79 : decode cX12_tale 79 = .ok (.iaload, 1) := by decide +kernel
theorem dX12_tale_80 : decode cX12_tale 80 = .ok (.imul, 1) := by decide +kernel
theorem dX12_tale_81 : decode cX12_tale 81 = .ok (.iadd, 1) := by decide +kernel
theorem dX12_tale_82 : decode cX12_tale 82 = .ok (.iconst 1, 1) := by decide +kernel
theorem dX12_tale_83 : decode cX12_tale 83 = .ok (.iadd, 1) := by decide +kernel
theorem dX12_tale_84 : decode cX12_tale 84 = .ok (.iload_n 2, 1) := by decide +kernel
theorem dX12_tale_85 : decode cX12_tale 85 = .ok (.ifCond .eq 7, 3) := by decide +kernel
theorem dX12_tale_88 : decode cX12_tale 88 = .ok (.iconst 1, 1) := by decide +kernel
theorem dX12_tale_89 : decode cX12_tale 89 = .ok (.goto 4, 3) := by decide +kernel
theorem dX12_tale_92 : decode cX12_tale 92 = .ok (.iconst 0, 1) := by decide +kernel
theorem dX12_tale_93 : decode cX12_tale 93 = .ok (.iastore, 1) := by decide +kernel
theorem dX12_tale_94 : decode cX12_tale 94 = .ok (.aload_n 0, 1) := by decide +kernel
theorem dX12_tale_95 : decode cX12_tale 95 = .ok (.getfield 39, 3) := by decide +kernel
theorem dX12_tale_98 : decode cX12_tale 98 = .ok (.sipush 327, 3) := by decide +kernel
theorem dX12_tale_101 : decode cX12_tale 101 = .ok (.dup2, 1) := by decide +kernel
theorem dX12_tale_102 : decode cX12_tale 102 = .ok (.iaload, 1) := by decide +kernel
theorem dX12_tale_103 : decode cX12_tale 103 = .ok (.iconst 1, 1) := by decide +kernel
theorem dX12_tale_104 : decode cX12_tale 104 = .ok (.iadd, 1) := by decide +kernel
theorem dX12_tale_105 : decode cX12_tale 105 = .ok (.iastore, 1) := by decide +kernel
theorem dX12_tale_106 : decode cX12_tale 106 = .ok (.aload_n 0, 1) := by decide +kernel
theorem dX12_tale_107 : decode cX12_tale 107 = .ok (.getfield 39, 3) := by decide +kernel
theorem dX12_tale_110 : decode cX12_tale 110 = .ok (.sipush 327, 3) := by decide +kernel
theorem dX12_tale_113 : decode cX12_tale 113 = .ok (.iaload, 1) := by decide +kernel
theorem dX12_tale_114 : decode cX12_tale 114 = .ok (.ireturn, 1) := by decide +kernel
theorem dX12_fitsTales_0 : decode cX12_fitsTales 0 = .ok (.iconst 0, 1) := by decide +kernel
theorem dX12_fitsTales_1 : decode cX12_fitsTales 1 = .ok (.istore_n 3, 1) := by decide +kernel
theorem dX12_fitsTales_2 : decode cX12_fitsTales 2 = .ok (.iload_n 3, 1) := by decide +kernel
theorem dX12_fitsTales_3 : decode cX12_fitsTales 3 = .ok (.aload_n 0, 1) := by decide +kernel
theorem dX12_fitsTales_4 : decode cX12_fitsTales 4 = .ok (.getfield 39, 3) := by decide +kernel
theorem dX12_fitsTales_7 : decode cX12_fitsTales 7 = .ok (.sipush 327, 3) := by decide +kernel
theorem dX12_fitsTales_10 : decode cX12_fitsTales 10 = .ok (.iaload, 1) := by decide +kernel
theorem dX12_fitsTales_11 : decode cX12_fitsTales 11 = .ok (.if_icmp .ge 54, 3) := by decide +kernel
theorem dX12_fitsTales_14 : decode cX12_fitsTales 14 = .ok (.aload_n 0, 1) := by decide +kernel
theorem dX12_fitsTales_15 : decode cX12_fitsTales 15 = .ok (.getfield 39, 3) := by decide +kernel
theorem dX12_fitsTales_18 : decode cX12_fitsTales 18 = .ok (.sipush 306, 3) := by decide +kernel
theorem dX12_fitsTales_21 : decode cX12_fitsTales 21 = .ok (.iconst 2, 1) := by decide +kernel
theorem dX12_fitsTales_22 : decode cX12_fitsTales 22 = .ok (.iload_n 3, 1) := by decide +kernel
theorem dX12_fitsTales_23 : decode cX12_fitsTales 23 = .ok (.imul, 1) := by decide +kernel
theorem dX12_fitsTales_24 : decode cX12_fitsTales 24 = .ok (.iadd, 1) := by decide +kernel
theorem dX12_fitsTales_25 : decode cX12_fitsTales 25 = .ok (.iaload, 1) := by decide +kernel
theorem dX12_fitsTales_26 : decode cX12_fitsTales 26 = .ok (.istore 4, 2) := by decide +kernel
theorem dX12_fitsTales_28 : decode cX12_fitsTales 28 = .ok (.iload 4, 2) := by decide +kernel
theorem dX12_fitsTales_30 : decode cX12_fitsTales 30 = .ok (.iload_n 2, 1) := by decide +kernel
theorem dX12_fitsTales_31 : decode cX12_fitsTales 31 = .ok (.if_icmp .ge 26, 3) := by decide +kernel
theorem dX12_fitsTales_34 : decode cX12_fitsTales 34 = .ok (.iload_n 1, 1) := by decide +kernel
theorem dX12_fitsTales_35 : decode cX12_fitsTales 35 = .ok (.iload 4, 2) := by decide +kernel
theorem dX12_fitsTales_37 : decode cX12_fitsTales 37 = .ok (.ishr, 1) := by decide +kernel
theorem dX12_fitsTales_38 : decode cX12_fitsTales 38 = .ok (.iconst 1, 1) := by decide +kernel
theorem dX12_fitsTales_39 : decode cX12_fitsTales 39 = .ok (.iand, 1) := by decide +kernel
theorem dX12_fitsTales_40 : decode cX12_fitsTales 40 = .ok (.aload_n 0, 1) := by decide +kernel
theorem dX12_fitsTales_41 : decode cX12_fitsTales 41 = .ok (.getfield 39, 3) := by decide +kernel
theorem dX12_fitsTales_44 : decode cX12_fitsTales 44 = .ok (.sipush 306, 3) := by decide +kernel
theorem dX12_fitsTales_47 : decode cX12_fitsTales 47 = .ok (.iconst 2, 1) := by decide +kernel
theorem dX12_fitsTales_48 : decode cX12_fitsTales 48 = .ok (.iload_n 3, 1) := by decide +kernel
theorem dX12_fitsTales_49 : decode cX12_fitsTales 49 = .ok (.imul, 1) := by decide +kernel
theorem dX12_fitsTales_50 : decode cX12_fitsTales 50 = .ok (.iadd, 1) := by decide +kernel
theorem dX12_fitsTales_51 : decode cX12_fitsTales 51 = .ok (.iconst 1, 1) := by decide +kernel
theorem dX12_fitsTales_52 : decode cX12_fitsTales 52 = .ok (.iadd, 1) := by decide +kernel
theorem dX12_fitsTales_53 : decode cX12_fitsTales 53 = .ok (.iaload, 1) := by decide +kernel
theorem dX12_fitsTales_54 : decode cX12_fitsTales 54 = .ok (.if_icmp .eq 5, 3) := by decide +kernel
theorem dX12_fitsTales_57 : decode cX12_fitsTales 57 = .ok (.iconst 0, 1) := by decide +kernel
theorem dX12_fitsTales_58 : decode cX12_fitsTales 58 = .ok (.ireturn, 1) := by decide +kernel
theorem dX12_fitsTales_59 : decode cX12_fitsTales 59 = .ok (.iinc 3 1, 3) := by decide +kernel
theorem dX12_fitsTales_62 : decode cX12_fitsTales 62 = .ok (.goto (-60), 3) := by decide +kernel
theorem dX12_fitsTales_65 : decode cX12_fitsTales 65 = .ok (.iconst 1, 1) := by decide +kernel
theorem dX12_fitsTales_66 : decode cX12_fitsTales 66 = .ok (.ireturn, 1) := by decide +kernel
theorem dX12_schedules_0 : decode cX12_schedules 0 = .ok (.iload_n 1, 1) := by decide +kernel
theorem dX12_schedules_1 : decode cX12_schedules 1 = .ok (.i2l, 1) := by decide +kernel
theorem dX12_schedules_2 : decode cX12_schedules 2 = .ok (.lconst 1, 1) := by decide +kernel
theorem dX12_schedules_3 : decode cX12_schedules 3 = .ok (.ldc2_w 432, 3) := by decide +kernel
theorem dX12_schedules_6 : decode cX12_schedules 6 = .ok (.invokestatic 106, 3) := by decide +kernel
theorem dX12_schedules_9 : decode cX12_schedules 9 = .ok (.ifCond .eq 24, 3) := by decide +kernel
theorem dX12_schedules_12 : decode cX12_schedules 12 = .ok (.iload_n 2, 1) := by decide +kernel
theorem dX12_schedules_13 : decode cX12_schedules 13 = .ok (.i2l, 1) := by decide +kernel
theorem dX12_schedules_14 : decode cX12_schedules 14 = .ok (.lconst 0, 1) := by decide +kernel
theorem dX12_schedules_15 : decode cX12_schedules 15 = .ok (.iload_n 1, 1) := by decide +kernel
theorem dX12_schedules_16 : decode cX12_schedules 16 = .ok (.i2l, 1) := by decide +kernel
theorem dX12_schedules_17 : decode cX12_schedules 17 = .ok (.invokestatic 106, 3) := by decide +kernel
theorem dX12_schedules_20 : decode cX12_schedules 20 = .ok (.ifCond .eq 13, 3) := by decide +kernel
theorem dX12_schedules_23 : decode cX12_schedules 23 = .ok (.iload_n 3, 1) := by decide +kernel
theorem dX12_schedules_24 : decode cX12_schedules 24 = .ok (.i2l, 1) := by decide +kernel
theorem dX12_schedules_25 : decode cX12_schedules 25 = .ok (.lconst 0, 1) := by decide +kernel
theorem dX12_schedules_26 : decode cX12_schedules 26 = .ok (.lconst 1, 1) := by decide +kernel
theorem dX12_schedules_27 : decode cX12_schedules 27 = .ok (.invokestatic 106, 3) := by decide +kernel
theorem dX12_schedules_30 : decode cX12_schedules 30 = .ok (.ifCond .ne 5, 3) := by decide +kernel
theorem dX12_schedules_33 : decode cX12_schedules 33 = .ok (.iconst (-1), 1) := by decide +kernel
theorem dX12_schedules_34 : decode cX12_schedules 34 = .ok (.ireturn, 1) := by decide +kernel
theorem dX12_schedules_35 : decode cX12_schedules 35 = .ok (.iconst 0, 1) := by decide +kernel
theorem dX12_schedules_36 : decode cX12_schedules 36 = .ok (.istore 4, 2) := by decide +kernel
theorem dX12_schedules_38 : decode cX12_schedules 38 = .ok (.iconst 1, 1) := by decide +kernel
theorem dX12_schedules_39 : decode cX12_schedules 39 = .ok (.iload_n 1, 1) := by decide +kernel
theorem dX12_schedules_40 : decode cX12_schedules 40 = .ok (.ishl, 1) := by decide +kernel
theorem dX12_schedules_41 : decode cX12_schedules 41 = .ok (.iconst 1, 1) := by decide +kernel
theorem dX12_schedules_42 : decode cX12_schedules 42 = .ok (.isub, 1) := by decide +kernel
theorem dX12_schedules_43 : decode cX12_schedules 43 = .ok (.istore 5, 2) := by decide +kernel
theorem dX12_schedules_45 : decode cX12_schedules 45 = .ok (.iconst 0, 1) := by decide +kernel
theorem dX12_schedules_46 : decode cX12_schedules 46 = .ok (.istore 6, 2) := by decide +kernel
theorem dX12_schedules_48 : decode cX12_schedules 48 = .ok (.iload 6, 2) := by decide +kernel
theorem dX12_schedules_50 : decode cX12_schedules 50 = .ok (.iconst 1, 1) := by decide +kernel
theorem dX12_schedules_51 : decode cX12_schedules 51 = .ok (.iload_n 1, 1) := by decide +kernel
theorem dX12_schedules_52 : decode cX12_schedules 52 = .ok (.ishl, 1) := by decide +kernel
theorem dX12_schedules_53 : decode cX12_schedules 53 = .ok (.if_icmp .ge 41, 3) := by decide +kernel
theorem dX12_schedules_56 : decode cX12_schedules 56 = .ok (.iload 6, 2) := by decide +kernel
theorem dX12_schedules_58 : decode cX12_schedules 58 = .ok (.invokestatic 399, 3) := by decide +kernel
theorem dX12_schedules_61 : decode cX12_schedules 61 = .ok (.iload_n 2, 1) := by decide +kernel
theorem dX12_schedules_62 : decode cX12_schedules 62 = .ok (.if_icmp .ne 26, 3) := by decide +kernel
theorem dX12_schedules_65 : decode cX12_schedules 65 = .ok (.aload_n 0, 1) := by decide +kernel
theorem dX12_schedules_66 : decode cX12_schedules 66 = .ok (.iload 6, 2) := by decide +kernel
theorem dX12_schedules_68 : decode cX12_schedules 68 = .ok (.iload_n 1, 1) := by decide +kernel
theorem dX12_schedules_69 : decode cX12_schedules 69 = .ok (.invokevirtual 434, 3) := by decide +kernel
theorem dX12_schedules_72 : decode cX12_schedules 72 = .ok (.ifCond .ne 6, 3) := by decide +kernel
theorem dX12_schedules_75 : decode cX12_schedules 75 = .ok (.goto 13, 3) := by decide +kernel
theorem dX12_schedules_78 : decode cX12_schedules 78 = .ok (.iinc 4 1, 3) := by decide +kernel
theorem dX12_schedules_81 : decode cX12_schedules 81 = .ok (.iload 5, 2) := by decide +kernel
theorem dX12_schedules_83 : decode cX12_schedules 83 = .ok (.iload 6, 2) := by decide +kernel
theorem dX12_schedules_85 : decode cX12_schedules 85 = .ok (.iand, 1) := by decide +kernel
theorem dX12_schedules_86 : decode cX12_schedules 86 = .ok (.istore 5, 2) := by decide +kernel
theorem dX12_schedules_88 : decode cX12_schedules 88 = .ok (.iinc 6 1, 3) := by decide +kernel
theorem dX12_schedules_91 : decode cX12_schedules 91 = .ok (.goto (-43), 3) := by decide +kernel
theorem dX12_schedules_94 : decode cX12_schedules 94 = .ok (.iload_n 3, 1) := by decide +kernel
theorem dX12_schedules_95 : decode cX12_schedules 95 = .ok (.ifCond .ne 8, 3) := by decide +kernel
theorem dX12_schedules_98 : decode cX12_schedules 98 = .ok (.iload 4, 2) := by decide +kernel
theorem dX12_schedules_100 : decode cX12_schedules 100 = .ok (.goto 14, 3) := by decide +kernel
theorem dX12_schedules_103 : decode cX12_schedules 103 = .ok (.iload 4, 2) := by decide +kernel
theorem dX12_schedules_105 : decode cX12_schedules 105 = .ok (.ifCond .ne 7, 3) := by decide +kernel
theorem dX12_schedules_108 : decode cX12_schedules 108 = .ok (.iconst 0, 1) := by decide +kernel
theorem dX12_schedules_109 : decode cX12_schedules 109 = .ok (.goto 5, 3) := by decide +kernel
theorem dX12_schedules_112 : decode cX12_schedules 112 = .ok (.iload 5, 2) := by decide +kernel
theorem dX12_schedules_114 : decode cX12_schedules 114 = .ok (.ireturn, 1) := by decide +kernel
theorem dX12_seed_0 : decode cX12_seed 0 = .ok (.iload_n 1, 1) := by decide +kernel
theorem dX12_seed_1 : decode cX12_seed 1 = .ok (.ifCond .ge 5, 3) := by decide +kernel
theorem dX12_seed_4 : decode cX12_seed 4 = .ok (.iconst (-1), 1) := by decide +kernel
theorem dX12_seed_5 : decode cX12_seed 5 = .ok (.ireturn, 1) := by decide +kernel
theorem dX12_seed_6 : decode cX12_seed 6 = .ok (.aload_n 0, 1) := by decide +kernel
theorem dX12_seed_7 : decode cX12_seed 7 = .ok (.getfield 437, 3) := by decide +kernel
theorem dX12_seed_10 : decode cX12_seed 10 = .ok (.istore_n 2, 1) := by decide +kernel
theorem dX12_seed_11 : decode cX12_seed 11 = .ok (.aload_n 0, 1) := by decide +kernel
theorem dX12_seed_12 : decode cX12_seed 12 = .ok (.iload_n 1, 1) := by decide +kernel
theorem dX12_seed_13 : decode cX12_seed 13 = .ok (.putfield 437, 3) := by decide +kernel
theorem dX12_seed_16 : decode cX12_seed 16 = .ok (.iload_n 2, 1) := by decide +kernel
theorem dX12_seed_17 : decode cX12_seed 17 = .ok (.ireturn, 1) := by decide +kernel
theorem dX12_draw_0 : decode cX12_draw 0 = .ok (.aload_n 0, 1) := by decide +kernel
theorem dX12_draw_1 : decode cX12_draw 1 = .ok (.aload_n 0, 1) := by decide +kernel
theorem dX12_draw_2 : decode cX12_draw 2 = .ok (.getfield 440, 3) := by decide +kernel
theorem dX12_draw_5 : decode cX12_draw 5 = .ok (.ldc2_w 444, 3) := by decide +kernel
theorem dX12_draw_8 : decode cX12_draw 8 = .ok (.lmul, 1) := by decide +kernel
theorem dX12_draw_9 : decode cX12_draw 9 = .ok (.ldc2_w 446, 3) := by decide +kernel
theorem dX12_draw_12 : decode cX12_draw 12 = .ok (.ladd, 1) := by decide +kernel
theorem dX12_draw_13 : decode cX12_draw 13 = .ok (.ldc2_w 448, 3) := by decide +kernel
theorem dX12_draw_16 : decode cX12_draw 16 = .ok (.lrem, 1) := by decide +kernel
theorem dX12_draw_17 : decode cX12_draw 17 = .ok (.putfield 440, 3) := by decide +kernel
theorem dX12_draw_20 : decode cX12_draw 20 = .ok (.aload_n 0, 1) := by decide +kernel
theorem dX12_draw_21 : decode cX12_draw 21 = .ok (.getfield 440, 3) := by decide +kernel
theorem dX12_draw_24 : decode cX12_draw 24 = .ok (.ldc2_w 450, 3) := by decide +kernel
theorem dX12_draw_27 : decode cX12_draw 27 = .ok (.ldiv, 1) := by decide +kernel
theorem dX12_draw_28 : decode cX12_draw 28 = .ok (.iload_n 1, 1) := by decide +kernel
theorem dX12_draw_29 : decode cX12_draw 29 = .ok (.i2l, 1) := by decide +kernel
theorem dX12_draw_30 : decode cX12_draw 30 = .ok (.lrem, 1) := by decide +kernel
theorem dX12_draw_31 : decode cX12_draw 31 = .ok (.l2i, 1) := by decide +kernel
theorem dX12_draw_32 : decode cX12_draw 32 = .ok (.ireturn, 1) := by decide +kernel
theorem dX12_drawsDay_0 : decode cX12_drawsDay 0 = .ok (.iconst 0, 1) := by decide +kernel
theorem dX12_drawsDay_1 : decode cX12_drawsDay 1 = .ok (.istore_n 1, 1) := by decide +kernel
theorem dX12_drawsDay_2 : decode cX12_drawsDay 2 = .ok (.aload_n 0, 1) := by decide +kernel
theorem dX12_drawsDay_3 : decode cX12_drawsDay 3 = .ok (.invokevirtual 387, 3) := by decide +kernel
theorem dX12_drawsDay_6 : decode cX12_drawsDay 6 = .ok (.iconst 0, 1) := by decide +kernel
theorem dX12_drawsDay_7 : decode cX12_drawsDay 7 = .ok (.istore_n 2, 1) := by decide +kernel
theorem dX12_drawsDay_8 : decode cX12_drawsDay 8 = .ok (.iload_n 2, 1) := by decide +kernel
theorem dX12_drawsDay_9 : decode cX12_drawsDay 9 = .ok (.bipush 12, 2) := by decide +kernel
theorem dX12_drawsDay_11 : decode cX12_drawsDay 11 = .ok (.if_icmp .ge 145, 3) := by decide +kernel
theorem dX12_drawsDay_14 : decode cX12_drawsDay 14 = .ok (.aload_n 0, 1) := by decide +kernel
theorem dX12_drawsDay_15 : decode cX12_drawsDay 15 = .ok (.getfield 39, 3) := by decide +kernel
theorem dX12_drawsDay_18 : decode cX12_drawsDay 18 = .ok (.iconst 3, 1) := by decide +kernel
theorem dX12_drawsDay_19 : decode cX12_drawsDay 19 = .ok (.iaload, 1) := by decide +kernel
theorem dX12_drawsDay_20 : decode cX12_drawsDay 20 = .ok (.ifCond .le 136, 3) := by decide +kernel
theorem dX12_drawsDay_23 : decode cX12_drawsDay 23 = .ok (.aload_n 0, 1) := by decide +kernel
theorem dX12_drawsDay_24 : decode cX12_drawsDay 24 = .ok (.getfield 39, 3) := by decide +kernel
theorem dX12_drawsDay_27 : decode cX12_drawsDay 27 = .ok (.bipush 7, 2) := by decide +kernel
theorem dX12_drawsDay_29 : decode cX12_drawsDay 29 = .ok (.iload_n 2, 1) := by decide +kernel
theorem dX12_drawsDay_30 : decode cX12_drawsDay 30 = .ok (.iastore, 1) := by decide +kernel
theorem dX12_drawsDay_31 : decode cX12_drawsDay 31 = .ok (.aload_n 0, 1) := by decide +kernel
theorem dX12_drawsDay_32 : decode cX12_drawsDay 32 = .ok (.aload_n 0, 1) := by decide +kernel
theorem dX12_drawsDay_33 : decode cX12_drawsDay 33 = .ok (.getfield 39, 3) := by decide +kernel
theorem dX12_drawsDay_36 : decode cX12_drawsDay 36 = .ok (.iconst 3, 1) := by decide +kernel
theorem dX12_drawsDay_37 : decode cX12_drawsDay 37 = .ok (.iaload, 1) := by decide +kernel
theorem dX12_drawsDay_38 : decode cX12_drawsDay 38 = .ok (.invokevirtual 452, 3) := by decide +kernel
theorem dX12_drawsDay_41 : decode cX12_drawsDay 41 = .ok (.istore_n 3, 1) := by decide +kernel
theorem dX12_drawsDay_42 : decode cX12_drawsDay 42 = .ok (.aload_n 0, 1) := by decide +kernel
theorem dX12_drawsDay_43 : decode cX12_drawsDay 43 = .ok (.getfield 39, 3) := by decide +kernel
theorem dX12_drawsDay_46 : decode cX12_drawsDay 46 = .ok (.sipush 179, 3) := by decide +kernel
theorem dX12_drawsDay_49 : decode cX12_drawsDay 49 = .ok (.iconst 2, 1) := by decide +kernel
theorem dX12_drawsDay_50 : decode cX12_drawsDay 50 = .ok (.iload_n 3, 1) := by decide +kernel
theorem dX12_drawsDay_51 : decode cX12_drawsDay 51 = .ok (.imul, 1) := by decide +kernel
theorem dX12_drawsDay_52 : decode cX12_drawsDay 52 = .ok (.iadd, 1) := by decide +kernel
theorem dX12_drawsDay_53 : decode cX12_drawsDay 53 = .ok (.iaload, 1) := by decide +kernel
theorem dX12_drawsDay_54 : decode cX12_drawsDay 54 = .ok (.istore 4, 2) := by decide +kernel
theorem dX12_drawsDay_56 : decode cX12_drawsDay 56 = .ok (.aload_n 0, 1) := by decide +kernel
theorem dX12_drawsDay_57 : decode cX12_drawsDay 57 = .ok (.getfield 39, 3) := by decide +kernel
theorem dX12_drawsDay_60 : decode cX12_drawsDay 60 = .ok (.sipush 179, 3) := by decide +kernel
theorem dX12_drawsDay_63 : decode cX12_drawsDay 63 = .ok (.iconst 2, 1) := by decide +kernel
theorem dX12_drawsDay_64 : decode cX12_drawsDay 64 = .ok (.iload_n 3, 1) := by decide +kernel
theorem dX12_drawsDay_65 : decode cX12_drawsDay 65 = .ok (.imul, 1) := by decide +kernel
theorem dX12_drawsDay_66 : decode cX12_drawsDay 66 = .ok (.iadd, 1) := by decide +kernel
theorem dX12_drawsDay_67 : decode cX12_drawsDay 67 = .ok (.iconst 1, 1) := by decide +kernel
theorem dX12_drawsDay_68 : decode cX12_drawsDay 68 = .ok (.iadd, 1) := by decide +kernel
theorem dX12_drawsDay_69 : decode cX12_drawsDay 69 = .ok (.iaload, 1) := by decide +kernel
theorem dX12_drawsDay_70 : decode cX12_drawsDay 70 = .ok (.istore 5, 2) := by decide +kernel
theorem dX12_drawsDay_72 : decode cX12_drawsDay 72 = .ok (.aload_n 0, 1) := by decide +kernel
theorem dX12_drawsDay_73 : decode cX12_drawsDay 73 = .ok (.iconst 2, 1) := by decide +kernel
theorem dX12_drawsDay_74 : decode cX12_drawsDay 74 = .ok (.invokevirtual 452, 3) := by decide +kernel
theorem dX12_drawsDay_77 : decode cX12_drawsDay 77 = .ok (.ifCond .ne 7, 3) := by decide +kernel
theorem dX12_drawsDay_80 : decode cX12_drawsDay 80 = .ok (.iconst 1, 1) := by decide +kernel
theorem dX12_drawsDay_81 : decode cX12_drawsDay 81 = .ok (.goto 4, 3) := by decide +kernel
theorem dX12_drawsDay_84 : decode cX12_drawsDay 84 = .ok (.iconst 0, 1) := by decide +kernel
theorem dX12_drawsDay_85 : decode cX12_drawsDay 85 = .ok (.istore 6, 2) := by decide +kernel
theorem dX12_drawsDay_87 : decode cX12_drawsDay 87 = .ok (.iload 6, 2) := by decide +kernel
theorem dX12_drawsDay_89 : decode cX12_drawsDay 89 = .ok (.iload 4, 2) := by decide +kernel
theorem dX12_drawsDay_91 : decode cX12_drawsDay 91 = .ok (.iload 5, 2) := by decide +kernel
theorem dX12_drawsDay_93 : decode cX12_drawsDay 93 = .ok (.if_icmp .ge 7, 3) := by decide +kernel
theorem dX12_drawsDay_96 : decode cX12_drawsDay 96 = .ok (.iconst 1, 1) := by decide +kernel
theorem dX12_drawsDay_97 : decode cX12_drawsDay 97 = .ok (.goto 4, 3) := by decide +kernel
theorem dX12_drawsDay_100 : decode cX12_drawsDay 100 = .ok (.iconst 0, 1) := by decide +kernel
theorem dX12_drawsDay_101 : decode cX12_drawsDay 101 = .ok (.if_icmp .ne 8, 3) := by decide +kernel
theorem dX12_drawsDay_104 : decode cX12_drawsDay 104 = .ok (.iload 4, 2) := by decide +kernel
theorem dX12_drawsDay_106 : decode cX12_drawsDay 106 = .ok (.goto 5, 3) := by decide +kernel
theorem dX12_drawsDay_109 : decode cX12_drawsDay 109 = .ok (.iload 5, 2) := by decide +kernel
theorem dX12_drawsDay_111 : decode cX12_drawsDay 111 = .ok (.istore 7, 2) := by decide +kernel
theorem dX12_drawsDay_113 : decode cX12_drawsDay 113 = .ok (.aload_n 0, 1) := by decide +kernel
theorem dX12_drawsDay_114 : decode cX12_drawsDay 114 = .ok (.aload_n 0, 1) := by decide +kernel
theorem dX12_drawsDay_115 : decode cX12_drawsDay 115 = .ok (.getfield 39, 3) := by decide +kernel
theorem dX12_drawsDay_118 : decode cX12_drawsDay 118 = .ok (.iconst 0, 1) := by decide +kernel
theorem dX12_drawsDay_119 : decode cX12_drawsDay 119 = .ok (.iaload, 1) := by decide +kernel
theorem dX12_drawsDay_120 : decode cX12_drawsDay 120 = .ok (.invokevirtual 452, 3) := by decide +kernel
theorem dX12_drawsDay_123 : decode cX12_drawsDay 123 = .ok (.istore 8, 2) := by decide +kernel
theorem dX12_drawsDay_125 : decode cX12_drawsDay 125 = .ok (.iload_n 1, 1) := by decide +kernel
theorem dX12_drawsDay_126 : decode cX12_drawsDay 126 = .ok (.aload_n 0, 1) := by decide +kernel
theorem dX12_drawsDay_127 : decode cX12_drawsDay 127 = .ok (.iload 7, 2) := by decide +kernel
theorem dX12_drawsDay_129 : decode cX12_drawsDay 129 = .ok (.iload 4, 2) := by decide +kernel
theorem dX12_drawsDay_131 : decode cX12_drawsDay 131 = .ok (.iload 5, 2) := by decide +kernel
theorem dX12_drawsDay_133 : decode cX12_drawsDay 133 = .ok (.iadd, 1) := by decide +kernel
theorem dX12_drawsDay_134 : decode cX12_drawsDay 134 = .ok (.iload 7, 2) := by decide +kernel
theorem dX12_drawsDay_136 : decode cX12_drawsDay 136 = .ok (.isub, 1) := by decide +kernel
theorem dX12_drawsDay_137 : decode cX12_drawsDay 137 = .ok (.iload 8, 2) := by decide +kernel
theorem dX12_drawsDay_139 : decode cX12_drawsDay 139 = .ok (.aload_n 0, 1) := by decide +kernel
theorem dX12_drawsDay_140 : decode cX12_drawsDay 140 = .ok (.iconst 2, 1) := by decide +kernel
theorem dX12_drawsDay_141 : decode cX12_drawsDay 141 = .ok (.invokevirtual 452, 3) := by decide +kernel
theorem dX12_drawsDay_144 : decode cX12_drawsDay 144 = .ok (.iconst 0, 1) := by decide +kernel
theorem dX12_drawsDay_145 : decode cX12_drawsDay 145 = .ok (.invokevirtual 377, 3) := by decide +kernel
theorem dX12_drawsDay_148 : decode cX12_drawsDay 148 = .ok (.iadd, 1) := by decide +kernel
theorem dX12_drawsDay_149 : decode cX12_drawsDay 149 = .ok (.istore_n 1, 1) := by decide +kernel
theorem dX12_drawsDay_150 : decode cX12_drawsDay 150 = .ok (.iinc 2 1, 3) := by decide +kernel
theorem dX12_drawsDay_153 : decode cX12_drawsDay 153 = .ok (.goto (-145), 3) := by decide +kernel
theorem dX12_drawsDay_156 : decode cX12_drawsDay 156 = .ok (.iload_n 1, 1) := by decide +kernel
theorem dX12_drawsDay_157 : decode cX12_drawsDay 157 = .ok (.ireturn, 1) := by decide +kernel
theorem dX12_years_0 : decode cX12_years 0 = .ok (.aload_n 0, 1) := by decide +kernel
theorem dX12_years_1 : decode cX12_years 1 = .ok (.invokevirtual 384, 3) := by decide +kernel
theorem dX12_years_4 : decode cX12_years 4 = .ok (.ifCond .eq 39, 3) := by decide +kernel
theorem dX12_years_7 : decode cX12_years 7 = .ok (.iload_n 1, 1) := by decide +kernel
theorem dX12_years_8 : decode cX12_years 8 = .ok (.i2l, 1) := by decide +kernel
theorem dX12_years_9 : decode cX12_years 9 = .ok (.lconst 1, 1) := by decide +kernel
theorem dX12_years_10 : decode cX12_years 10 = .ok (.ldc2_w 432, 3) := by decide +kernel
theorem dX12_years_13 : decode cX12_years 13 = .ok (.invokestatic 106, 3) := by decide +kernel
theorem dX12_years_16 : decode cX12_years 16 = .ok (.ifCond .eq 27, 3) := by decide +kernel
theorem dX12_years_19 : decode cX12_years 19 = .ok (.iload_n 2, 1) := by decide +kernel
theorem dX12_years_20 : decode cX12_years 20 = .ok (.i2l, 1) := by decide +kernel
theorem dX12_years_21 : decode cX12_years 21 = .ok (.lconst 1, 1) := by decide +kernel
theorem dX12_years_22 : decode cX12_years 22 = .ok (.ldc2_w 455, 3) := by decide +kernel
theorem dX12_years_25 : decode cX12_years 25 = .ok (.invokestatic 106, 3) := by decide +kernel
theorem dX12_years_28 : decode cX12_years 28 = .ok (.ifCond .eq 15, 3) := by decide +kernel
theorem dX12_years_31 : decode cX12_years 31 = .ok (.iload_n 3, 1) := by decide +kernel
theorem dX12_years_32 : decode cX12_years 32 = .ok (.i2l, 1) := by decide +kernel
theorem dX12_years_33 : decode cX12_years 33 = .ok (.lconst 0, 1) := by decide +kernel
theorem dX12_years_34 : decode cX12_years 34 = .ok (.ldc2_w 323, 3) := by decide +kernel
theorem dX12_years_37 : decode cX12_years 37 = .ok (.invokestatic 106, 3) := by decide +kernel
theorem dX12_years_40 : decode cX12_years 40 = .ok (.ifCond .ne 5, 3) := by decide +kernel
theorem dX12_years_43 : decode cX12_years 43 = .ok (.iconst (-1), 1) := by decide +kernel
theorem dX12_years_44 : decode cX12_years 44 = .ok (.ireturn, 1) := by decide +kernel
theorem dX12_years_45 : decode cX12_years 45 = .ok (.aload_n 0, 1) := by decide +kernel
theorem dX12_years_46 : decode cX12_years 46 = .ok (.aload_n 0, 1) := by decide +kernel
theorem dX12_years_47 : decode cX12_years 47 = .ok (.getfield 437, 3) := by decide +kernel
theorem dX12_years_50 : decode cX12_years 50 = .ok (.i2l, 1) := by decide +kernel
theorem dX12_years_51 : decode cX12_years 51 = .ok (.putfield 440, 3) := by decide +kernel
theorem dX12_years_54 : decode cX12_years 54 = .ok (.iconst 0, 1) := by decide +kernel
theorem dX12_years_55 : decode cX12_years 55 = .ok (.istore 4, 2) := by decide +kernel
theorem dX12_years_57 : decode cX12_years 57 = .ok (.iconst 0, 1) := by decide +kernel
theorem dX12_years_58 : decode cX12_years 58 = .ok (.istore 5, 2) := by decide +kernel
theorem dX12_years_60 : decode cX12_years 60 = .ok (.iconst 0, 1) := by decide +kernel
theorem dX12_years_61 : decode cX12_years 61 = .ok (.istore 6, 2) := by decide +kernel
theorem dX12_years_63 : decode cX12_years 63 = .ok (.iconst 0, 1) := by decide +kernel
theorem dX12_years_64 : decode cX12_years 64 = .ok (.istore 7, 2) := by decide +kernel
theorem dX12_years_66 : decode cX12_years 66 = .ok (.iload 7, 2) := by decide +kernel
theorem dX12_years_68 : decode cX12_years 68 = .ok (.sipush 130, 3) := by decide +kernel
theorem dX12_years_71 : decode cX12_years 71 = .ok (.if_icmp .ge 23, 3) := by decide +kernel
theorem dX12_years_74 : decode cX12_years 74 = .ok (.aload_n 0, 1) := by decide +kernel
theorem dX12_years_75 : decode cX12_years 75 = .ok (.getfield 52, 3) := by decide +kernel
theorem dX12_years_78 : decode cX12_years 78 = .ok (.iload 7, 2) := by decide +kernel
theorem dX12_years_80 : decode cX12_years 80 = .ok (.aload_n 0, 1) := by decide +kernel
theorem dX12_years_81 : decode cX12_years 81 = .ok (.getfield 39, 3) := by decide +kernel
theorem dX12_years_84 : decode cX12_years 84 = .ok (.iload 7, 2) := by decide +kernel
theorem dX12_years_86 : decode cX12_years 86 = .ok (.iaload, 1) := by decide +kernel
theorem dX12_years_87 : decode cX12_years 87 = .ok (.iastore, 1) := by decide +kernel
theorem dX12_years_88 : decode cX12_years 88 = .ok (.iinc 7 1, 3) := by decide +kernel
theorem dX12_years_91 : decode cX12_years 91 = .ok (.goto (-25), 3) := by decide +kernel
theorem dX12_years_94 : decode cX12_years 94 = .ok (.iconst 0, 1) := by decide +kernel
theorem dX12_years_95 : decode cX12_years 95 = .ok (.istore 7, 2) := by decide +kernel
theorem dX12_years_97 : decode cX12_years 97 = .ok (.iload 7, 2) := by decide +kernel
theorem dX12_years_99 : decode cX12_years 99 = .ok (.iload_n 1, 1) := by decide +kernel
theorem dX12_years_100 : decode cX12_years 100 = .ok (.if_icmp .ge 139, 3) := by decide +kernel
theorem dX12_years_103 : decode cX12_years 103 = .ok (.iconst 0, 1) := by decide +kernel
theorem dX12_years_104 : decode cX12_years 104 = .ok (.istore 8, 2) := by decide +kernel
theorem dX12_years_106 : decode cX12_years 106 = .ok (.iload 8, 2) := by decide +kernel
theorem dX12_years_108 : decode cX12_years 108 = .ok (.iload_n 2, 1) := by decide +kernel
theorem dX12_years_109 : decode cX12_years 109 = .ok (.if_icmp .ge 62, 3) := by decide +kernel
theorem dX12_years_112 : decode cX12_years 112 = .ok (.iload 4, 2) := by decide +kernel
theorem dX12_years_114 : decode cX12_years 114 = .ok (.aload_n 0, 1) := by decide +kernel
theorem dX12_years_115 : decode cX12_years 115 = .ok (.invokevirtual 457, 3) := by decide +kernel
theorem dX12_years_118 : decode cX12_years 118 = .ok (.iadd, 1) := by decide +kernel
theorem dX12_years_119 : decode cX12_years 119 = .ok (.istore 4, 2) := by decide +kernel
theorem dX12_years_121 : decode cX12_years 121 = .ok (.iconst 0, 1) := by decide +kernel
theorem dX12_years_122 : decode cX12_years 122 = .ok (.istore 9, 2) := by decide +kernel
theorem dX12_years_124 : decode cX12_years 124 = .ok (.iload 9, 2) := by decide +kernel
theorem dX12_years_126 : decode cX12_years 126 = .ok (.aload_n 0, 1) := by decide +kernel
theorem dX12_years_127 : decode cX12_years 127 = .ok (.getfield 39, 3) := by decide +kernel
theorem dX12_years_130 : decode cX12_years 130 = .ok (.iconst 2, 1) := by decide +kernel
theorem dX12_years_131 : decode cX12_years 131 = .ok (.iaload, 1) := by decide +kernel
theorem dX12_years_132 : decode cX12_years 132 = .ok (.if_icmp .ge 33, 3) := by decide +kernel
theorem dX12_years_135 : decode cX12_years 135 = .ok (.iload 5, 2) := by decide +kernel
theorem dX12_years_137 : decode cX12_years 137 = .ok (.aload_n 0, 1) := by decide +kernel
theorem dX12_years_138 : decode cX12_years 138 = .ok (.getfield 39, 3) := by decide +kernel
theorem dX12_years_141 : decode cX12_years 141 = .ok (.bipush 123, 2) := by decide +kernel
theorem dX12_years_143 : decode cX12_years 143 = .ok (.iload 9, 2) := by decide +kernel
theorem dX12_years_145 : decode cX12_years 145 = .ok (.iadd, 1) := by decide +kernel
theorem dX12_years_146 : decode cX12_years 146 = .ok (.iaload, 1) := by decide +kernel
theorem dX12_years_147 : decode cX12_years 147 = .ok (.iconst 1, 1) := by decide +kernel
theorem dX12_years_148 : decode cX12_years 148 = .ok (.if_icmp .ne 7, 3) := by decide +kernel
theorem dX12_years_151 : decode cX12_years 151 = .ok (.iconst 1, 1) := by decide +kernel
theorem dX12_years_152 : decode cX12_years 152 = .ok (.goto 4, 3) := by decide +kernel
theorem dX12_years_155 : decode cX12_years 155 = .ok (.iconst 0, 1) := by decide +kernel
theorem dX12_years_156 : decode cX12_years 156 = .ok (.iadd, 1) := by decide +kernel
theorem dX12_years_157 : decode cX12_years 157 = .ok (.istore 5, 2) := by decide +kernel
theorem dX12_years_159 : decode cX12_years 159 = .ok (.iinc 9 1, 3) := by decide +kernel
theorem dX12_years_162 : decode cX12_years 162 = .ok (.goto (-38), 3) := by decide +kernel
theorem dX12_years_165 : decode cX12_years 165 = .ok (.iinc 8 1, 3) := by decide +kernel
theorem dX12_years_168 : decode cX12_years 168 = .ok (.goto (-62), 3) := by decide +kernel
theorem dX12_years_171 : decode cX12_years 171 = .ok (.iconst 0, 1) := by decide +kernel
theorem dX12_years_172 : decode cX12_years 172 = .ok (.istore 8, 2) := by decide +kernel
theorem dX12_years_174 : decode cX12_years 174 = .ok (.iload 8, 2) := by decide +kernel
theorem dX12_years_176 : decode cX12_years 176 = .ok (.aload_n 0, 1) := by decide +kernel
theorem dX12_years_177 : decode cX12_years 177 = .ok (.getfield 39, 3) := by decide +kernel
theorem dX12_years_180 : decode cX12_years 180 = .ok (.iconst 2, 1) := by decide +kernel
theorem dX12_years_181 : decode cX12_years 181 = .ok (.iaload, 1) := by decide +kernel
theorem dX12_years_182 : decode cX12_years 182 = .ok (.if_icmp .ge 20, 3) := by decide +kernel
theorem dX12_years_185 : decode cX12_years 185 = .ok (.iload 6, 2) := by decide +kernel
theorem dX12_years_187 : decode cX12_years 187 = .ok (.aload_n 0, 1) := by decide +kernel
theorem dX12_years_188 : decode cX12_years 188 = .ok (.iload 8, 2) := by decide +kernel
theorem dX12_years_190 : decode cX12_years 190 = .ok (.invokevirtual 405, 3) := by decide +kernel
theorem dX12_years_193 : decode cX12_years 193 = .ok (.iadd, 1) := by decide +kernel
theorem dX12_years_194 : decode cX12_years 194 = .ok (.istore 6, 2) := by decide +kernel
theorem dX12_years_196 : decode cX12_years 196 = .ok (.iinc 8 1, 3) := by decide +kernel
theorem dX12_years_199 : decode cX12_years 199 = .ok (.goto (-25), 3) := by decide +kernel
theorem dX12_years_202 : decode cX12_years 202 = .ok (.iconst 0, 1) := by decide +kernel
theorem dX12_years_203 : decode cX12_years 203 = .ok (.istore 8, 2) := by decide +kernel
theorem dX12_years_205 : decode cX12_years 205 = .ok (.iload 8, 2) := by decide +kernel
theorem dX12_years_207 : decode cX12_years 207 = .ok (.sipush 130, 3) := by decide +kernel
theorem dX12_years_210 : decode cX12_years 210 = .ok (.if_icmp .ge 23, 3) := by decide +kernel
theorem dX12_years_213 : decode cX12_years 213 = .ok (.aload_n 0, 1) := by decide +kernel
theorem dX12_years_214 : decode cX12_years 214 = .ok (.getfield 39, 3) := by decide +kernel
theorem dX12_years_217 : decode cX12_years 217 = .ok (.iload 8, 2) := by decide +kernel
theorem dX12_years_219 : decode cX12_years 219 = .ok (.aload_n 0, 1) := by decide +kernel
theorem dX12_years_220 : decode cX12_years 220 = .ok (.getfield 52, 3) := by decide +kernel
theorem dX12_years_223 : decode cX12_years 223 = .ok (.iload 8, 2) := by decide +kernel
theorem dX12_years_225 : decode cX12_years 225 = .ok (.iaload, 1) := by decide +kernel
theorem dX12_years_226 : decode cX12_years 226 = .ok (.iastore, 1) := by decide +kernel
theorem dX12_years_227 : decode cX12_years 227 = .ok (.iinc 8 1, 3) := by decide +kernel
theorem dX12_years_230 : decode cX12_years 230 = .ok (.goto (-25), 3) := by decide +kernel
theorem dX12_years_233 : decode cX12_years 233 = .ok (.iinc 7 1, 3) := by decide +kernel
theorem dX12_years_236 : decode cX12_years 236 = .ok (.goto (-139), 3) := by decide +kernel
theorem dX12_years_239 : decode cX12_years 239 = .ok (.iload_n 3, 1) := by decide +kernel
theorem dX12_years_240 : decode cX12_years 240 = .ok (.ifCond .ne 8, 3) := by decide +kernel
theorem dX12_years_243 : decode cX12_years 243 = .ok (.iload 4, 2) := by decide +kernel
theorem dX12_years_245 : decode cX12_years 245 = .ok (.goto 15, 3) := by decide +kernel
theorem dX12_years_248 : decode cX12_years 248 = .ok (.iload_n 3, 1) := by decide +kernel
theorem dX12_years_249 : decode cX12_years 249 = .ok (.iconst 1, 1) := by decide +kernel
theorem dX12_years_250 : decode cX12_years 250 = .ok (.if_icmp .ne 8, 3) := by decide +kernel
theorem dX12_years_253 : decode cX12_years 253 = .ok (.iload 5, 2) := by decide +kernel
theorem dX12_years_255 : decode cX12_years 255 = .ok (.goto 5, 3) := by decide +kernel
theorem dX12_years_258 : decode cX12_years 258 = .ok (.iload 6, 2) := by decide +kernel
theorem dX12_years_260 : decode cX12_years 260 = .ok (.ireturn, 1) := by decide +kernel
theorem dX12_count_0 : decode cX12_count 0 = .ok (.iconst 0, 1) := by decide +kernel
theorem dX12_count_1 : decode cX12_count 1 = .ok (.istore_n 2, 1) := by decide +kernel
theorem dX12_count_2 : decode cX12_count 2 = .ok (.iload_n 1, 1) := by decide +kernel
theorem dX12_count_3 : decode cX12_count 3 = .ok (.tableswitch 190 0 14 #[73, 73, 73, 73, 80, 85, 90, 90, 97, 129, 157, 166, 175, 180, 185], 73) := by decide +kernel
theorem dX12_count_76 : decode cX12_count 76 = .ok (.aload_n 0, 1) := by decide +kernel
theorem dX12_count_77 : decode cX12_count 77 = .ok (.getfield 39, 3) := by decide +kernel
theorem dX12_count_80 : decode cX12_count 80 = .ok (.iload_n 1, 1) := by decide +kernel
theorem dX12_count_81 : decode cX12_count 81 = .ok (.iaload, 1) := by decide +kernel
theorem dX12_count_82 : decode cX12_count 82 = .ok (.ireturn, 1) := by decide +kernel
theorem dX12_count_83 : decode cX12_count 83 = .ok (.aload_n 0, 1) := by decide +kernel
theorem dX12_count_84 : decode cX12_count 84 = .ok (.getfield 275, 3) := by decide +kernel
theorem dX12_count_87 : decode cX12_count 87 = .ok (.ireturn, 1) := by decide +kernel
theorem dX12_count_88 : decode cX12_count 88 = .ok (.aload_n 0, 1) := by decide +kernel
theorem dX12_count_89 : decode cX12_count 89 = .ok (.getfield 42, 3) := by decide +kernel
theorem dX12_count_92 : decode cX12_count 92 = .ok (.ireturn, 1) := by decide +kernel
theorem dX12_count_93 : decode cX12_count 93 = .ok (.aload_n 0, 1) := by decide +kernel
theorem dX12_count_94 : decode cX12_count 94 = .ok (.getfield 39, 3) := by decide +kernel
theorem dX12_count_97 : decode cX12_count 97 = .ok (.iload_n 1, 1) := by decide +kernel
theorem dX12_count_98 : decode cX12_count 98 = .ok (.iaload, 1) := by decide +kernel
theorem dX12_count_99 : decode cX12_count 99 = .ok (.ireturn, 1) := by decide +kernel
theorem dX12_count_100 : decode cX12_count 100 = .ok (.iconst 0, 1) := by decide +kernel
theorem dX12_count_101 : decode cX12_count 101 = .ok (.istore_n 3, 1) := by decide +kernel
theorem dX12_count_102 : decode cX12_count 102 = .ok (.iload_n 3, 1) := by decide +kernel
theorem dX12_count_103 : decode cX12_count 103 = .ok (.aload_n 0, 1) := by decide +kernel
theorem dX12_count_104 : decode cX12_count 104 = .ok (.getfield 39, 3) := by decide +kernel
theorem dX12_count_107 : decode cX12_count 107 = .ok (.iconst 2, 1) := by decide +kernel
theorem dX12_count_108 : decode cX12_count 108 = .ok (.iaload, 1) := by decide +kernel
theorem dX12_count_109 : decode cX12_count 109 = .ok (.if_icmp .ge 21, 3) := by decide +kernel
theorem dX12_count_112 : decode cX12_count 112 = .ok (.iload_n 2, 1) := by decide +kernel
theorem dX12_count_113 : decode cX12_count 113 = .ok (.aload_n 0, 1) := by decide +kernel
theorem dX12_count_114 : decode cX12_count 114 = .ok (.getfield 39, 3) := by decide +kernel
theorem dX12_count_117 : decode cX12_count 117 = .ok (.bipush 123, 2) := by decide +kernel
theorem dX12_count_119 : decode cX12_count 119 = .ok (.iload_n 3, 1) := by decide +kernel
theorem dX12_count_120 : decode cX12_count 120 = .ok (.iadd, 1) := by decide +kernel
theorem dX12_count_121 : decode cX12_count 121 = .ok (.iaload, 1) := by decide +kernel
theorem dX12_count_122 : decode cX12_count 122 = .ok (.iadd, 1) := by decide +kernel
theorem dX12_count_123 : decode cX12_count 123 = .ok (.istore_n 2, 1) := by decide +kernel
theorem dX12_count_124 : decode cX12_count 124 = .ok (.iinc 3 1, 3) := by decide +kernel
theorem dX12_count_127 : decode cX12_count 127 = .ok (.goto (-25), 3) := by decide +kernel
theorem dX12_count_130 : decode cX12_count 130 = .ok (.iload_n 2, 1) := by decide +kernel
theorem dX12_count_131 : decode cX12_count 131 = .ok (.ireturn, 1) := by decide +kernel
theorem dX12_count_132 : decode cX12_count 132 = .ok (.iconst 0, 1) := by decide +kernel
theorem dX12_count_133 : decode cX12_count 133 = .ok (.istore_n 3, 1) := by decide +kernel
theorem dX12_count_134 : decode cX12_count 134 = .ok (.iload_n 3, 1) := by decide +kernel
theorem dX12_count_135 : decode cX12_count 135 = .ok (.aload_n 0, 1) := by decide +kernel
theorem dX12_count_136 : decode cX12_count 136 = .ok (.getfield 39, 3) := by decide +kernel
theorem dX12_count_139 : decode cX12_count 139 = .ok (.iconst 2, 1) := by decide +kernel
theorem dX12_count_140 : decode cX12_count 140 = .ok (.iaload, 1) := by decide +kernel
theorem dX12_count_141 : decode cX12_count 141 = .ok (.if_icmp .ge 17, 3) := by decide +kernel
theorem dX12_count_144 : decode cX12_count 144 = .ok (.iload_n 2, 1) := by decide +kernel
theorem dX12_count_145 : decode cX12_count 145 = .ok (.aload_n 0, 1) := by decide +kernel
theorem dX12_count_146 : decode cX12_count 146 = .ok (.iload_n 3, 1) := by decide +kernel
theorem dX12_count_147 : decode cX12_count 147 = .ok (.invokevirtual 405, 3) := by decide +kernel
theorem dX12_count_150 : decode cX12_count 150 = .ok (.iadd, 1) := by decide +kernel
theorem dX12_count_151 : decode cX12_count 151 = .ok (.istore_n 2, 1) := by decide +kernel
theorem dX12_count_152 : decode cX12_count 152 = .ok (.iinc 3 1, 3) := by decide +kernel
theorem dX12_count_155 : decode cX12_count 155 = .ok (.goto (-21), 3) := by decide +kernel
theorem dX12_count_158 : decode cX12_count 158 = .ok (.iload_n 2, 1) := by decide +kernel
theorem dX12_count_159 : decode cX12_count 159 = .ok (.ireturn, 1) := by decide +kernel
theorem dX12_count_160 : decode cX12_count 160 = .ok (.aload_n 0, 1) := by decide +kernel
theorem dX12_count_161 : decode cX12_count 161 = .ok (.getfield 39, 3) := by decide +kernel
theorem dX12_count_164 : decode cX12_count 164 = .ok (.sipush 326, 3) := by decide +kernel
theorem dX12_count_167 : decode cX12_count 167 = .ok (.iaload, 1) := by decide +kernel
theorem dX12_count_168 : decode cX12_count 168 = .ok (.ireturn, 1) := by decide +kernel
theorem dX12_count_169 : decode cX12_count 169 = .ok (.aload_n 0, 1) := by decide +kernel
theorem dX12_count_170 : decode cX12_count 170 = .ok (.getfield 39, 3) := by decide +kernel
theorem dX12_count_173 : decode cX12_count 173 = .ok (.sipush 327, 3) := by decide +kernel
theorem dX12_count_176 : decode cX12_count 176 = .ok (.iaload, 1) := by decide +kernel
theorem dX12_count_177 : decode cX12_count 177 = .ok (.ireturn, 1) := by decide +kernel
theorem dX12_count_178 : decode cX12_count 178 = .ok (.aload_n 0, 1) := by decide +kernel
theorem dX12_count_179 : decode cX12_count 179 = .ok (.getfield 281, 3) := by decide +kernel
theorem dX12_count_182 : decode cX12_count 182 = .ok (.ireturn, 1) := by decide +kernel
theorem dX12_count_183 : decode cX12_count 183 = .ok (.aload_n 0, 1) := by decide +kernel
theorem dX12_count_184 : decode cX12_count 184 = .ok (.getfield 437, 3) := by decide +kernel
theorem dX12_count_187 : decode cX12_count 187 = .ok (.ireturn, 1) := by decide +kernel
theorem dX12_count_188 : decode cX12_count 188 = .ok (.aload_n 0, 1) := by decide +kernel
theorem dX12_count_189 : decode cX12_count 189 = .ok (.getfield 68, 3) := by decide +kernel
theorem dX12_count_192 : decode cX12_count 192 = .ok (.ireturn, 1) := by decide +kernel
theorem dX12_count_193 : decode cX12_count 193 = .ok (.iconst (-1), 1) := by decide +kernel
theorem dX12_count_194 : decode cX12_count 194 = .ok (.ireturn, 1) := by decide +kernel
theorem dX12_image_0 : decode cX12_image 0 = .ok (.iload_n 1, 1) := by decide +kernel
theorem dX12_image_1 : decode cX12_image 1 = .ok (.i2l, 1) := by decide +kernel
theorem dX12_image_2 : decode cX12_image 2 = .ok (.lconst 0, 1) := by decide +kernel
theorem dX12_image_3 : decode cX12_image 3 = .ok (.ldc2_w 460, 3) := by decide +kernel
theorem dX12_image_6 : decode cX12_image 6 = .ok (.invokestatic 106, 3) := by decide +kernel
theorem dX12_image_9 : decode cX12_image 9 = .ok (.ifCond .ne 5, 3) := by decide +kernel
theorem dX12_image_12 : decode cX12_image 12 = .ok (.iconst (-1), 1) := by decide +kernel
theorem dX12_image_13 : decode cX12_image 13 = .ok (.ireturn, 1) := by decide +kernel
theorem dX12_image_14 : decode cX12_image 14 = .ok (.aload_n 0, 1) := by decide +kernel
theorem dX12_image_15 : decode cX12_image 15 = .ok (.getfield 64, 3) := by decide +kernel
theorem dX12_image_18 : decode cX12_image 18 = .ok (.iload_n 1, 1) := by decide +kernel
theorem dX12_image_19 : decode cX12_image 19 = .ok (.iconst 1, 1) := by decide +kernel
theorem dX12_image_20 : decode cX12_image 20 = .ok (.bastore, 1) := by decide +kernel
theorem dX12_image_21 : decode cX12_image 21 = .ok (.aload_n 0, 1) := by decide +kernel
theorem dX12_image_22 : decode cX12_image 22 = .ok (.getfield 58, 3) := by decide +kernel
theorem dX12_image_25 : decode cX12_image 25 = .ok (.iload_n 1, 1) := by decide +kernel
theorem dX12_image_26 : decode cX12_image 26 = .ok (.aload_n 0, 1) := by decide +kernel
theorem dX12_image_27 : decode cX12_image 27 = .ok (.getfield 42, 3) := by decide +kernel
theorem dX12_image_30 : decode cX12_image 30 = .ok (.iastore, 1) := by decide +kernel
theorem dX12_image_31 : decode cX12_image 31 = .ok (.aload_n 0, 1) := by decide +kernel
theorem dX12_image_32 : decode cX12_image 32 = .ok (.getfield 61, 3) := by decide +kernel
theorem dX12_image_35 : decode cX12_image 35 = .ok (.iload_n 1, 1) := by decide +kernel
theorem dX12_image_36 : decode cX12_image 36 = .ok (.aload_n 0, 1) := by decide +kernel
theorem dX12_image_37 : decode cX12_image 37 = .ok (.getfield 437, 3) := by decide +kernel
theorem dX12_image_40 : decode cX12_image 40 = .ok (.iastore, 1) := by decide +kernel
theorem dX12_image_41 : decode cX12_image 41 = .ok (.iconst 0, 1) := by decide +kernel
theorem dX12_image_42 : decode cX12_image 42 = .ok (.istore_n 2, 1) := by decide +kernel
theorem dX12_image_43 : decode cX12_image 43 = .ok (.iload_n 2, 1) := by decide +kernel
theorem dX12_image_44 : decode cX12_image 44 = .ok (.sipush 328, 3) := by decide +kernel
theorem dX12_image_47 : decode cX12_image 47 = .ok (.if_icmp .ge 27, 3) := by decide +kernel
theorem dX12_image_50 : decode cX12_image 50 = .ok (.aload_n 0, 1) := by decide +kernel
theorem dX12_image_51 : decode cX12_image 51 = .ok (.getfield 55, 3) := by decide +kernel
theorem dX12_image_54 : decode cX12_image 54 = .ok (.sipush 328, 3) := by decide +kernel
theorem dX12_image_57 : decode cX12_image 57 = .ok (.iload_n 1, 1) := by decide +kernel
theorem dX12_image_58 : decode cX12_image 58 = .ok (.imul, 1) := by decide +kernel
theorem dX12_image_59 : decode cX12_image 59 = .ok (.iload_n 2, 1) := by decide +kernel
theorem dX12_image_60 : decode cX12_image 60 = .ok (.iadd, 1) := by decide +kernel
theorem dX12_image_61 : decode cX12_image 61 = .ok (.aload_n 0, 1) := by decide +kernel
theorem dX12_image_62 : decode cX12_image 62 = .ok (.getfield 39, 3) := by decide +kernel
theorem dX12_image_65 : decode cX12_image 65 = .ok (.iload_n 2, 1) := by decide +kernel
theorem dX12_image_66 : decode cX12_image 66 = .ok (.iaload, 1) := by decide +kernel
theorem dX12_image_67 : decode cX12_image 67 = .ok (.iastore, 1) := by decide +kernel
theorem dX12_image_68 : decode cX12_image 68 = .ok (.iinc 2 1, 3) := by decide +kernel
theorem dX12_image_71 : decode cX12_image 71 = .ok (.goto (-28), 3) := by decide +kernel
theorem dX12_image_74 : decode cX12_image 74 = .ok (.aload_n 0, 1) := by decide +kernel
theorem dX12_image_75 : decode cX12_image 75 = .ok (.getfield 39, 3) := by decide +kernel
theorem dX12_image_78 : decode cX12_image 78 = .ok (.bipush 6, 2) := by decide +kernel
theorem dX12_image_80 : decode cX12_image 80 = .ok (.iaload, 1) := by decide +kernel
theorem dX12_image_81 : decode cX12_image 81 = .ok (.ireturn, 1) := by decide +kernel
theorem dX12_back_0 : decode cX12_back 0 = .ok (.iload_n 1, 1) := by decide +kernel
theorem dX12_back_1 : decode cX12_back 1 = .ok (.i2l, 1) := by decide +kernel
theorem dX12_back_2 : decode cX12_back 2 = .ok (.lconst 0, 1) := by decide +kernel
theorem dX12_back_3 : decode cX12_back 3 = .ok (.ldc2_w 460, 3) := by decide +kernel
theorem dX12_back_6 : decode cX12_back 6 = .ok (.invokestatic 106, 3) := by decide +kernel
theorem dX12_back_9 : decode cX12_back 9 = .ok (.ifCond .eq 12, 3) := by decide +kernel
theorem dX12_back_12 : decode cX12_back 12 = .ok (.aload_n 0, 1) := by decide +kernel
theorem dX12_back_13 : decode cX12_back 13 = .ok (.getfield 64, 3) := by decide +kernel
theorem dX12_back_16 : decode cX12_back 16 = .ok (.iload_n 1, 1) := by decide +kernel
theorem dX12_back_17 : decode cX12_back 17 = .ok (.baload, 1) := by decide +kernel
theorem dX12_back_18 : decode cX12_back 18 = .ok (.ifCond .ne 5, 3) := by decide +kernel
theorem dX12_back_21 : decode cX12_back 21 = .ok (.iconst (-1), 1) := by decide +kernel
theorem dX12_back_22 : decode cX12_back 22 = .ok (.ireturn, 1) := by decide +kernel
theorem dX12_back_23 : decode cX12_back 23 = .ok (.aload_n 0, 1) := by decide +kernel
theorem dX12_back_24 : decode cX12_back 24 = .ok (.aload_n 0, 1) := by decide +kernel
theorem dX12_back_25 : decode cX12_back 25 = .ok (.getfield 58, 3) := by decide +kernel
theorem dX12_back_28 : decode cX12_back 28 = .ok (.iload_n 1, 1) := by decide +kernel
theorem dX12_back_29 : decode cX12_back 29 = .ok (.iaload, 1) := by decide +kernel
theorem dX12_back_30 : decode cX12_back 30 = .ok (.putfield 42, 3) := by decide +kernel
theorem dX12_back_33 : decode cX12_back 33 = .ok (.aload_n 0, 1) := by decide +kernel
theorem dX12_back_34 : decode cX12_back 34 = .ok (.aload_n 0, 1) := by decide +kernel
theorem dX12_back_35 : decode cX12_back 35 = .ok (.getfield 61, 3) := by decide +kernel
theorem dX12_back_38 : decode cX12_back 38 = .ok (.iload_n 1, 1) := by decide +kernel
theorem dX12_back_39 : decode cX12_back 39 = .ok (.iaload, 1) := by decide +kernel
theorem dX12_back_40 : decode cX12_back 40 = .ok (.putfield 437, 3) := by decide +kernel
theorem dX12_back_43 : decode cX12_back 43 = .ok (.aload_n 0, 1) := by decide +kernel
theorem dX12_back_44 : decode cX12_back 44 = .ok (.iconst 0, 1) := by decide +kernel
theorem dX12_back_45 : decode cX12_back 45 = .ok (.putfield 281, 3) := by decide +kernel
theorem dX12_back_48 : decode cX12_back 48 = .ok (.iconst 0, 1) := by decide +kernel
theorem dX12_back_49 : decode cX12_back 49 = .ok (.istore_n 2, 1) := by decide +kernel
theorem dX12_back_50 : decode cX12_back 50 = .ok (.iload_n 2, 1) := by decide +kernel
theorem dX12_back_51 : decode cX12_back 51 = .ok (.sipush 328, 3) := by decide +kernel
theorem dX12_back_54 : decode cX12_back 54 = .ok (.if_icmp .ge 27, 3) := by decide +kernel
theorem dX12_back_57 : decode cX12_back 57 = .ok (.aload_n 0, 1) := by decide +kernel
theorem dX12_back_58 : decode cX12_back 58 = .ok (.getfield 39, 3) := by decide +kernel
theorem dX12_back_61 : decode cX12_back 61 = .ok (.iload_n 2, 1) := by decide +kernel
theorem dX12_back_62 : decode cX12_back 62 = .ok (.aload_n 0, 1) := by decide +kernel
theorem dX12_back_63 : decode cX12_back 63 = .ok (.getfield 55, 3) := by decide +kernel
theorem dX12_back_66 : decode cX12_back 66 = .ok (.sipush 328, 3) := by decide +kernel
theorem dX12_back_69 : decode cX12_back 69 = .ok (.iload_n 1, 1) := by decide +kernel
theorem dX12_back_70 : decode cX12_back 70 = .ok (.imul, 1) := by decide +kernel
theorem dX12_back_71 : decode cX12_back 71 = .ok (.iload_n 2, 1) := by decide +kernel
theorem dX12_back_72 : decode cX12_back 72 = .ok (.iadd, 1) := by decide +kernel
theorem dX12_back_73 : decode cX12_back 73 = .ok (.iaload, 1) := by decide +kernel
theorem dX12_back_74 : decode cX12_back 74 = .ok (.iastore, 1) := by decide +kernel
theorem dX12_back_75 : decode cX12_back 75 = .ok (.iinc 2 1, 3) := by decide +kernel
theorem dX12_back_78 : decode cX12_back 78 = .ok (.goto (-28), 3) := by decide +kernel
theorem dX12_back_81 : decode cX12_back 81 = .ok (.aload_n 0, 1) := by decide +kernel
theorem dX12_back_82 : decode cX12_back 82 = .ok (.getfield 39, 3) := by decide +kernel
theorem dX12_back_85 : decode cX12_back 85 = .ok (.bipush 6, 2) := by decide +kernel
theorem dX12_back_87 : decode cX12_back 87 = .ok (.iaload, 1) := by decide +kernel
theorem dX12_back_88 : decode cX12_back 88 = .ok (.ireturn, 1) := by decide +kernel
