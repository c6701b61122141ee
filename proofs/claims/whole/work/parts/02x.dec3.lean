theorem dX10_meets_164 : decode cX10_meets 164 = .ok (.iconst 0, 1) := by decide +kernel
theorem dX10_meets_165 : decode cX10_meets 165 = .ok (.istore 5, 2) := by decide +kernel
theorem dX10_meets_167 : decode cX10_meets 167 = .ok (.aload_n 0, 1) := by decide +kernel
theorem dX10_meets_168 : decode cX10_meets 168 = .ok (.iload 5, 2) := by decide +kernel
theorem dX10_meets_170 : decode cX10_meets 170 = .ok (.ifCond .eq 7, 3) := by decide +kernel
theorem dX10_meets_173 : decode cX10_meets 173 = .ok (.iload_n 3, 1) := by decide +kernel
theorem dX10_meets_174 : decode cX10_meets 174 = .ok (.goto 5, 3) := by decide +kernel
theorem dX10_meets_177 : decode cX10_meets 177 = .ok (.iload 4, 2) := by decide +kernel
theorem dX10_meets_179 : decode cX10_meets 179 = .ok (.putfield 265, 3) := by decide +kernel
theorem dX10_meets_182 : decode cX10_meets 182 = .ok (.iinc 3 1, 3) := by decide +kernel
theorem dX10_meets_185 : decode cX10_meets 185 = .ok (.goto (-149), 3) := by decide +kernel
theorem dX10_meets_188 : decode cX10_meets 188 = .ok (.aload_n 0, 1) := by decide +kernel
theorem dX10_meets_189 : decode cX10_meets 189 = .ok (.getfield 265, 3) := by decide +kernel
theorem dX10_meets_192 : decode cX10_meets 192 = .ok (.ifCond .lt 7, 3) := by decide +kernel
theorem dX10_meets_195 : decode cX10_meets 195 = .ok (.iconst 1, 1) := by decide +kernel
theorem dX10_meets_196 : decode cX10_meets 196 = .ok (.goto 4, 3) := by decide +kernel
theorem dX10_meets_199 : decode cX10_meets 199 = .ok (.iconst 0, 1) := by decide +kernel
theorem dX10_meets_200 : decode cX10_meets 200 = .ok (.ireturn, 1) := by decide +kernel
theorem dX10_areTwo_0 : decode cX10_areTwo 0 = .ok (.aload_n 0, 1) := by decide +kernel
theorem dX10_areTwo_1 : decode cX10_areTwo 1 = .ok (.iload_n 1, 1) := by decide +kernel
theorem dX10_areTwo_2 : decode cX10_areTwo 2 = .ok (.invokevirtual 170, 3) := by decide +kernel
theorem dX10_areTwo_5 : decode cX10_areTwo 5 = .ok (.ifCond .eq 15, 3) := by decide +kernel
theorem dX10_areTwo_8 : decode cX10_areTwo 8 = .ok (.aload_n 0, 1) := by decide +kernel
theorem dX10_areTwo_9 : decode cX10_areTwo 9 = .ok (.iload_n 2, 1) := by decide +kernel
theorem dX10_areTwo_10 : decode cX10_areTwo 10 = .ok (.invokevirtual 170, 3) := by decide +kernel
theorem dX10_areTwo_13 : decode cX10_areTwo 13 = .ok (.ifCond .eq 7, 3) := by decide +kernel
theorem dX10_areTwo_16 : decode cX10_areTwo 16 = .ok (.iconst 1, 1) := by decide +kernel
theorem dX10_areTwo_17 : decode cX10_areTwo 17 = .ok (.goto 4, 3) := by decide +kernel
theorem dX10_areTwo_20 : decode cX10_areTwo 20 = .ok (.iconst 0, 1) := by decide +kernel
theorem dX10_areTwo_21 : decode cX10_areTwo 21 = .ok (.ireturn, 1) := by decide +kernel
theorem dX10_kin_0 : decode cX10_kin 0 = .ok (.aload_n 0, 1) := by decide +kernel
theorem dX10_kin_1 : decode cX10_kin 1 = .ok (.iload_n 1, 1) := by decide +kernel
theorem dX10_kin_2 : decode cX10_kin 2 = .ok (.iload_n 2, 1) := by decide +kernel
theorem dX10_kin_3 : decode cX10_kin 3 = .ok (.invokevirtual 268, 3) := by decide +kernel
theorem dX10_kin_6 : decode cX10_kin 6 = .ok (.ifCond .ne 5, 3) := by decide +kernel
theorem dX10_kin_9 : decode cX10_kin 9 = .ok (.iconst (-1), 1) := by decide +kernel
theorem dX10_kin_10 : decode cX10_kin 10 = .ok (.ireturn, 1) := by decide +kernel
theorem dX10_kin_11 : decode cX10_kin 11 = .ok (.aload_n 0, 1) := by decide +kernel
theorem dX10_kin_12 : decode cX10_kin 12 = .ok (.iload_n 1, 1) := by decide +kernel
theorem dX10_kin_13 : decode cX10_kin 13 = .ok (.iload_n 2, 1) := by decide +kernel
theorem dX10_kin_14 : decode cX10_kin 14 = .ok (.invokevirtual 271, 3) := by decide +kernel
theorem dX10_kin_17 : decode cX10_kin 17 = .ok (.ifCond .eq 28, 3) := by decide +kernel
theorem dX10_kin_20 : decode cX10_kin 20 = .ok (.bipush 100, 2) := by decide +kernel
theorem dX10_kin_22 : decode cX10_kin 22 = .ok (.aload_n 0, 1) := by decide +kernel
theorem dX10_kin_23 : decode cX10_kin 23 = .ok (.getfield 48, 3) := by decide +kernel
theorem dX10_kin_26 : decode cX10_kin 26 = .ok (.aload_n 0, 1) := by decide +kernel
theorem dX10_kin_27 : decode cX10_kin 27 = .ok (.getfield 265, 3) := by decide +kernel
theorem dX10_kin_30 : decode cX10_kin 30 = .ok (.iaload, 1) := by decide +kernel
theorem dX10_kin_31 : decode cX10_kin 31 = .ok (.imul, 1) := by decide +kernel
theorem dX10_kin_32 : decode cX10_kin 32 = .ok (.aload_n 0, 1) := by decide +kernel
theorem dX10_kin_33 : decode cX10_kin 33 = .ok (.getfield 51, 3) := by decide +kernel
theorem dX10_kin_36 : decode cX10_kin 36 = .ok (.aload_n 0, 1) := by decide +kernel
theorem dX10_kin_37 : decode cX10_kin 37 = .ok (.getfield 265, 3) := by decide +kernel
theorem dX10_kin_40 : decode cX10_kin 40 = .ok (.iaload, 1) := by decide +kernel
theorem dX10_kin_41 : decode cX10_kin 41 = .ok (.iadd, 1) := by decide +kernel
theorem dX10_kin_42 : decode cX10_kin 42 = .ok (.goto 5, 3) := by decide +kernel
theorem dX10_kin_45 : decode cX10_kin 45 = .ok (.bipush (-5), 2) := by decide +kernel
theorem dX10_kin_47 : decode cX10_kin 47 = .ok (.ireturn, 1) := by decide +kernel
theorem dX10_common_0 : decode cX10_common 0 = .ok (.aload_n 0, 1) := by decide +kernel
theorem dX10_common_1 : decode cX10_common 1 = .ok (.iload_n 1, 1) := by decide +kernel
theorem dX10_common_2 : decode cX10_common 2 = .ok (.iload_n 2, 1) := by decide +kernel
theorem dX10_common_3 : decode cX10_common 3 = .ok (.invokevirtual 268, 3) := by decide +kernel
theorem dX10_common_6 : decode cX10_common 6 = .ok (.ifCond .ne 5, 3) := by decide +kernel
theorem dX10_common_9 : decode cX10_common 9 = .ok (.iconst (-1), 1) := by decide +kernel
theorem dX10_common_10 : decode cX10_common 10 = .ok (.ireturn, 1) := by decide +kernel
theorem dX10_common_11 : decode cX10_common 11 = .ok (.aload_n 0, 1) := by decide +kernel
theorem dX10_common_12 : decode cX10_common 12 = .ok (.iload_n 1, 1) := by decide +kernel
theorem dX10_common_13 : decode cX10_common 13 = .ok (.iload_n 2, 1) := by decide +kernel
theorem dX10_common_14 : decode cX10_common 14 = .ok (.invokevirtual 271, 3) := by decide +kernel
theorem dX10_common_17 : decode cX10_common 17 = .ok (.pop, 1) := by decide +kernel
theorem dX10_common_18 : decode cX10_common 18 = .ok (.aload_n 0, 1) := by decide +kernel
theorem dX10_common_19 : decode cX10_common 19 = .ok (.getfield 265, 3) := by decide +kernel
theorem dX10_common_22 : decode cX10_common 22 = .ok (.ireturn, 1) := by decide +kernel
theorem dX10_under_0 : decode cX10_under 0 = .ok (.iconst 0, 1) := by decide +kernel
theorem dX10_under_1 : decode cX10_under 1 = .ok (.istore_n 3, 1) := by decide +kernel
theorem dX10_under_2 : decode cX10_under 2 = .ok (.aload_n 2, 1) := by decide +kernel
theorem dX10_under_3 : decode cX10_under 3 = .ok (.iload_n 3, 1) := by decide +kernel
theorem dX10_under_4 : decode cX10_under 4 = .ok (.iaload, 1) := by decide +kernel
theorem dX10_under_5 : decode cX10_under 5 = .ok (.aload_n 2, 1) := by decide +kernel
theorem dX10_under_6 : decode cX10_under 6 = .ok (.iload_n 1, 1) := by decide +kernel
theorem dX10_under_7 : decode cX10_under 7 = .ok (.iaload, 1) := by decide +kernel
theorem dX10_under_8 : decode cX10_under 8 = .ok (.iconst 1, 1) := by decide +kernel
theorem dX10_under_9 : decode cX10_under 9 = .ok (.isub, 1) := by decide +kernel
theorem dX10_under_10 : decode cX10_under 10 = .ok (.if_icmp .ne 23, 3) := by decide +kernel
theorem dX10_under_13 : decode cX10_under 13 = .ok (.aload_n 0, 1) := by decide +kernel
theorem dX10_under_14 : decode cX10_under 14 = .ok (.getfield 30, 3) := by decide +kernel
theorem dX10_under_17 : decode cX10_under 17 = .ok (.iload_n 3, 1) := by decide +kernel
theorem dX10_under_18 : decode cX10_under 18 = .ok (.iaload, 1) := by decide +kernel
theorem dX10_under_19 : decode cX10_under 19 = .ok (.aload_n 0, 1) := by decide +kernel
theorem dX10_under_20 : decode cX10_under 20 = .ok (.getfield 33, 3) := by decide +kernel
theorem dX10_under_23 : decode cX10_under 23 = .ok (.iload_n 3, 1) := by decide +kernel
theorem dX10_under_24 : decode cX10_under 24 = .ok (.iaload, 1) := by decide +kernel
theorem dX10_under_25 : decode cX10_under 25 = .ok (.ior, 1) := by decide +kernel
theorem dX10_under_26 : decode cX10_under 26 = .ok (.iload_n 1, 1) := by decide +kernel
theorem dX10_under_27 : decode cX10_under 27 = .ok (.invokestatic 89, 3) := by decide +kernel
theorem dX10_under_30 : decode cX10_under 30 = .ok (.ifCond .ne 9, 3) := by decide +kernel
theorem dX10_under_33 : decode cX10_under 33 = .ok (.iinc 3 1, 3) := by decide +kernel
theorem dX10_under_36 : decode cX10_under 36 = .ok (.goto (-34), 3) := by decide +kernel
theorem dX10_under_39 : decode cX10_under 39 = .ok (.iload_n 3, 1) := by decide +kernel
theorem dX10_under_40 : decode cX10_under 40 = .ok (.ireturn, 1) := by decide +kernel
theorem dX10_isHalf_0 : decode cX10_isHalf 0 = .ok (.aload_n 0, 1) := by decide +kernel
theorem dX10_isHalf_1 : decode cX10_isHalf 1 = .ok (.getfield 48, 3) := by decide +kernel
theorem dX10_isHalf_4 : decode cX10_isHalf 4 = .ok (.aload_n 0, 1) := by decide +kernel
theorem dX10_isHalf_5 : decode cX10_isHalf 5 = .ok (.getfield 265, 3) := by decide +kernel
theorem dX10_isHalf_8 : decode cX10_isHalf 8 = .ok (.iaload, 1) := by decide +kernel
theorem dX10_isHalf_9 : decode cX10_isHalf 9 = .ok (.ifCond .eq 15, 3) := by decide +kernel
theorem dX10_isHalf_12 : decode cX10_isHalf 12 = .ok (.aload_n 0, 1) := by decide +kernel
theorem dX10_isHalf_13 : decode cX10_isHalf 13 = .ok (.getfield 51, 3) := by decide +kernel
theorem dX10_isHalf_16 : decode cX10_isHalf 16 = .ok (.aload_n 0, 1) := by decide +kernel
theorem dX10_isHalf_17 : decode cX10_isHalf 17 = .ok (.getfield 265, 3) := by decide +kernel
theorem dX10_isHalf_20 : decode cX10_isHalf 20 = .ok (.iaload, 1) := by decide +kernel
theorem dX10_isHalf_21 : decode cX10_isHalf 21 = .ok (.ifCond .ne 5, 3) := by decide +kernel
theorem dX10_isHalf_24 : decode cX10_isHalf 24 = .ok (.iconst 0, 1) := by decide +kernel
theorem dX10_isHalf_25 : decode cX10_isHalf 25 = .ok (.ireturn, 1) := by decide +kernel
theorem dX10_isHalf_26 : decode cX10_isHalf 26 = .ok (.aload_n 0, 1) := by decide +kernel
theorem dX10_isHalf_27 : decode cX10_isHalf 27 = .ok (.aload_n 0, 1) := by decide +kernel
theorem dX10_isHalf_28 : decode cX10_isHalf 28 = .ok (.getfield 265, 3) := by decide +kernel
theorem dX10_isHalf_31 : decode cX10_isHalf 31 = .ok (.aload_n 0, 1) := by decide +kernel
theorem dX10_isHalf_32 : decode cX10_isHalf 32 = .ok (.getfield 48, 3) := by decide +kernel
theorem dX10_isHalf_35 : decode cX10_isHalf 35 = .ok (.invokevirtual 274, 3) := by decide +kernel
theorem dX10_isHalf_38 : decode cX10_isHalf 38 = .ok (.istore_n 1, 1) := by decide +kernel
theorem dX10_isHalf_39 : decode cX10_isHalf 39 = .ok (.aload_n 0, 1) := by decide +kernel
theorem dX10_isHalf_40 : decode cX10_isHalf 40 = .ok (.aload_n 0, 1) := by decide +kernel
theorem dX10_isHalf_41 : decode cX10_isHalf 41 = .ok (.getfield 265, 3) := by decide +kernel
theorem dX10_isHalf_44 : decode cX10_isHalf 44 = .ok (.aload_n 0, 1) := by decide +kernel
theorem dX10_isHalf_45 : decode cX10_isHalf 45 = .ok (.getfield 51, 3) := by decide +kernel
theorem dX10_isHalf_48 : decode cX10_isHalf 48 = .ok (.invokevirtual 274, 3) := by decide +kernel
theorem dX10_isHalf_51 : decode cX10_isHalf 51 = .ok (.istore_n 2, 1) := by decide +kernel
theorem dX10_isHalf_52 : decode cX10_isHalf 52 = .ok (.aload_n 0, 1) := by decide +kernel
theorem dX10_isHalf_53 : decode cX10_isHalf 53 = .ok (.getfield 30, 3) := by decide +kernel
theorem dX10_isHalf_56 : decode cX10_isHalf 56 = .ok (.iload_n 1, 1) := by decide +kernel
theorem dX10_isHalf_57 : decode cX10_isHalf 57 = .ok (.iaload, 1) := by decide +kernel
theorem dX10_isHalf_58 : decode cX10_isHalf 58 = .ok (.ifCond .eq 58, 3) := by decide +kernel
theorem dX10_isHalf_61 : decode cX10_isHalf 61 = .ok (.aload_n 0, 1) := by decide +kernel
theorem dX10_isHalf_62 : decode cX10_isHalf 62 = .ok (.getfield 33, 3) := by decide +kernel
theorem dX10_isHalf_65 : decode cX10_isHalf 65 = .ok (.iload_n 1, 1) := by decide +kernel
theorem dX10_isHalf_66 : decode cX10_isHalf 66 = .ok (.iaload, 1) := by decide +kernel
theorem dX10_isHalf_67 : decode cX10_isHalf 67 = .ok (.ifCond .eq 49, 3) := by decide +kernel
theorem dX10_isHalf_70 : decode cX10_isHalf 70 = .ok (.aload_n 0, 1) := by decide +kernel
theorem dX10_isHalf_71 : decode cX10_isHalf 71 = .ok (.getfield 30, 3) := by decide +kernel
theorem dX10_isHalf_74 : decode cX10_isHalf 74 = .ok (.iload_n 1, 1) := by decide +kernel
theorem dX10_isHalf_75 : decode cX10_isHalf 75 = .ok (.iaload, 1) := by decide +kernel
theorem dX10_isHalf_76 : decode cX10_isHalf 76 = .ok (.invokestatic 231, 3) := by decide +kernel
theorem dX10_isHalf_79 : decode cX10_isHalf 79 = .ok (.aload_n 0, 1) := by decide +kernel
theorem dX10_isHalf_80 : decode cX10_isHalf 80 = .ok (.getfield 30, 3) := by decide +kernel
theorem dX10_isHalf_83 : decode cX10_isHalf 83 = .ok (.iload_n 2, 1) := by decide +kernel
theorem dX10_isHalf_84 : decode cX10_isHalf 84 = .ok (.iaload, 1) := by decide +kernel
theorem dX10_isHalf_85 : decode cX10_isHalf 85 = .ok (.invokestatic 231, 3) := by decide +kernel
theorem dX10_isHalf_88 : decode cX10_isHalf 88 = .ok (.if_icmp .ne 28, 3) := by decide +kernel
theorem dX10_isHalf_91 : decode cX10_isHalf 91 = .ok (.aload_n 0, 1) := by decide +kernel
theorem dX10_isHalf_92 : decode cX10_isHalf 92 = .ok (.getfield 33, 3) := by decide +kernel
theorem dX10_isHalf_95 : decode cX10_isHalf 95 = .ok (.iload_n 1, 1) := by decide +kernel
theorem dX10_isHalf_96 : decode cX10_isHalf 96 = .ok (.iaload, 1) := by decide +kernel
theorem dX10_isHalf_97 : decode cX10_isHalf 97 = .ok (.invokestatic 231, 3) := by decide +kernel
theorem dX10_isHalf_100 : decode cX10_isHalf 100 = .ok (.aload_n 0, 1) := by decide +kernel
theorem dX10_isHalf_101 : decode cX10_isHalf 101 = .ok (.getfield 33, 3) := by decide +kernel
theorem dX10_isHalf_104 : decode cX10_isHalf 104 = .ok (.iload_n 2, 1) := by decide +kernel
theorem dX10_isHalf_105 : decode cX10_isHalf 105 = .ok (.iaload, 1) := by decide +kernel
theorem dX10_isHalf_106 : decode cX10_isHalf 106 = .ok (.invokestatic 231, 3) := by decide +kernel
theorem dX10_isHalf_109 : decode cX10_isHalf 109 = .ok (.if_icmp .ne 7, 3) := by decide +kernel
theorem dX10_isHalf_112 : decode cX10_isHalf 112 = .ok (.iconst 1, 1) := by decide +kernel
theorem dX10_isHalf_113 : decode cX10_isHalf 113 = .ok (.goto 4, 3) := by decide +kernel
theorem dX10_isHalf_116 : decode cX10_isHalf 116 = .ok (.iconst 0, 1) := by decide +kernel
theorem dX10_isHalf_117 : decode cX10_isHalf 117 = .ok (.istore_n 3, 1) := by decide +kernel
theorem dX10_isHalf_118 : decode cX10_isHalf 118 = .ok (.iload_n 3, 1) := by decide +kernel
theorem dX10_isHalf_119 : decode cX10_isHalf 119 = .ok (.ifCond .ne 7, 3) := by decide +kernel
theorem dX10_isHalf_122 : decode cX10_isHalf 122 = .ok (.iconst 1, 1) := by decide +kernel
theorem dX10_isHalf_123 : decode cX10_isHalf 123 = .ok (.goto 4, 3) := by decide +kernel
theorem dX10_isHalf_126 : decode cX10_isHalf 126 = .ok (.iconst 0, 1) := by decide +kernel
theorem dX10_isHalf_127 : decode cX10_isHalf 127 = .ok (.ireturn, 1) := by decide +kernel
theorem dX10_half_0 : decode cX10_half 0 = .ok (.aload_n 0, 1) := by decide +kernel
theorem dX10_half_1 : decode cX10_half 1 = .ok (.iload_n 1, 1) := by decide +kernel
theorem dX10_half_2 : decode cX10_half 2 = .ok (.iload_n 2, 1) := by decide +kernel
theorem dX10_half_3 : decode cX10_half 3 = .ok (.invokevirtual 268, 3) := by decide +kernel
theorem dX10_half_6 : decode cX10_half 6 = .ok (.ifCond .ne 5, 3) := by decide +kernel
theorem dX10_half_9 : decode cX10_half 9 = .ok (.iconst (-1), 1) := by decide +kernel
theorem dX10_half_10 : decode cX10_half 10 = .ok (.ireturn, 1) := by decide +kernel
theorem dX10_half_11 : decode cX10_half 11 = .ok (.aload_n 0, 1) := by decide +kernel
theorem dX10_half_12 : decode cX10_half 12 = .ok (.iload_n 1, 1) := by decide +kernel
theorem dX10_half_13 : decode cX10_half 13 = .ok (.iload_n 2, 1) := by decide +kernel
theorem dX10_half_14 : decode cX10_half 14 = .ok (.invokevirtual 271, 3) := by decide +kernel
theorem dX10_half_17 : decode cX10_half 17 = .ok (.ifCond .ne 6, 3) := by decide +kernel
theorem dX10_half_20 : decode cX10_half 20 = .ok (.bipush (-5), 2) := by decide +kernel
theorem dX10_half_22 : decode cX10_half 22 = .ok (.ireturn, 1) := by decide +kernel
theorem dX10_half_23 : decode cX10_half 23 = .ok (.aload_n 0, 1) := by decide +kernel
theorem dX10_half_24 : decode cX10_half 24 = .ok (.invokevirtual 278, 3) := by decide +kernel
theorem dX10_half_27 : decode cX10_half 27 = .ok (.ifCond .eq 7, 3) := by decide +kernel
theorem dX10_half_30 : decode cX10_half 30 = .ok (.iconst 1, 1) := by decide +kernel
theorem dX10_half_31 : decode cX10_half 31 = .ok (.goto 4, 3) := by decide +kernel
theorem dX10_half_34 : decode cX10_half 34 = .ok (.iconst 0, 1) := by decide +kernel
theorem dX10_half_35 : decode cX10_half 35 = .ok (.ireturn, 1) := by decide +kernel
theorem dX10_writes__0 : decode cX10_writes_ 0 = .ok (.iconst 0, 1) := by decide +kernel
theorem dX10_writes__1 : decode cX10_writes_ 1 = .ok (.istore_n 2, 1) := by decide +kernel
theorem dX10_writes__2 : decode cX10_writes_ 2 = .ok (.iload_n 2, 1) := by decide +kernel
theorem dX10_writes__3 : decode cX10_writes_ 3 = .ok (.aload_n 1, 1) := by decide +kernel
theorem dX10_writes__4 : decode cX10_writes_ 4 = .ok (.invokevirtual 281, 3) := by decide +kernel
theorem dX10_writes__7 : decode cX10_writes_ 7 = .ok (.if_icmp .ge 18, 3) := by decide +kernel
theorem dX10_writes__10 : decode cX10_writes_ 10 = .ok (.aload_n 0, 1) := by decide +kernel
theorem dX10_writes__11 : decode cX10_writes_ 11 = .ok (.aload_n 1, 1) := by decide +kernel
theorem dX10_writes__12 : decode cX10_writes_ 12 = .ok (.iload_n 2, 1) := by decide +kernel
theorem dX10_writes__13 : decode cX10_writes_ 13 = .ok (.invokevirtual 213, 3) := by decide +kernel
theorem dX10_writes__16 : decode cX10_writes_ 16 = .ok (.invokevirtual 208, 3) := by decide +kernel
theorem dX10_writes__19 : decode cX10_writes_ 19 = .ok (.iinc 2 1, 3) := by decide +kernel
theorem dX10_writes__22 : decode cX10_writes_ 22 = .ok (.goto (-20), 3) := by decide +kernel
theorem dX10_writes__25 : decode cX10_writes_ 25 = .ok (.return_, 1) := by decide +kernel
theorem dX10_writesBy_0 : decode cX10_writesBy 0 = .ok (.aload_n 0, 1) := by decide +kernel
theorem dX10_writesBy_1 : decode cX10_writesBy 1 = .ok (.iload_n 1, 1) := by decide +kernel
theorem dX10_writesBy_2 : decode cX10_writesBy 2 = .ok (.iconst 1, 1) := by decide +kernel
theorem dX10_writesBy_3 : decode cX10_writesBy 3 = .ok (.if_icmp .ne 7, 3) := by decide +kernel
theorem dX10_writesBy_6 : decode cX10_writesBy 6 = .ok (.aload_n 2, 1) := by decide +kernel
theorem dX10_writesBy_7 : decode cX10_writesBy 7 = .ok (.goto 14, 3) := by decide +kernel
theorem dX10_writesBy_10 : decode cX10_writesBy 10 = .ok (.iload_n 1, 1) := by decide +kernel
theorem dX10_writesBy_11 : decode cX10_writesBy 11 = .ok (.iconst 2, 1) := by decide +kernel
theorem dX10_writesBy_12 : decode cX10_writesBy 12 = .ok (.if_icmp .ne 7, 3) := by decide +kernel
theorem dX10_writesBy_15 : decode cX10_writesBy 15 = .ok (.aload_n 3, 1) := by decide +kernel
theorem dX10_writesBy_16 : decode cX10_writesBy 16 = .ok (.goto 5, 3) := by decide +kernel
theorem dX10_writesBy_19 : decode cX10_writesBy 19 = .ok (.aload 4, 2) := by decide +kernel
theorem dX10_writesBy_21 : decode cX10_writesBy 21 = .ok (.invokevirtual 284, 3) := by decide +kernel
theorem dX10_writesBy_24 : decode cX10_writesBy 24 = .ok (.return_, 1) := by decide +kernel
theorem dX10_grands_0 : decode cX10_grands 0 = .ok (.iconst 0, 1) := by decide +kernel
theorem dX10_grands_1 : decode cX10_grands 1 = .ok (.istore_n 2, 1) := by decide +kernel
theorem dX10_grands_2 : decode cX10_grands 2 = .ok (.iload_n 2, 1) := by decide +kernel
theorem dX10_grands_3 : decode cX10_grands 3 = .ok (.iload_n 1, 1) := by decide +kernel
theorem dX10_grands_4 : decode cX10_grands 4 = .ok (.if_icmp .ge 16, 3) := by decide +kernel
theorem dX10_grands_7 : decode cX10_grands 7 = .ok (.aload_n 0, 1) := by decide +kernel
theorem dX10_grands_8 : decode cX10_grands 8 = .ok (.ldc_w 287, 3) := by decide +kernel
theorem dX10_grands_11 : decode cX10_grands 11 = .ok (.invokevirtual 284, 3) := by decide +kernel
theorem dX10_grands_14 : decode cX10_grands 14 = .ok (.iinc 2 1, 3) := by decide +kernel
theorem dX10_grands_17 : decode cX10_grands 17 = .ok (.goto (-15), 3) := by decide +kernel
theorem dX10_grands_20 : decode cX10_grands 20 = .ok (.return_, 1) := by decide +kernel
theorem dX10_title_0 : decode cX10_title 0 = .ok (.aload_n 0, 1) := by decide +kernel
theorem dX10_title_1 : decode cX10_title 1 = .ok (.iload_n 1, 1) := by decide +kernel
theorem dX10_title_2 : decode cX10_title 2 = .ok (.iload_n 2, 1) := by decide +kernel
theorem dX10_title_3 : decode cX10_title 3 = .ok (.invokevirtual 268, 3) := by decide +kernel
theorem dX10_title_6 : decode cX10_title 6 = .ok (.ifCond .ne 5, 3) := by decide +kernel
theorem dX10_title_9 : decode cX10_title 9 = .ok (.iconst (-1), 1) := by decide +kernel
theorem dX10_title_10 : decode cX10_title 10 = .ok (.ireturn, 1) := by decide +kernel
theorem dX10_title_11 : decode cX10_title 11 = .ok (.aload_n 0, 1) := by decide +kernel
theorem dX10_title_12 : decode cX10_title 12 = .ok (.iconst 0, 1) := by decide +kernel
theorem dX10_title_13 : decode cX10_title 13 = .ok (.putfield 163, 3) := by decide +kernel
theorem dX10_title_16 : decode cX10_title 16 = .ok (.aload_n 0, 1) := by decide +kernel
theorem dX10_title_17 : decode cX10_title 17 = .ok (.aload_n 0, 1) := by decide +kernel
theorem dX10_title_18 : decode cX10_title 18 = .ok (.getfield 27, 3) := by decide +kernel
theorem dX10_title_21 : decode cX10_title 21 = .ok (.iload_n 2, 1) := by decide +kernel
theorem dX10_title_22 : decode cX10_title 22 = .ok (.iaload, 1) := by decide +kernel
theorem dX10_title_23 : decode cX10_title 23 = .ok (.invokevirtual 107, 3) := by decide +kernel
theorem dX10_title_26 : decode cX10_title 26 = .ok (.istore_n 3, 1) := by decide +kernel
theorem dX10_title_27 : decode cX10_title 27 = .ok (.aload_n 0, 1) := by decide +kernel
theorem dX10_title_28 : decode cX10_title 28 = .ok (.iload_n 1, 1) := by decide +kernel
theorem dX10_title_29 : decode cX10_title 29 = .ok (.iload_n 2, 1) := by decide +kernel
theorem dX10_title_30 : decode cX10_title 30 = .ok (.invokevirtual 271, 3) := by decide +kernel
theorem dX10_title_33 : decode cX10_title 33 = .ok (.ifCond .ne 54, 3) := by decide +kernel
theorem dX10_title_36 : decode cX10_title 36 = .ok (.aload_n 0, 1) := by decide +kernel
theorem dX10_title_37 : decode cX10_title 37 = .ok (.aload_n 0, 1) := by decide +kernel
theorem dX10_title_38 : decode cX10_title 38 = .ok (.getfield 27, 3) := by decide +kernel
theorem dX10_title_41 : decode cX10_title 41 = .ok (.iload_n 1, 1) := by decide +kernel
theorem dX10_title_42 : decode cX10_title 42 = .ok (.iaload, 1) := by decide +kernel
theorem dX10_title_43 : decode cX10_title 43 = .ok (.invokevirtual 289, 3) := by decide +kernel
theorem dX10_title_46 : decode cX10_title 46 = .ok (.aload_n 0, 1) := by decide +kernel
theorem dX10_title_47 : decode cX10_title 47 = .ok (.getfield 27, 3) := by decide +kernel
theorem dX10_title_50 : decode cX10_title 50 = .ok (.iload_n 2, 1) := by decide +kernel
theorem dX10_title_51 : decode cX10_title 51 = .ok (.iaload, 1) := by decide +kernel
theorem dX10_title_52 : decode cX10_title 52 = .ok (.invokestatic 89, 3) := by decide +kernel
theorem dX10_title_55 : decode cX10_title 55 = .ok (.ifCond .eq 20, 3) := by decide +kernel
theorem dX10_title_58 : decode cX10_title 58 = .ok (.aload_n 0, 1) := by decide +kernel
theorem dX10_title_59 : decode cX10_title 59 = .ok (.iload_n 3, 1) := by decide +kernel
theorem dX10_title_60 : decode cX10_title 60 = .ok (.ldc_w 292, 3) := by decide +kernel
theorem dX10_title_63 : decode cX10_title 63 = .ok (.ldc_w 294, 3) := by decide +kernel
theorem dX10_title_66 : decode cX10_title 66 = .ok (.ldc_w 296, 3) := by decide +kernel
theorem dX10_title_69 : decode cX10_title 69 = .ok (.invokevirtual 298, 3) := by decide +kernel
theorem dX10_title_72 : decode cX10_title 72 = .ok (.goto 10, 3) := by decide +kernel
theorem dX10_title_75 : decode cX10_title 75 = .ok (.aload_n 0, 1) := by decide +kernel
theorem dX10_title_76 : decode cX10_title 76 = .ok (.ldc_w 302, 3) := by decide +kernel
theorem dX10_title_79 : decode cX10_title 79 = .ok (.invokevirtual 284, 3) := by decide +kernel
theorem dX10_title_82 : decode cX10_title 82 = .ok (.aload_n 0, 1) := by decide +kernel
theorem dX10_title_83 : decode cX10_title 83 = .ok (.getfield 163, 3) := by decide +kernel
theorem dX10_title_86 : decode cX10_title 86 = .ok (.ireturn, 1) := by decide +kernel
theorem dX10_title_87 : decode cX10_title 87 = .ok (.aload_n 0, 1) := by decide +kernel
theorem dX10_title_88 : decode cX10_title 88 = .ok (.getfield 48, 3) := by decide +kernel
theorem dX10_title_91 : decode cX10_title 91 = .ok (.aload_n 0, 1) := by decide +kernel
theorem dX10_title_92 : decode cX10_title 92 = .ok (.getfield 265, 3) := by decide +kernel
theorem dX10_title_95 : decode cX10_title 95 = .ok (.iaload, 1) := by decide +kernel
theorem dX10_title_96 : decode cX10_title 96 = .ok (.istore 4, 2) := by decide +kernel
theorem dX10_title_98 : decode cX10_title 98 = .ok (.aload_n 0, 1) := by decide +kernel
theorem dX10_title_99 : decode cX10_title 99 = .ok (.getfield 51, 3) := by decide +kernel
theorem dX10_title_102 : decode cX10_title 102 = .ok (.aload_n 0, 1) := by decide +kernel
theorem dX10_title_103 : decode cX10_title 103 = .ok (.getfield 265, 3) := by decide +kernel
theorem dX10_title_106 : decode cX10_title 106 = .ok (.iaload, 1) := by decide +kernel
theorem dX10_title_107 : decode cX10_title 107 = .ok (.istore 5, 2) := by decide +kernel
theorem dX10_title_109 : decode cX10_title 109 = .ok (.aload_n 0, 1) := by decide +kernel
theorem dX10_title_110 : decode cX10_title 110 = .ok (.invokevirtual 278, 3) := by decide +kernel
theorem dX10_title_113 : decode cX10_title 113 = .ok (.ifCond .eq 10, 3) := by decide +kernel
theorem dX10_title_116 : decode cX10_title 116 = .ok (.aload_n 0, 1) := by decide +kernel
theorem dX10_title_117 : decode cX10_title 117 = .ok (.ldc_w 304, 3) := by decide +kernel
theorem dX10_title_120 : decode cX10_title 120 = .ok (.invokevirtual 284, 3) := by decide +kernel
theorem dX10_title_123 : decode cX10_title 123 = .ok (.iload 4, 2) := by decide +kernel
theorem dX10_title_125 : decode cX10_title 125 = .ok (.ifCond .ne 18, 3) := by decide +kernel
theorem dX10_title_128 : decode cX10_title 128 = .ok (.iload 5, 2) := by decide +kernel
theorem dX10_title_130 : decode cX10_title 130 = .ok (.ifCond .ne 13, 3) := by decide +kernel
theorem dX10_title_133 : decode cX10_title 133 = .ok (.aload_n 0, 1) := by decide +kernel
theorem dX10_title_134 : decode cX10_title 134 = .ok (.ldc_w 306, 3) := by decide +kernel
theorem dX10_title_137 : decode cX10_title 137 = .ok (.invokevirtual 284, 3) := by decide +kernel
theorem dX10_title_140 : decode cX10_title 140 = .ok (.goto 199, 3) := by decide +kernel
theorem dX10_title_143 : decode cX10_title 143 = .ok (.iload 4, 2) := by decide +kernel
theorem dX10_title_145 : decode cX10_title 145 = .ok (.ifCond .ne 28, 3) := by decide +kernel
theorem dX10_title_148 : decode cX10_title 148 = .ok (.aload_n 0, 1) := by decide +kernel
theorem dX10_title_149 : decode cX10_title 149 = .ok (.iload 5, 2) := by decide +kernel
theorem dX10_title_151 : decode cX10_title 151 = .ok (.iconst 1, 1) := by decide +kernel
theorem dX10_title_152 : decode cX10_title 152 = .ok (.isub, 1) := by decide +kernel
theorem dX10_title_153 : decode cX10_title 153 = .ok (.invokevirtual 308, 3) := by decide +kernel
theorem dX10_title_156 : decode cX10_title 156 = .ok (.aload_n 0, 1) := by decide +kernel
theorem dX10_title_157 : decode cX10_title 157 = .ok (.iload_n 3, 1) := by decide +kernel
theorem dX10_title_158 : decode cX10_title 158 = .ok (.ldc_w 311, 3) := by decide +kernel
theorem dX10_title_161 : decode cX10_title 161 = .ok (.ldc_w 313, 3) := by decide +kernel
theorem dX10_title_164 : decode cX10_title 164 = .ok (.ldc_w 315, 3) := by decide +kernel
theorem dX10_title_167 : decode cX10_title 167 = .ok (.invokevirtual 298, 3) := by decide +kernel
theorem dX10_title_170 : decode cX10_title 170 = .ok (.goto 169, 3) := by decide +kernel
theorem dX10_title_173 : decode cX10_title 173 = .ok (.iload 5, 2) := by decide +kernel
theorem dX10_title_175 : decode cX10_title 175 = .ok (.ifCond .ne 28, 3) := by decide +kernel
theorem dX10_title_178 : decode cX10_title 178 = .ok (.aload_n 0, 1) := by decide +kernel
theorem dX10_title_179 : decode cX10_title 179 = .ok (.iload 4, 2) := by decide +kernel
theorem dX10_title_181 : decode cX10_title 181 = .ok (.iconst 1, 1) := by decide +kernel
theorem dX10_title_182 : decode cX10_title 182 = .ok (.isub, 1) := by decide +kernel
theorem dX10_title_183 : decode cX10_title 183 = .ok (.invokevirtual 308, 3) := by decide +kernel
theorem dX10_title_186 : decode cX10_title 186 = .ok (.aload_n 0, 1) := by decide +kernel
theorem dX10_title_187 : decode cX10_title 187 = .ok (.iload_n 3, 1) := by decide +kernel
theorem dX10_title_188 : decode cX10_title 188 = .ok (.ldc_w 317, 3) := by decide +kernel
theorem dX10_title_191 : decode cX10_title 191 = .ok (.ldc_w 318, 3) := by decide +kernel
theorem dX10_title_194 : decode cX10_title 194 = .ok (.ldc_w 319, 3) := by decide +kernel
theorem dX10_title_197 : decode cX10_title 197 = .ok (.invokevirtual 298, 3) := by decide +kernel
theorem dX10_title_200 : decode cX10_title 200 = .ok (.goto 139, 3) := by decide +kernel
theorem dX10_title_203 : decode cX10_title 203 = .ok (.iload 4, 2) := by decide +kernel
theorem dX10_title_205 : decode cX10_title 205 = .ok (.iconst 1, 1) := by decide +kernel
theorem dX10_title_206 : decode cX10_title 206 = .ok (.if_icmp .ne 26, 3) := by decide +kernel
theorem dX10_title_209 : decode cX10_title 209 = .ok (.iload 5, 2) := by decide +kernel
theorem dX10_title_211 : decode cX10_title 211 = .ok (.iconst 1, 1) := by decide +kernel
theorem dX10_title_212 : decode cX10_title 212 = .ok (.if_icmp .ne 20, 3) := by decide +kernel
theorem dX10_title_215 : decode cX10_title 215 = .ok (.aload_n 0, 1) := by decide +kernel
theorem dX10_title_216 : decode cX10_title 216 = .ok (.iload_n 3, 1) := by decide +kernel
theorem dX10_title_217 : decode cX10_title 217 = .ok (.ldc_w 321, 3) := by decide +kernel
theorem dX10_title_220 : decode cX10_title 220 = .ok (.ldc_w 323, 3) := by decide +kernel
theorem dX10_title_223 : decode cX10_title 223 = .ok (.ldc_w 325, 3) := by decide +kernel
theorem dX10_title_226 : decode cX10_title 226 = .ok (.invokevirtual 298, 3) := by decide +kernel
theorem dX10_title_229 : decode cX10_title 229 = .ok (.goto 110, 3) := by decide +kernel
theorem dX10_title_232 : decode cX10_title 232 = .ok (.iload 4, 2) := by decide +kernel
theorem dX10_title_234 : decode cX10_title 234 = .ok (.iconst 1, 1) := by decide +kernel
theorem dX10_title_235 : decode cX10_title 235 = .ok (.if_icmp .ne 28, 3) := by decide +kernel
theorem dX10_title_238 : decode cX10_title 238 = .ok (.aload_n 0, 1) := by decide +kernel
theorem dX10_title_239 : decode cX10_title 239 = .ok (.iload 5, 2) := by decide +kernel
theorem dX10_title_241 : decode cX10_title 241 = .ok (.iconst 2, 1) := by decide +kernel
theorem dX10_title_242 : decode cX10_title 242 = .ok (.isub, 1) := by decide +kernel
theorem dX10_title_243 : decode cX10_title 243 = .ok (.invokevirtual 308, 3) := by decide +kernel
theorem dX10_title_246 : decode cX10_title 246 = .ok (.aload_n 0, 1) := by decide +kernel
theorem dX10_title_247 : decode cX10_title 247 = .ok (.iload_n 3, 1) := by decide +kernel
theorem dX10_title_248 : decode cX10_title 248 = .ok (.ldc_w 327, 3) := by decide +kernel
theorem dX10_title_251 : decode cX10_title 251 = .ok (.ldc_w 329, 3) := by decide +kernel
theorem dX10_title_254 : decode cX10_title 254 = .ok (.ldc_w 331, 3) := by decide +kernel
theorem dX10_title_257 : decode cX10_title 257 = .ok (.invokevirtual 298, 3) := by decide +kernel
theorem dX10_title_260 : decode cX10_title 260 = .ok (.goto 79, 3) := by decide +kernel
theorem dX10_title_263 : decode cX10_title 263 = .ok (.iload 5, 2) := by decide +kernel
theorem dX10_title_265 : decode cX10_title 265 = .ok (.iconst 1, 1) := by decide +kernel
theorem dX10_title_266 : decode cX10_title 266 = .ok (.if_icmp .ne 28, 3) := by decide +kernel
theorem dX10_title_269 : decode cX10_title 269 = .ok (.aload_n 0, 1) := by decide +kernel
theorem dX10_title_270 : decode cX10_title 270 = .ok (.iload 4, 2) := by decide +kernel
theorem dX10_title_272 : decode cX10_title 272 = .ok (.iconst 2, 1) := by decide +kernel
theorem dX10_title_273 : decode cX10_title 273 = .ok (.isub, 1) := by decide +kernel
theorem dX10_title_274 : decode cX10_title 274 = .ok (.invokevirtual 308, 3) := by decide +kernel
theorem dX10_title_277 : decode cX10_title 277 = .ok (.aload_n 0, 1) := by decide +kernel
theorem dX10_title_278 : decode cX10_title 278 = .ok (.iload_n 3, 1) := by decide +kernel
theorem dX10_title_279 : decode cX10_title 279 = .ok (.ldc_w 333, 3) := by decide +kernel
theorem dX10_title_282 : decode cX10_title 282 = .ok (.ldc_w 335, 3) := by decide +kernel
theorem dX10_title_285 : decode cX10_title 285 = .ok (.ldc_w 337, 3) := by decide +kernel
theorem dX10_title_288 : decode cX10_title 288 = .ok (.invokevirtual 298, 3) := by decide +kernel
theorem dX10_title_291 : decode cX10_title 291 = .ok (.goto 48, 3) := by decide +kernel
theorem dX10_title_294 : decode cX10_title 294 = .ok (.aload_n 0, 1) := by decide +kernel
theorem dX10_title_295 : decode cX10_title 295 = .ok (.ldc_w 339, 3) := by decide +kernel
theorem dX10_title_298 : decode cX10_title 298 = .ok (.invokevirtual 284, 3) := by decide +kernel
theorem dX10_title_301 : decode cX10_title 301 = .ok (.aload_n 0, 1) := by decide +kernel
theorem dX10_title_302 : decode cX10_title 302 = .ok (.iload 4, 2) := by decide +kernel
theorem dX10_title_304 : decode cX10_title 304 = .ok (.iload 5, 2) := by decide +kernel
theorem dX10_title_306 : decode cX10_title 306 = .ok (.invokestatic 84, 3) := by decide +kernel
theorem dX10_title_309 : decode cX10_title 309 = .ok (.iconst 1, 1) := by decide +kernel
theorem dX10_title_310 : decode cX10_title 310 = .ok (.isub, 1) := by decide +kernel
theorem dX10_title_311 : decode cX10_title 311 = .ok (.invokevirtual 205, 3) := by decide +kernel
theorem dX10_title_314 : decode cX10_title 314 = .ok (.iload 4, 2) := by decide +kernel
theorem dX10_title_316 : decode cX10_title 316 = .ok (.iload 5, 2) := by decide +kernel
theorem dX10_title_318 : decode cX10_title 318 = .ok (.if_icmp .eq 21, 3) := by decide +kernel
theorem dX10_title_321 : decode cX10_title 321 = .ok (.aload_n 0, 1) := by decide +kernel
theorem dX10_title_322 : decode cX10_title 322 = .ok (.bipush 47, 2) := by decide +kernel
theorem dX10_title_324 : decode cX10_title 324 = .ok (.invokevirtual 208, 3) := by decide +kernel
theorem dX10_title_327 : decode cX10_title 327 = .ok (.aload_n 0, 1) := by decide +kernel
theorem dX10_title_328 : decode cX10_title 328 = .ok (.iload 4, 2) := by decide +kernel
theorem dX10_title_330 : decode cX10_title 330 = .ok (.iload 5, 2) := by decide +kernel
theorem dX10_title_332 : decode cX10_title 332 = .ok (.isub, 1) := by decide +kernel
theorem dX10_title_333 : decode cX10_title 333 = .ok (.invokestatic 341, 3) := by decide +kernel
theorem dX10_title_336 : decode cX10_title 336 = .ok (.invokevirtual 205, 3) := by decide +kernel
theorem dX10_title_339 : decode cX10_title 339 = .ok (.aload_n 0, 1) := by decide +kernel
theorem dX10_title_340 : decode cX10_title 340 = .ok (.getfield 163, 3) := by decide +kernel
theorem dX10_title_343 : decode cX10_title 343 = .ok (.ireturn, 1) := by decide +kernel
theorem dX10_path_0 : decode cX10_path 0 = .ok (.aload_n 0, 1) := by decide +kernel
theorem dX10_path_1 : decode cX10_path 1 = .ok (.iload_n 1, 1) := by decide +kernel
theorem dX10_path_2 : decode cX10_path 2 = .ok (.iload_n 2, 1) := by decide +kernel
theorem dX10_path_3 : decode cX10_path 3 = .ok (.invokevirtual 268, 3) := by decide +kernel
theorem dX10_path_6 : decode cX10_path 6 = .ok (.ifCond .ne 5, 3) := by decide +kernel
theorem dX10_path_9 : decode cX10_path 9 = .ok (.iconst (-1), 1) := by decide +kernel
theorem dX10_path_10 : decode cX10_path 10 = .ok (.ireturn, 1) := by decide +kernel
theorem dX10_path_11 : decode cX10_path 11 = .ok (.aload_n 0, 1) := by decide +kernel
theorem dX10_path_12 : decode cX10_path 12 = .ok (.iload_n 1, 1) := by decide +kernel
theorem dX10_path_13 : decode cX10_path 13 = .ok (.iload_n 2, 1) := by decide +kernel
theorem dX10_path_14 : decode cX10_path 14 = .ok (.invokevirtual 271, 3) := by decide +kernel
theorem dX10_path_17 : decode cX10_path 17 = .ok (.ifCond .ne 15, 3) := by decide +kernel
theorem dX10_path_20 : decode cX10_path 20 = .ok (.iload_n 3, 1) := by decide +kernel
theorem dX10_path_21 : decode cX10_path 21 = .ok (.iconst (-1), 1) := by decide +kernel
theorem dX10_path_22 : decode cX10_path 22 = .ok (.if_icmp .ge 7, 3) := by decide +kernel
theorem dX10_path_25 : decode cX10_path 25 = .ok (.iconst (-1), 1) := by decide +kernel
theorem dX10_path_26 : decode cX10_path 26 = .ok (.goto 5, 3) := by decide +kernel
theorem dX10_path_29 : decode cX10_path 29 = .ok (.bipush (-5), 2) := by decide +kernel
theorem dX10_path_31 : decode cX10_path 31 = .ok (.ireturn, 1) := by decide +kernel
theorem dX10_path_32 : decode cX10_path 32 = .ok (.aload_n 0, 1) := by decide +kernel
theorem dX10_path_33 : decode cX10_path 33 = .ok (.aload_n 0, 1) := by decide +kernel
theorem dX10_path_34 : decode cX10_path 34 = .ok (.getfield 48, 3) := by decide +kernel
theorem dX10_path_37 : decode cX10_path 37 = .ok (.aload_n 0, 1) := by decide +kernel
theorem dX10_path_38 : decode cX10_path 38 = .ok (.getfield 265, 3) := by decide +kernel
theorem dX10_path_41 : decode cX10_path 41 = .ok (.iaload, 1) := by decide +kernel
theorem dX10_path_42 : decode cX10_path 42 = .ok (.aload_n 0, 1) := by decide +kernel
theorem dX10_path_43 : decode cX10_path 43 = .ok (.getfield 51, 3) := by decide +kernel
theorem dX10_path_46 : decode cX10_path 46 = .ok (.aload_n 0, 1) := by decide +kernel
theorem dX10_path_47 : decode cX10_path 47 = .ok (.getfield 265, 3) := by decide +kernel
theorem dX10_path_50 : decode cX10_path 50 = .ok (.iaload, 1) := by decide +kernel
theorem dX10_path_51 : decode cX10_path 51 = .ok (.iadd, 1) := by decide +kernel
theorem dX10_path_52 : decode cX10_path 52 = .ok (.iconst 1, 1) := by decide +kernel
theorem dX10_path_53 : decode cX10_path 53 = .ok (.iadd, 1) := by decide +kernel
theorem dX10_path_54 : decode cX10_path 54 = .ok (.putfield 344, 3) := by decide +kernel
theorem dX10_path_57 : decode cX10_path 57 = .ok (.iload_n 3, 1) := by decide +kernel
theorem dX10_path_58 : decode cX10_path 58 = .ok (.iconst (-1), 1) := by decide +kernel
theorem dX10_path_59 : decode cX10_path 59 = .ok (.if_icmp .lt 11, 3) := by decide +kernel
theorem dX10_path_62 : decode cX10_path 62 = .ok (.iload_n 3, 1) := by decide +kernel
theorem dX10_path_63 : decode cX10_path 63 = .ok (.aload_n 0, 1) := by decide +kernel
theorem dX10_path_64 : decode cX10_path 64 = .ok (.getfield 344, 3) := by decide +kernel
theorem dX10_path_67 : decode cX10_path 67 = .ok (.if_icmp .lt 5, 3) := by decide +kernel
theorem dX10_path_70 : decode cX10_path 70 = .ok (.iconst (-1), 1) := by decide +kernel
theorem dX10_path_71 : decode cX10_path 71 = .ok (.ireturn, 1) := by decide +kernel
theorem dX10_path_72 : decode cX10_path 72 = .ok (.iload_n 3, 1) := by decide +kernel
theorem dX10_path_73 : decode cX10_path 73 = .ok (.ifCond .ge 8, 3) := by decide +kernel
theorem dX10_path_76 : decode cX10_path 76 = .ok (.aload_n 0, 1) := by decide +kernel
theorem dX10_path_77 : decode cX10_path 77 = .ok (.getfield 344, 3) := by decide +kernel
theorem dX10_path_80 : decode cX10_path 80 = .ok (.ireturn, 1) := by decide +kernel
theorem dX10_path_81 : decode cX10_path 81 = .ok (.aload_n 0, 1) := by decide +kernel
theorem dX10_path_82 : decode cX10_path 82 = .ok (.getfield 48, 3) := by decide +kernel
theorem dX10_path_85 : decode cX10_path 85 = .ok (.aload_n 0, 1) := by decide +kernel
theorem dX10_path_86 : decode cX10_path 86 = .ok (.getfield 265, 3) := by decide +kernel
theorem dX10_path_89 : decode cX10_path 89 = .ok (.iaload, 1) := by decide +kernel
theorem dX10_path_90 : decode cX10_path 90 = .ok (.istore 4, 2) := by decide +kernel
theorem dX10_path_92 : decode cX10_path 92 = .ok (.aload_n 0, 1) := by decide +kernel
theorem dX10_path_93 : decode cX10_path 93 = .ok (.getfield 54, 3) := by decide +kernel
theorem dX10_path_96 : decode cX10_path 96 = .ok (.iload 4, 2) := by decide +kernel
theorem dX10_path_98 : decode cX10_path 98 = .ok (.aload_n 0, 1) := by decide +kernel
theorem dX10_path_99 : decode cX10_path 99 = .ok (.getfield 265, 3) := by decide +kernel
theorem dX10_path_102 : decode cX10_path 102 = .ok (.iastore, 1) := by decide +kernel
theorem dX10_path_103 : decode cX10_path 103 = .ok (.iload 4, 2) := by decide +kernel
theorem dX10_path_105 : decode cX10_path 105 = .ok (.istore 5, 2) := by decide +kernel
theorem dX10_path_107 : decode cX10_path 107 = .ok (.iload 5, 2) := by decide +kernel
theorem dX10_path_109 : decode cX10_path 109 = .ok (.ifCond .le 33, 3) := by decide +kernel
theorem dX10_path_112 : decode cX10_path 112 = .ok (.aload_n 0, 1) := by decide +kernel
theorem dX10_path_113 : decode cX10_path 113 = .ok (.getfield 54, 3) := by decide +kernel
theorem dX10_path_116 : decode cX10_path 116 = .ok (.iload 5, 2) := by decide +kernel
theorem dX10_path_118 : decode cX10_path 118 = .ok (.iconst 1, 1) := by decide +kernel
theorem dX10_path_119 : decode cX10_path 119 = .ok (.isub, 1) := by decide +kernel
theorem dX10_path_120 : decode cX10_path 120 = .ok (.aload_n 0, 1) := by decide +kernel
theorem dX10_path_121 : decode cX10_path 121 = .ok (.aload_n 0, 1) := by decide +kernel
theorem dX10_path_122 : decode cX10_path 122 = .ok (.getfield 54, 3) := by decide +kernel
theorem dX10_path_125 : decode cX10_path 125 = .ok (.iload 5, 2) := by decide +kernel
theorem dX10_path_127 : decode cX10_path 127 = .ok (.iaload, 1) := by decide +kernel
theorem dX10_path_128 : decode cX10_path 128 = .ok (.aload_n 0, 1) := by decide +kernel
theorem dX10_path_129 : decode cX10_path 129 = .ok (.getfield 48, 3) := by decide +kernel
theorem dX10_path_132 : decode cX10_path 132 = .ok (.invokevirtual 274, 3) := by decide +kernel
theorem dX10_path_135 : decode cX10_path 135 = .ok (.iastore, 1) := by decide +kernel
theorem dX10_path_136 : decode cX10_path 136 = .ok (.iinc 5 (-1), 3) := by decide +kernel
theorem dX10_path_139 : decode cX10_path 139 = .ok (.goto (-32), 3) := by decide +kernel
theorem dX10_path_142 : decode cX10_path 142 = .ok (.iload 4, 2) := by decide +kernel
theorem dX10_path_144 : decode cX10_path 144 = .ok (.istore 5, 2) := by decide +kernel
theorem dX10_path_146 : decode cX10_path 146 = .ok (.iload 5, 2) := by decide +kernel
theorem dX10_path_148 : decode cX10_path 148 = .ok (.aload_n 0, 1) := by decide +kernel
theorem dX10_path_149 : decode cX10_path 149 = .ok (.getfield 344, 3) := by decide +kernel
theorem dX10_path_152 : decode cX10_path 152 = .ok (.iconst 1, 1) := by decide +kernel
theorem dX10_path_153 : decode cX10_path 153 = .ok (.isub, 1) := by decide +kernel
theorem dX10_path_154 : decode cX10_path 154 = .ok (.if_icmp .ge 33, 3) := by decide +kernel
theorem dX10_path_157 : decode cX10_path 157 = .ok (.aload_n 0, 1) := by decide +kernel
theorem dX10_path_158 : decode cX10_path 158 = .ok (.getfield 54, 3) := by decide +kernel
theorem dX10_path_161 : decode cX10_path 161 = .ok (.iload 5, 2) := by decide +kernel
theorem dX10_path_163 : decode cX10_path 163 = .ok (.iconst 1, 1) := by decide +kernel
theorem dX10_path_164 : decode cX10_path 164 = .ok (.iadd, 1) := by decide +kernel
theorem dX10_path_165 : decode cX10_path 165 = .ok (.aload_n 0, 1) := by decide +kernel
theorem dX10_path_166 : decode cX10_path 166 = .ok (.aload_n 0, 1) := by decide +kernel
theorem dX10_path_167 : decode cX10_path 167 = .ok (.getfield 54, 3) := by decide +kernel
theorem dX10_path_170 : decode cX10_path 170 = .ok (.iload 5, 2) := by decide +kernel
theorem dX10_path_172 : decode cX10_path 172 = .ok (.iaload, 1) := by decide +kernel
theorem dX10_path_173 : decode cX10_path 173 = .ok (.aload_n 0, 1) := by decide +kernel
theorem dX10_path_174 : decode cX10_path 174 = .ok (.getfield 51, 3) := by decide +kernel
theorem dX10_path_177 : decode cX10_path 177 = .ok (.invokevirtual 274, 3) := by decide +kernel
theorem dX10_path_180 : decode cX10_path 180 = .ok (.iastore, 1) := by decide +kernel
theorem dX10_path_181 : decode cX10_path 181 = .ok (.iinc 5 1, 3) := by decide +kernel
theorem dX10_path_184 : decode cX10_path 184 = .ok (.goto (-38), 3) := by decide +kernel
theorem dX10_path_187 : decode cX10_path 187 = .ok (.aload_n 0, 1) := by decide +kernel
theorem dX10_path_188 : decode cX10_path 188 = .ok (.getfield 54, 3) := by decide +kernel
theorem dX10_path_191 : decode cX10_path 191 = .ok (.iload_n 3, 1) := by decide +kernel
theorem dX10_path_192 : decode cX10_path 192 = .ok (.iaload, 1) := by decide +kernel
theorem dX10_path_193 : decode cX10_path 193 = .ok (.ireturn, 1) := by decide +kernel
theorem dX10_relatives_0 : decode cX10_relatives 0 = .ok (.aload_n 0, 1) := by decide +kernel
theorem dX10_relatives_1 : decode cX10_relatives 1 = .ok (.iload_n 1, 1) := by decide +kernel
theorem dX10_relatives_2 : decode cX10_relatives 2 = .ok (.invokevirtual 170, 3) := by decide +kernel
theorem dX10_relatives_5 : decode cX10_relatives 5 = .ok (.ifCond .ne 7, 3) := by decide +kernel
theorem dX10_relatives_8 : decode cX10_relatives 8 = .ok (.ldc2_w 347, 3) := by decide +kernel
theorem dX10_relatives_11 : decode cX10_relatives 11 = .ok (.lreturn, 1) := by decide +kernel
theorem dX10_relatives_12 : decode cX10_relatives 12 = .ok (.aload_n 0, 1) := by decide +kernel
theorem dX10_relatives_13 : decode cX10_relatives 13 = .ok (.getfield 27, 3) := by decide +kernel
theorem dX10_relatives_16 : decode cX10_relatives 16 = .ok (.iload_n 1, 1) := by decide +kernel
theorem dX10_relatives_17 : decode cX10_relatives 17 = .ok (.iaload, 1) := by decide +kernel
theorem dX10_relatives_18 : decode cX10_relatives 18 = .ok (.istore_n 3, 1) := by decide +kernel
theorem dX10_relatives_19 : decode cX10_relatives 19 = .ok (.iconst 0, 1) := by decide +kernel
theorem dX10_relatives_20 : decode cX10_relatives 20 = .ok (.istore 4, 2) := by decide +kernel
theorem dX10_relatives_22 : decode cX10_relatives 22 = .ok (.iload_n 2, 1) := by decide +kernel
theorem dX10_relatives_23 : decode cX10_relatives 23 = .ok (.tableswitch 114 0 2 #[25, 32, 107], 25) := by decide +kernel
theorem dX10_relatives_48 : decode cX10_relatives 48 = .ok (.aload_n 0, 1) := by decide +kernel
theorem dX10_relatives_49 : decode cX10_relatives 49 = .ok (.iload_n 3, 1) := by decide +kernel
theorem dX10_relatives_50 : decode cX10_relatives 50 = .ok (.invokevirtual 234, 3) := by decide +kernel
theorem dX10_relatives_53 : decode cX10_relatives 53 = .ok (.i2l, 1) := by decide +kernel
theorem dX10_relatives_54 : decode cX10_relatives 54 = .ok (.lreturn, 1) := by decide +kernel
theorem dX10_relatives_55 : decode cX10_relatives 55 = .ok (.iconst 0, 1) := by decide +kernel
theorem dX10_relatives_56 : decode cX10_relatives 56 = .ok (.istore 5, 2) := by decide +kernel
theorem dX10_relatives_58 : decode cX10_relatives 58 = .ok (.iload 5, 2) := by decide +kernel
theorem dX10_relatives_60 : decode cX10_relatives 60 = .ok (.aload_n 0, 1) := by decide +kernel
theorem dX10_relatives_61 : decode cX10_relatives 61 = .ok (.getfield 11, 3) := by decide +kernel
theorem dX10_relatives_64 : decode cX10_relatives 64 = .ok (.iconst 0, 1) := by decide +kernel
theorem dX10_relatives_65 : decode cX10_relatives 65 = .ok (.iaload, 1) := by decide +kernel
theorem dX10_relatives_66 : decode cX10_relatives 66 = .ok (.if_icmp .ge 60, 3) := by decide +kernel
theorem dX10_relatives_69 : decode cX10_relatives 69 = .ok (.iload 4, 2) := by decide +kernel
theorem dX10_relatives_71 : decode cX10_relatives 71 = .ok (.iload 5, 2) := by decide +kernel
theorem dX10_relatives_73 : decode cX10_relatives 73 = .ok (.iload_n 3, 1) := by decide +kernel
theorem dX10_relatives_74 : decode cX10_relatives 74 = .ok (.if_icmp .eq 42, 3) := by decide +kernel
theorem dX10_relatives_77 : decode cX10_relatives 77 = .ok (.aload_n 0, 1) := by decide +kernel
theorem dX10_relatives_78 : decode cX10_relatives 78 = .ok (.getfield 30, 3) := by decide +kernel
theorem dX10_relatives_81 : decode cX10_relatives 81 = .ok (.iload 5, 2) := by decide +kernel
theorem dX10_relatives_83 : decode cX10_relatives 83 = .ok (.iaload, 1) := by decide +kernel
theorem dX10_relatives_84 : decode cX10_relatives 84 = .ok (.aload_n 0, 1) := by decide +kernel
theorem dX10_relatives_85 : decode cX10_relatives 85 = .ok (.getfield 33, 3) := by decide +kernel
theorem dX10_relatives_88 : decode cX10_relatives 88 = .ok (.iload 5, 2) := by decide +kernel
theorem dX10_relatives_90 : decode cX10_relatives 90 = .ok (.iaload, 1) := by decide +kernel
theorem dX10_relatives_91 : decode cX10_relatives 91 = .ok (.ior, 1) := by decide +kernel
theorem dX10_relatives_92 : decode cX10_relatives 92 = .ok (.aload_n 0, 1) := by decide +kernel
theorem dX10_relatives_93 : decode cX10_relatives 93 = .ok (.getfield 30, 3) := by decide +kernel
theorem dX10_relatives_96 : decode cX10_relatives 96 = .ok (.iload_n 3, 1) := by decide +kernel
theorem dX10_relatives_97 : decode cX10_relatives 97 = .ok (.iaload, 1) := by decide +kernel
theorem dX10_relatives_98 : decode cX10_relatives 98 = .ok (.aload_n 0, 1) := by decide +kernel
theorem dX10_relatives_99 : decode cX10_relatives 99 = .ok (.getfield 33, 3) := by decide +kernel
theorem dX10_relatives_102 : decode cX10_relatives 102 = .ok (.iload_n 3, 1) := by decide +kernel
theorem dX10_relatives_103 : decode cX10_relatives 103 = .ok (.iaload, 1) := by decide +kernel
theorem dX10_relatives_104 : decode cX10_relatives 104 = .ok (.ior, 1) := by decide +kernel
theorem dX10_relatives_105 : decode cX10_relatives 105 = .ok (.iand, 1) := by decide +kernel
theorem dX10_relatives_106 : decode cX10_relatives 106 = .ok (.ifCond .eq 10, 3) := by decide +kernel
theorem dX10_relatives_109 : decode cX10_relatives 109 = .ok (.iconst 1, 1) := by decide +kernel
theorem dX10_relatives_110 : decode cX10_relatives 110 = .ok (.iload 5, 2) := by decide +kernel
theorem dX10_relatives_112 : decode cX10_relatives 112 = .ok (.ishl, 1) := by decide +kernel
theorem dX10_relatives_113 : decode cX10_relatives 113 = .ok (.goto 4, 3) := by decide +kernel
theorem dX10_relatives_116 : decode cX10_relatives 116 = .ok (.iconst 0, 1) := by decide +kernel
theorem dX10_relatives_117 : decode cX10_relatives 117 = .ok (.ior, 1) := by decide +kernel
theorem dX10_relatives_118 : decode cX10_relatives 118 = .ok (.istore 4, 2) := by decide +kernel
theorem dX10_relatives_120 : decode cX10_relatives 120 = .ok (.iinc 5 1, 3) := by decide +kernel
theorem dX10_relatives_123 : decode cX10_relatives 123 = .ok (.goto (-65), 3) := by decide +kernel
theorem dX10_relatives_126 : decode cX10_relatives 126 = .ok (.iload 4, 2) := by decide +kernel
theorem dX10_relatives_128 : decode cX10_relatives 128 = .ok (.i2l, 1) := by decide +kernel
theorem dX10_relatives_129 : decode cX10_relatives 129 = .ok (.lreturn, 1) := by decide +kernel
theorem dX10_relatives_130 : decode cX10_relatives 130 = .ok (.aload_n 0, 1) := by decide +kernel
theorem dX10_relatives_131 : decode cX10_relatives 131 = .ok (.iload_n 3, 1) := by decide +kernel
theorem dX10_relatives_132 : decode cX10_relatives 132 = .ok (.invokevirtual 289, 3) := by decide +kernel
theorem dX10_relatives_135 : decode cX10_relatives 135 = .ok (.i2l, 1) := by decide +kernel
theorem dX10_relatives_136 : decode cX10_relatives 136 = .ok (.lreturn, 1) := by decide +kernel
theorem dX10_relatives_137 : decode cX10_relatives 137 = .ok (.ldc2_w 347, 3) := by decide +kernel
theorem dX10_relatives_140 : decode cX10_relatives 140 = .ok (.lreturn, 1) := by decide +kernel
theorem dX10_ancestors_0 : decode cX10_ancestors 0 = .ok (.aload_n 0, 1) := by decide +kernel
theorem dX10_ancestors_1 : decode cX10_ancestors 1 = .ok (.iload_n 1, 1) := by decide +kernel
theorem dX10_ancestors_2 : decode cX10_ancestors 2 = .ok (.invokevirtual 170, 3) := by decide +kernel
theorem dX10_ancestors_5 : decode cX10_ancestors 5 = .ok (.ifCond .eq 18, 3) := by decide +kernel
theorem dX10_ancestors_8 : decode cX10_ancestors 8 = .ok (.aload_n 0, 1) := by decide +kernel
theorem dX10_ancestors_9 : decode cX10_ancestors 9 = .ok (.getfield 36, 3) := by decide +kernel
theorem dX10_ancestors_12 : decode cX10_ancestors 12 = .ok (.aload_n 0, 1) := by decide +kernel
theorem dX10_ancestors_13 : decode cX10_ancestors 13 = .ok (.getfield 27, 3) := by decide +kernel
theorem dX10_ancestors_16 : decode cX10_ancestors 16 = .ok (.iload_n 1, 1) := by decide +kernel
theorem dX10_ancestors_17 : decode cX10_ancestors 17 = .ok (.iaload, 1) := by decide +kernel
theorem dX10_ancestors_18 : decode cX10_ancestors 18 = .ok (.iaload, 1) := by decide +kernel
theorem dX10_ancestors_19 : decode cX10_ancestors 19 = .ok (.i2l, 1) := by decide +kernel
theorem dX10_ancestors_20 : decode cX10_ancestors 20 = .ok (.goto 6, 3) := by decide +kernel
theorem dX10_ancestors_23 : decode cX10_ancestors 23 = .ok (.ldc2_w 347, 3) := by decide +kernel
theorem dX10_ancestors_26 : decode cX10_ancestors 26 = .ok (.lreturn, 1) := by decide +kernel
theorem dX10_descendants_0 : decode cX10_descendants 0 = .ok (.aload_n 0, 1) := by decide +kernel
theorem dX10_descendants_1 : decode cX10_descendants 1 = .ok (.iload_n 1, 1) := by decide +kernel
theorem dX10_descendants_2 : decode cX10_descendants 2 = .ok (.invokevirtual 170, 3) := by decide +kernel
theorem dX10_descendants_5 : decode cX10_descendants 5 = .ok (.ifCond .ne 7, 3) := by decide +kernel
theorem dX10_descendants_8 : decode cX10_descendants 8 = .ok (.ldc2_w 347, 3) := by decide +kernel
theorem dX10_descendants_11 : decode cX10_descendants 11 = .ok (.lreturn, 1) := by decide +kernel
theorem dX10_descendants_12 : decode cX10_descendants 12 = .ok (.iconst 0, 1) := by decide +kernel
theorem dX10_descendants_13 : decode cX10_descendants 13 = .ok (.istore_n 2, 1) := by decide +kernel
theorem dX10_descendants_14 : decode cX10_descendants 14 = .ok (.iconst 0, 1) := by decide +kernel
theorem dX10_descendants_15 : decode cX10_descendants 15 = .ok (.istore_n 3, 1) := by decide +kernel
theorem dX10_descendants_16 : decode cX10_descendants 16 = .ok (.iload_n 3, 1) := by decide +kernel
theorem dX10_descendants_17 : decode cX10_descendants 17 = .ok (.aload_n 0, 1) := by decide +kernel
theorem dX10_descendants_18 : decode cX10_descendants 18 = .ok (.getfield 11, 3) := by decide +kernel
theorem dX10_descendants_21 : decode cX10_descendants 21 = .ok (.iconst 0, 1) := by decide +kernel
theorem dX10_descendants_22 : decode cX10_descendants 22 = .ok (.iaload, 1) := by decide +kernel
theorem dX10_descendants_23 : decode cX10_descendants 23 = .ok (.if_icmp .ge 37, 3) := by decide +kernel
theorem dX10_descendants_26 : decode cX10_descendants 26 = .ok (.iload_n 2, 1) := by decide +kernel
theorem dX10_descendants_27 : decode cX10_descendants 27 = .ok (.aload_n 0, 1) := by decide +kernel
theorem dX10_descendants_28 : decode cX10_descendants 28 = .ok (.getfield 36, 3) := by decide +kernel
theorem dX10_descendants_31 : decode cX10_descendants 31 = .ok (.iload_n 3, 1) := by decide +kernel
theorem dX10_descendants_32 : decode cX10_descendants 32 = .ok (.iaload, 1) := by decide +kernel
theorem dX10_descendants_33 : decode cX10_descendants 33 = .ok (.aload_n 0, 1) := by decide +kernel
theorem dX10_descendants_34 : decode cX10_descendants 34 = .ok (.getfield 27, 3) := by decide +kernel
theorem dX10_descendants_37 : decode cX10_descendants 37 = .ok (.iload_n 1, 1) := by decide +kernel
theorem dX10_descendants_38 : decode cX10_descendants 38 = .ok (.iaload, 1) := by decide +kernel
theorem dX10_descendants_39 : decode cX10_descendants 39 = .ok (.invokestatic 89, 3) := by decide +kernel
theorem dX10_descendants_42 : decode cX10_descendants 42 = .ok (.ifCond .eq 9, 3) := by decide +kernel
theorem dX10_descendants_45 : decode cX10_descendants 45 = .ok (.iconst 1, 1) := by decide +kernel
theorem dX10_descendants_46 : decode cX10_descendants 46 = .ok (.iload_n 3, 1) := by decide +kernel
theorem dX10_descendants_47 : decode cX10_descendants 47 = .ok (.ishl, 1) := by decide +kernel
theorem dX10_descendants_48 : decode cX10_descendants 48 = .ok (.goto 4, 3) := by decide +kernel
theorem dX10_descendants_51 : decode cX10_descendants 51 = .ok (.iconst 0, 1) := by decide +kernel
theorem dX10_descendants_52 : decode cX10_descendants 52 = .ok (.ior, 1) := by decide +kernel
theorem dX10_descendants_53 : decode cX10_descendants 53 = .ok (.istore_n 2, 1) := by decide +kernel
theorem dX10_descendants_54 : decode cX10_descendants 54 = .ok (.iinc 3 1, 3) := by decide +kernel
theorem dX10_descendants_57 : decode cX10_descendants 57 = .ok (.goto (-41), 3) := by decide +kernel
theorem dX10_descendants_60 : decode cX10_descendants 60 = .ok (.iload_n 2, 1) := by decide +kernel
theorem dX10_descendants_61 : decode cX10_descendants 61 = .ok (.i2l, 1) := by decide +kernel
theorem dX10_descendants_62 : decode cX10_descendants 62 = .ok (.lreturn, 1) := by decide +kernel
theorem dX10_isBornAhead_0 : decode cX10_isBornAhead 0 = .ok (.iconst 2, 1) := by decide +kernel
theorem dX10_isBornAhead_1 : decode cX10_isBornAhead 1 = .ok (.iload_n 1, 1) := by decide +kernel
theorem dX10_isBornAhead_2 : decode cX10_isBornAhead 2 = .ok (.invokestatic 128, 3) := by decide +kernel
theorem dX10_isBornAhead_5 : decode cX10_isBornAhead 5 = .ok (.imul, 1) := by decide +kernel
theorem dX10_isBornAhead_6 : decode cX10_isBornAhead 6 = .ok (.istore_n 3, 1) := by decide +kernel
theorem dX10_isBornAhead_7 : decode cX10_isBornAhead 7 = .ok (.iconst 2, 1) := by decide +kernel
theorem dX10_isBornAhead_8 : decode cX10_isBornAhead 8 = .ok (.iload_n 2, 1) := by decide +kernel
theorem dX10_isBornAhead_9 : decode cX10_isBornAhead 9 = .ok (.invokestatic 128, 3) := by decide +kernel
theorem dX10_isBornAhead_12 : decode cX10_isBornAhead 12 = .ok (.imul, 1) := by decide +kernel
theorem dX10_isBornAhead_13 : decode cX10_isBornAhead 13 = .ok (.istore 4, 2) := by decide +kernel
theorem dX10_isBornAhead_15 : decode cX10_isBornAhead 15 = .ok (.aload_n 0, 1) := by decide +kernel
theorem dX10_isBornAhead_16 : decode cX10_isBornAhead 16 = .ok (.getfield 39, 3) := by decide +kernel
theorem dX10_isBornAhead_19 : decode cX10_isBornAhead 19 = .ok (.iload_n 3, 1) := by decide +kernel
theorem dX10_isBornAhead_20 : decode cX10_isBornAhead 20 = .ok (.iaload, 1) := by decide +kernel
theorem dX10_isBornAhead_21 : decode cX10_isBornAhead 21 = .ok (.aload_n 0, 1) := by decide +kernel
theorem dX10_isBornAhead_22 : decode cX10_isBornAhead 22 = .ok (.getfield 39, 3) := by decide +kernel
theorem dX10_isBornAhead_25 : decode cX10_isBornAhead 25 = .ok (.iload 4, 2) := by decide +kernel
theorem dX10_isBornAhead_27 : decode cX10_isBornAhead 27 = .ok (.iaload, 1) := by decide +kernel
theorem dX10_isBornAhead_28 : decode cX10_isBornAhead 28 = .ok (.if_icmp .eq 25, 3) := by decide +kernel
theorem dX10_isBornAhead_31 : decode cX10_isBornAhead 31 = .ok (.aload_n 0, 1) := by decide +kernel
theorem dX10_isBornAhead_32 : decode cX10_isBornAhead 32 = .ok (.getfield 39, 3) := by decide +kernel
theorem dX10_isBornAhead_35 : decode cX10_isBornAhead 35 = .ok (.iload_n 3, 1) := by decide +kernel
theorem dX10_isBornAhead_36 : decode cX10_isBornAhead 36 = .ok (.iaload, 1) := by decide +kernel
theorem dX10_isBornAhead_37 : decode cX10_isBornAhead 37 = .ok (.aload_n 0, 1) := by decide +kernel
theorem dX10_isBornAhead_38 : decode cX10_isBornAhead 38 = .ok (.getfield 39, 3) := by decide +kernel
theorem dX10_isBornAhead_41 : decode cX10_isBornAhead 41 = .ok (.iload 4, 2) := by decide +kernel
theorem dX10_isBornAhead_43 : decode cX10_isBornAhead 43 = .ok (.iaload, 1) := by decide +kernel
theorem dX10_isBornAhead_44 : decode cX10_isBornAhead 44 = .ok (.if_icmp .ge 7, 3) := by decide +kernel
theorem dX10_isBornAhead_47 : decode cX10_isBornAhead 47 = .ok (.iconst 1, 1) := by decide +kernel
theorem dX10_isBornAhead_48 : decode cX10_isBornAhead 48 = .ok (.goto 4, 3) := by decide +kernel
theorem dX10_isBornAhead_51 : decode cX10_isBornAhead 51 = .ok (.iconst 0, 1) := by decide +kernel
theorem dX10_isBornAhead_52 : decode cX10_isBornAhead 52 = .ok (.ireturn, 1) := by decide +kernel
theorem dX10_isBornAhead_53 : decode cX10_isBornAhead 53 = .ok (.aload_n 0, 1) := by decide +kernel
theorem dX10_isBornAhead_54 : decode cX10_isBornAhead 54 = .ok (.getfield 39, 3) := by decide +kernel
theorem dX10_isBornAhead_57 : decode cX10_isBornAhead 57 = .ok (.iload_n 3, 1) := by decide +kernel
theorem dX10_isBornAhead_58 : decode cX10_isBornAhead 58 = .ok (.iconst 1, 1) := by decide +kernel
theorem dX10_isBornAhead_59 : decode cX10_isBornAhead 59 = .ok (.iadd, 1) := by decide +kernel
theorem dX10_isBornAhead_60 : decode cX10_isBornAhead 60 = .ok (.iaload, 1) := by decide +kernel
theorem dX10_isBornAhead_61 : decode cX10_isBornAhead 61 = .ok (.aload_n 0, 1) := by decide +kernel
theorem dX10_isBornAhead_62 : decode cX10_isBornAhead 62 = .ok (.getfield 39, 3) := by decide +kernel
theorem dX10_isBornAhead_65 : decode cX10_isBornAhead 65 = .ok (.iload 4, 2) := by decide +kernel
theorem dX10_isBornAhead_67 : decode cX10_isBornAhead 67 = .ok (.iconst 1, 1) := by decide +kernel
theorem dX10_isBornAhead_68 : decode cX10_isBornAhead 68 = .ok (.iadd, 1) := by decide +kernel
theorem dX10_isBornAhead_69 : decode cX10_isBornAhead 69 = .ok (.iaload, 1) := by decide +kernel
theorem dX10_isBornAhead_70 : decode cX10_isBornAhead 70 = .ok (.if_icmp .eq 31, 3) := by decide +kernel
theorem dX10_isBornAhead_73 : decode cX10_isBornAhead 73 = .ok (.aload_n 0, 1) := by decide +kernel
theorem dX10_isBornAhead_74 : decode cX10_isBornAhead 74 = .ok (.getfield 39, 3) := by decide +kernel
theorem dX10_isBornAhead_77 : decode cX10_isBornAhead 77 = .ok (.iload_n 3, 1) := by decide +kernel
theorem dX10_isBornAhead_78 : decode cX10_isBornAhead 78 = .ok (.iconst 1, 1) := by decide +kernel
theorem dX10_isBornAhead_79 : decode cX10_isBornAhead 79 = .ok (.iadd, 1) := by decide +kernel
theorem dX10_isBornAhead_80 : decode cX10_isBornAhead 80 = .ok (.iaload, 1) := by decide +kernel
theorem dX10_isBornAhead_81 : decode cX10_isBornAhead 81 = .ok (.aload_n 0, 1) := by decide +kernel
theorem dX10_isBornAhead_82 : decode cX10_isBornAhead 82 = .ok (.getfield 39, 3) := by decide +kernel
theorem dX10_isBornAhead_85 : decode cX10_isBornAhead 85 = .ok (.iload 4, 2) := by decide +kernel
theorem dX10_isBornAhead_87 : decode cX10_isBornAhead 87 = .ok (.iconst 1, 1) := by decide +kernel
theorem dX10_isBornAhead_88 : decode cX10_isBornAhead 88 = .ok (.iadd, 1) := by decide +kernel
theorem dX10_isBornAhead_89 : decode cX10_isBornAhead 89 = .ok (.iaload, 1) := by decide +kernel
theorem dX10_isBornAhead_90 : decode cX10_isBornAhead 90 = .ok (.if_icmp .ge 7, 3) := by decide +kernel
theorem dX10_isBornAhead_93 : decode cX10_isBornAhead 93 = .ok (.iconst 1, 1) := by decide +kernel
theorem dX10_isBornAhead_94 : decode cX10_isBornAhead 94 = .ok (.goto 17, 3) := by decide +kernel
theorem dX10_isBornAhead_97 : decode cX10_isBornAhead 97 = .ok (.iconst 0, 1) := by decide +kernel
theorem dX10_isBornAhead_98 : decode cX10_isBornAhead 98 = .ok (.goto 13, 3) := by decide +kernel
theorem dX10_isBornAhead_101 : decode cX10_isBornAhead 101 = .ok (.iload_n 1, 1) := by decide +kernel
theorem dX10_isBornAhead_102 : decode cX10_isBornAhead 102 = .ok (.iload_n 2, 1) := by decide +kernel
theorem dX10_isBornAhead_103 : decode cX10_isBornAhead 103 = .ok (.if_icmp .ge 7, 3) := by decide +kernel
theorem dX10_isBornAhead_106 : decode cX10_isBornAhead 106 = .ok (.iconst 1, 1) := by decide +kernel
theorem dX10_isBornAhead_107 : decode cX10_isBornAhead 107 = .ok (.goto 4, 3) := by decide +kernel
theorem dX10_isBornAhead_110 : decode cX10_isBornAhead 110 = .ok (.iconst 0, 1) := by decide +kernel
theorem dX10_isBornAhead_111 : decode cX10_isBornAhead 111 = .ok (.ireturn, 1) := by decide +kernel
theorem dX10_orders_0 : decode cX10_orders 0 = .ok (.iconst 0, 1) := by decide +kernel
theorem dX10_orders_1 : decode cX10_orders 1 = .ok (.istore_n 1, 1) := by decide +kernel
theorem dX10_orders_2 : decode cX10_orders 2 = .ok (.iconst 0, 1) := by decide +kernel
theorem dX10_orders_3 : decode cX10_orders 3 = .ok (.istore_n 2, 1) := by decide +kernel
theorem dX10_orders_4 : decode cX10_orders 4 = .ok (.iload_n 2, 1) := by decide +kernel
theorem dX10_orders_5 : decode cX10_orders 5 = .ok (.aload_n 0, 1) := by decide +kernel
theorem dX10_orders_6 : decode cX10_orders 6 = .ok (.getfield 11, 3) := by decide +kernel
theorem dX10_orders_9 : decode cX10_orders 9 = .ok (.iconst 0, 1) := by decide +kernel
theorem dX10_orders_10 : decode cX10_orders 10 = .ok (.iaload, 1) := by decide +kernel
theorem dX10_orders_11 : decode cX10_orders 11 = .ok (.if_icmp .ge 72, 3) := by decide +kernel
theorem dX10_orders_14 : decode cX10_orders 14 = .ok (.aload_n 0, 1) := by decide +kernel
theorem dX10_orders_15 : decode cX10_orders 15 = .ok (.iload_n 2, 1) := by decide +kernel
theorem dX10_orders_16 : decode cX10_orders 16 = .ok (.invokevirtual 103, 3) := by decide +kernel
theorem dX10_orders_19 : decode cX10_orders 19 = .ok (.ifCond .ne 6, 3) := by decide +kernel
theorem dX10_orders_22 : decode cX10_orders 22 = .ok (.goto 55, 3) := by decide +kernel
theorem dX10_orders_25 : decode cX10_orders 25 = .ok (.iload_n 1, 1) := by decide +kernel
theorem dX10_orders_26 : decode cX10_orders 26 = .ok (.istore_n 3, 1) := by decide +kernel
theorem dX10_orders_27 : decode cX10_orders 27 = .ok (.iload_n 3, 1) := by decide +kernel
theorem dX10_orders_28 : decode cX10_orders 28 = .ok (.ifCond .le 39, 3) := by decide +kernel
theorem dX10_orders_31 : decode cX10_orders 31 = .ok (.aload_n 0, 1) := by decide +kernel
theorem dX10_orders_32 : decode cX10_orders 32 = .ok (.iload_n 2, 1) := by decide +kernel
theorem dX10_orders_33 : decode cX10_orders 33 = .ok (.aload_n 0, 1) := by decide +kernel
theorem dX10_orders_34 : decode cX10_orders 34 = .ok (.getfield 57, 3) := by decide +kernel
theorem dX10_orders_37 : decode cX10_orders 37 = .ok (.iload_n 3, 1) := by decide +kernel
theorem dX10_orders_38 : decode cX10_orders 38 = .ok (.iconst 1, 1) := by decide +kernel
theorem dX10_orders_39 : decode cX10_orders 39 = .ok (.isub, 1) := by decide +kernel
theorem dX10_orders_40 : decode cX10_orders 40 = .ok (.iaload, 1) := by decide +kernel
theorem dX10_orders_41 : decode cX10_orders 41 = .ok (.invokevirtual 349, 3) := by decide +kernel
theorem dX10_orders_44 : decode cX10_orders 44 = .ok (.ifCond .eq 23, 3) := by decide +kernel
theorem dX10_orders_47 : decode cX10_orders 47 = .ok (.aload_n 0, 1) := by decide +kernel
theorem dX10_orders_48 : decode cX10_orders 48 = .ok (.getfield 57, 3) := by decide +kernel
theorem dX10_orders_51 : decode cX10_orders 51 = .ok (.iload_n 3, 1) := by decide +kernel
theorem dX10_orders_52 : decode cX10_orders 52 = .ok (.aload_n 0, 1) := by decide +kernel
theorem dX10_orders_53 : decode cX10_orders 53 = .ok (.getfield 57, 3) := by decide +kernel
theorem dX10_orders_56 : decode cX10_orders 56 = .ok (.iload_n 3, 1) := by decide +kernel
theorem dX10_orders_57 : decode cX10_orders 57 = .ok (.iconst 1, 1) := by decide +kernel
theorem dX10_orders_58 : decode cX10_orders 58 = .ok (.isub, 1) := by decide +kernel
theorem dX10_orders_59 : decode cX10_orders 59 = .ok (.iaload, 1) := by decide +kernel
theorem dX10_orders_60 : decode cX10_orders 60 = .ok (.iastore, 1) := by decide +kernel
theorem dX10_orders_61 : decode cX10_orders 61 = .ok (.iinc 3 (-1), 3) := by decide +kernel
theorem dX10_orders_64 : decode cX10_orders 64 = .ok (.goto (-37), 3) := by decide +kernel
theorem dX10_orders_67 : decode cX10_orders 67 = .ok (.aload_n 0, 1) := by decide +kernel
theorem dX10_orders_68 : decode cX10_orders 68 = .ok (.getfield 57, 3) := by decide +kernel
theorem dX10_orders_71 : decode cX10_orders 71 = .ok (.iload_n 3, 1) := by decide +kernel
theorem dX10_orders_72 : decode cX10_orders 72 = .ok (.iload_n 2, 1) := by decide +kernel
theorem dX10_orders_73 : decode cX10_orders 73 = .ok (.iastore, 1) := by decide +kernel
theorem dX10_orders_74 : decode cX10_orders 74 = .ok (.iinc 1 1, 3) := by decide +kernel
theorem dX10_orders_77 : decode cX10_orders 77 = .ok (.iinc 2 1, 3) := by decide +kernel
theorem dX10_orders_80 : decode cX10_orders 80 = .ok (.goto (-76), 3) := by decide +kernel
theorem dX10_orders_83 : decode cX10_orders 83 = .ok (.iload_n 1, 1) := by decide +kernel
theorem dX10_orders_84 : decode cX10_orders 84 = .ok (.ireturn, 1) := by decide +kernel
theorem dX10_order_0 : decode cX10_order 0 = .ok (.iload_n 1, 1) := by decide +kernel
theorem dX10_order_1 : decode cX10_order 1 = .ok (.iconst 0, 1) := by decide +kernel
theorem dX10_order_2 : decode cX10_order 2 = .ok (.aload_n 0, 1) := by decide +kernel
theorem dX10_order_3 : decode cX10_order 3 = .ok (.invokevirtual 352, 3) := by decide +kernel
theorem dX10_order_6 : decode cX10_order 6 = .ok (.iconst 1, 1) := by decide +kernel
theorem dX10_order_7 : decode cX10_order 7 = .ok (.isub, 1) := by decide +kernel
theorem dX10_order_8 : decode cX10_order 8 = .ok (.invokestatic 72, 3) := by decide +kernel
theorem dX10_order_11 : decode cX10_order 11 = .ok (.ifCond .eq 12, 3) := by decide +kernel
theorem dX10_order_14 : decode cX10_order 14 = .ok (.aload_n 0, 1) := by decide +kernel
theorem dX10_order_15 : decode cX10_order 15 = .ok (.getfield 57, 3) := by decide +kernel
theorem dX10_order_18 : decode cX10_order 18 = .ok (.iload_n 1, 1) := by decide +kernel
theorem dX10_order_19 : decode cX10_order 19 = .ok (.iaload, 1) := by decide +kernel
theorem dX10_order_20 : decode cX10_order 20 = .ok (.goto 4, 3) := by decide +kernel
theorem dX10_order_23 : decode cX10_order 23 = .ok (.iconst (-1), 1) := by decide +kernel
theorem dX10_order_24 : decode cX10_order 24 = .ok (.ireturn, 1) := by decide +kernel
theorem dX10_ahead_0 : decode cX10_ahead 0 = .ok (.aload_n 0, 1) := by decide +kernel
theorem dX10_ahead_1 : decode cX10_ahead 1 = .ok (.iload_n 1, 1) := by decide +kernel
theorem dX10_ahead_2 : decode cX10_ahead 2 = .ok (.iload_n 2, 1) := by decide +kernel
theorem dX10_ahead_3 : decode cX10_ahead 3 = .ok (.invokevirtual 268, 3) := by decide +kernel
theorem dX10_ahead_6 : decode cX10_ahead 6 = .ok (.ifCond .ne 5, 3) := by decide +kernel
theorem dX10_ahead_9 : decode cX10_ahead 9 = .ok (.iconst (-1), 1) := by decide +kernel
theorem dX10_ahead_10 : decode cX10_ahead 10 = .ok (.ireturn, 1) := by decide +kernel
theorem dX10_ahead_11 : decode cX10_ahead 11 = .ok (.aload_n 0, 1) := by decide +kernel
theorem dX10_ahead_12 : decode cX10_ahead 12 = .ok (.iload_n 1, 1) := by decide +kernel
theorem dX10_ahead_13 : decode cX10_ahead 13 = .ok (.iconst 0, 1) := by decide +kernel
theorem dX10_ahead_14 : decode cX10_ahead 14 = .ok (.iconst 0, 1) := by decide +kernel
theorem dX10_ahead_15 : decode cX10_ahead 15 = .ok (.invokevirtual 246, 3) := by decide +kernel
theorem dX10_ahead_18 : decode cX10_ahead 18 = .ok (.istore_n 3, 1) := by decide +kernel
theorem dX10_ahead_19 : decode cX10_ahead 19 = .ok (.aload_n 0, 1) := by decide +kernel
theorem dX10_ahead_20 : decode cX10_ahead 20 = .ok (.iload_n 2, 1) := by decide +kernel
theorem dX10_ahead_21 : decode cX10_ahead 21 = .ok (.iconst 0, 1) := by decide +kernel
theorem dX10_ahead_22 : decode cX10_ahead 22 = .ok (.iconst 0, 1) := by decide +kernel
theorem dX10_ahead_23 : decode cX10_ahead 23 = .ok (.invokevirtual 246, 3) := by decide +kernel
theorem dX10_ahead_26 : decode cX10_ahead 26 = .ok (.istore 4, 2) := by decide +kernel
theorem dX10_ahead_28 : decode cX10_ahead 28 = .ok (.iload_n 3, 1) := by decide +kernel
theorem dX10_ahead_29 : decode cX10_ahead 29 = .ok (.iload 4, 2) := by decide +kernel
theorem dX10_ahead_31 : decode cX10_ahead 31 = .ok (.if_icmp .ne 7, 3) := by decide +kernel
theorem dX10_ahead_34 : decode cX10_ahead 34 = .ok (.iconst 0, 1) := by decide +kernel
theorem dX10_ahead_35 : decode cX10_ahead 35 = .ok (.goto 48, 3) := by decide +kernel
theorem dX10_ahead_38 : decode cX10_ahead 38 = .ok (.aload_n 0, 1) := by decide +kernel
theorem dX10_ahead_39 : decode cX10_ahead 39 = .ok (.getfield 39, 3) := by decide +kernel
theorem dX10_ahead_42 : decode cX10_ahead 42 = .ok (.iload_n 3, 1) := by decide +kernel
theorem dX10_ahead_43 : decode cX10_ahead 43 = .ok (.iconst 1, 1) := by decide +kernel
theorem dX10_ahead_44 : decode cX10_ahead 44 = .ok (.iadd, 1) := by decide +kernel
theorem dX10_ahead_45 : decode cX10_ahead 45 = .ok (.iaload, 1) := by decide +kernel
theorem dX10_ahead_46 : decode cX10_ahead 46 = .ok (.aload_n 0, 1) := by decide +kernel
theorem dX10_ahead_47 : decode cX10_ahead 47 = .ok (.getfield 39, 3) := by decide +kernel
theorem dX10_ahead_50 : decode cX10_ahead 50 = .ok (.iload 4, 2) := by decide +kernel
theorem dX10_ahead_52 : decode cX10_ahead 52 = .ok (.iaload, 1) := by decide +kernel
theorem dX10_ahead_53 : decode cX10_ahead 53 = .ok (.if_icmp .ge 7, 3) := by decide +kernel
theorem dX10_ahead_56 : decode cX10_ahead 56 = .ok (.iconst 1, 1) := by decide +kernel
theorem dX10_ahead_57 : decode cX10_ahead 57 = .ok (.goto 26, 3) := by decide +kernel
theorem dX10_ahead_60 : decode cX10_ahead 60 = .ok (.aload_n 0, 1) := by decide +kernel
theorem dX10_ahead_61 : decode cX10_ahead 61 = .ok (.getfield 39, 3) := by decide +kernel
theorem dX10_ahead_64 : decode cX10_ahead 64 = .ok (.iload_n 3, 1) := by decide +kernel
theorem dX10_ahead_65 : decode cX10_ahead 65 = .ok (.iaload, 1) := by decide +kernel
theorem dX10_ahead_66 : decode cX10_ahead 66 = .ok (.aload_n 0, 1) := by decide +kernel
theorem dX10_ahead_67 : decode cX10_ahead 67 = .ok (.getfield 39, 3) := by decide +kernel
theorem dX10_ahead_70 : decode cX10_ahead 70 = .ok (.iload 4, 2) := by decide +kernel
theorem dX10_ahead_72 : decode cX10_ahead 72 = .ok (.iconst 1, 1) := by decide +kernel
theorem dX10_ahead_73 : decode cX10_ahead 73 = .ok (.iadd, 1) := by decide +kernel
theorem dX10_ahead_74 : decode cX10_ahead 74 = .ok (.iaload, 1) := by decide +kernel
theorem dX10_ahead_75 : decode cX10_ahead 75 = .ok (.if_icmp .le 7, 3) := by decide +kernel
theorem dX10_ahead_78 : decode cX10_ahead 78 = .ok (.iconst 2, 1) := by decide +kernel
theorem dX10_ahead_79 : decode cX10_ahead 79 = .ok (.goto 4, 3) := by decide +kernel
theorem dX10_ahead_82 : decode cX10_ahead 82 = .ok (.iconst 0, 1) := by decide +kernel
theorem dX10_ahead_83 : decode cX10_ahead 83 = .ok (.ireturn, 1) := by decide +kernel
theorem dX10_told__0 : decode cX10_told_ 0 = .ok (.iconst 0, 1) := by decide +kernel
theorem dX10_told__1 : decode cX10_told_ 1 = .ok (.istore_n 2, 1) := by decide +kernel
theorem dX10_told__2 : decode cX10_told_ 2 = .ok (.iload_n 1, 1) := by decide +kernel
theorem dX10_told__3 : decode cX10_told_ 3 = .ok (.tableswitch 236 0 7 #[45, 52, 57, 64, 93, 98, 103, 174], 45) := by decide +kernel
theorem dX10_told__48 : decode cX10_told_ 48 = .ok (.aload_n 0, 1) := by decide +kernel
theorem dX10_told__49 : decode cX10_told_ 49 = .ok (.getfield 11, 3) := by decide +kernel
theorem dX10_told__52 : decode cX10_told_ 52 = .ok (.iconst 0, 1) := by decide +kernel
theorem dX10_told__53 : decode cX10_told_ 53 = .ok (.iaload, 1) := by decide +kernel
theorem dX10_told__54 : decode cX10_told_ 54 = .ok (.ireturn, 1) := by decide +kernel
theorem dX10_told__55 : decode cX10_told_ 55 = .ok (.aload_n 0, 1) := by decide +kernel
theorem dX10_told__56 : decode cX10_told_ 56 = .ok (.invokevirtual 352, 3) := by decide +kernel
theorem dX10_told__59 : decode cX10_told_ 59 = .ok (.ireturn, 1) := by decide +kernel
theorem dX10_told__60 : decode cX10_told_ 60 = .ok (.aload_n 0, 1) := by decide +kernel
theorem dX10_told__61 : decode cX10_told_ 61 = .ok (.getfield 11, 3) := by decide +kernel
theorem dX10_told__64 : decode cX10_told_ 64 = .ok (.iconst 1, 1) := by decide +kernel
theorem dX10_told__65 : decode cX10_told_ 65 = .ok (.iaload, 1) := by decide +kernel
theorem dX10_told__66 : decode cX10_told_ 66 = .ok (.ireturn, 1) := by decide +kernel
theorem dX10_told__67 : decode cX10_told_ 67 = .ok (.iconst 0, 1) := by decide +kernel
theorem dX10_told__68 : decode cX10_told_ 68 = .ok (.istore_n 3, 1) := by decide +kernel
theorem dX10_told__69 : decode cX10_told_ 69 = .ok (.iload_n 3, 1) := by decide +kernel
theorem dX10_told__70 : decode cX10_told_ 70 = .ok (.aload_n 0, 1) := by decide +kernel
theorem dX10_told__71 : decode cX10_told_ 71 = .ok (.getfield 11, 3) := by decide +kernel
theorem dX10_told__74 : decode cX10_told_ 74 = .ok (.iconst 1, 1) := by decide +kernel
theorem dX10_told__75 : decode cX10_told_ 75 = .ok (.iaload, 1) := by decide +kernel
theorem dX10_told__76 : decode cX10_told_ 76 = .ok (.if_icmp .ge 18, 3) := by decide +kernel
theorem dX10_told__79 : decode cX10_told_ 79 = .ok (.iload_n 2, 1) := by decide +kernel
theorem dX10_told__80 : decode cX10_told_ 80 = .ok (.aload_n 0, 1) := by decide +kernel
theorem dX10_told__81 : decode cX10_told_ 81 = .ok (.iload_n 3, 1) := by decide +kernel
theorem dX10_told__82 : decode cX10_told_ 82 = .ok (.iconst 5, 1) := by decide +kernel
theorem dX10_told__83 : decode cX10_told_ 83 = .ok (.invokevirtual 76, 3) := by decide +kernel
theorem dX10_told__86 : decode cX10_told_ 86 = .ok (.iadd, 1) := by decide +kernel
theorem dX10_told__87 : decode cX10_told_ 87 = .ok (.istore_n 2, 1) := by decide +kernel
theorem dX10_told__88 : decode cX10_told_ 88 = .ok (.iinc 3 1, 3) := by decide +kernel
theorem dX10_told__91 : decode cX10_told_ 91 = .ok (.goto (-22), 3) := by decide +kernel
theorem dX10_told__94 : decode cX10_told_ 94 = .ok (.iload_n 2, 1) := by decide +kernel
theorem dX10_told__95 : decode cX10_told_ 95 = .ok (.ireturn, 1) := by decide +kernel
theorem dX10_told__96 : decode cX10_told_ 96 = .ok (.aload_n 0, 1) := by decide +kernel
theorem dX10_told__97 : decode cX10_told_ 97 = .ok (.getfield 160, 3) := by decide +kernel
theorem dX10_told__100 : decode cX10_told_ 100 = .ok (.ireturn, 1) := by decide +kernel
theorem dX10_told__101 : decode cX10_told_ 101 = .ok (.aload_n 0, 1) := by decide +kernel
theorem dX10_told__102 : decode cX10_told_ 102 = .ok (.getfield 163, 3) := by decide +kernel
theorem dX10_told__105 : decode cX10_told_ 105 = .ok (.ireturn, 1) := by decide +kernel
theorem dX10_told__106 : decode cX10_told_ 106 = .ok (.iconst 0, 1) := by decide +kernel
theorem dX10_told__107 : decode cX10_told_ 107 = .ok (.istore_n 3, 1) := by decide +kernel
theorem dX10_told__108 : decode cX10_told_ 108 = .ok (.iload_n 3, 1) := by decide +kernel
theorem dX10_told__109 : decode cX10_told_ 109 = .ok (.aload_n 0, 1) := by decide +kernel
theorem dX10_told__110 : decode cX10_told_ 110 = .ok (.getfield 11, 3) := by decide +kernel
theorem dX10_told__113 : decode cX10_told_ 113 = .ok (.iconst 0, 1) := by decide +kernel
theorem dX10_told__114 : decode cX10_told_ 114 = .ok (.iaload, 1) := by decide +kernel
theorem dX10_told__115 : decode cX10_told_ 115 = .ok (.if_icmp .ge 60, 3) := by decide +kernel
theorem dX10_told__118 : decode cX10_told_ 118 = .ok (.iconst 1, 1) := by decide +kernel
theorem dX10_told__119 : decode cX10_told_ 119 = .ok (.istore 4, 2) := by decide +kernel
theorem dX10_told__121 : decode cX10_told_ 121 = .ok (.iconst 0, 1) := by decide +kernel
theorem dX10_told__122 : decode cX10_told_ 122 = .ok (.istore 5, 2) := by decide +kernel
theorem dX10_told__124 : decode cX10_told_ 124 = .ok (.iload 5, 2) := by decide +kernel
theorem dX10_told__126 : decode cX10_told_ 126 = .ok (.iload_n 3, 1) := by decide +kernel
theorem dX10_told__127 : decode cX10_told_ 127 = .ok (.if_icmp .ge 29, 3) := by decide +kernel
theorem dX10_told__130 : decode cX10_told_ 130 = .ok (.iload 4, 2) := by decide +kernel
theorem dX10_told__132 : decode cX10_told_ 132 = .ok (.aload_n 0, 1) := by decide +kernel
theorem dX10_told__133 : decode cX10_told_ 133 = .ok (.iload 5, 2) := by decide +kernel
theorem dX10_told__135 : decode cX10_told_ 135 = .ok (.iload_n 3, 1) := by decide +kernel
theorem dX10_told__136 : decode cX10_told_ 136 = .ok (.invokevirtual 225, 3) := by decide +kernel
theorem dX10_told__139 : decode cX10_told_ 139 = .ok (.ifCond .eq 7, 3) := by decide +kernel
theorem dX10_told__142 : decode cX10_told_ 142 = .ok (.iconst 1, 1) := by decide +kernel
theorem dX10_told__143 : decode cX10_told_ 143 = .ok (.goto 4, 3) := by decide +kernel
theorem dX10_told__146 : decode cX10_told_ 146 = .ok (.iconst 0, 1) := by decide +kernel
theorem dX10_told__147 : decode cX10_told_ 147 = .ok (.iand, 1) := by decide +kernel
theorem dX10_told__148 : decode cX10_told_ 148 = .ok (.istore 4, 2) := by decide +kernel
theorem dX10_told__150 : decode cX10_told_ 150 = .ok (.iinc 5 1, 3) := by decide +kernel
theorem dX10_told__153 : decode cX10_told_ 153 = .ok (.goto (-29), 3) := by decide +kernel
theorem dX10_told__156 : decode cX10_told_ 156 = .ok (.iload_n 2, 1) := by decide +kernel
theorem dX10_told__157 : decode cX10_told_ 157 = .ok (.iload 4, 2) := by decide +kernel
theorem dX10_told__159 : decode cX10_told_ 159 = .ok (.ifCond .eq 7, 3) := by decide +kernel
theorem dX10_told__162 : decode cX10_told_ 162 = .ok (.iconst 1, 1) := by decide +kernel
theorem dX10_told__163 : decode cX10_told_ 163 = .ok (.goto 4, 3) := by decide +kernel
theorem dX10_told__166 : decode cX10_told_ 166 = .ok (.iconst 0, 1) := by decide +kernel
theorem dX10_told__167 : decode cX10_told_ 167 = .ok (.iadd, 1) := by decide +kernel
theorem dX10_told__168 : decode cX10_told_ 168 = .ok (.istore_n 2, 1) := by decide +kernel
theorem dX10_told__169 : decode cX10_told_ 169 = .ok (.iinc 3 1, 3) := by decide +kernel
theorem dX10_told__172 : decode cX10_told_ 172 = .ok (.goto (-64), 3) := by decide +kernel
theorem dX10_told__175 : decode cX10_told_ 175 = .ok (.iload_n 2, 1) := by decide +kernel
theorem dX10_told__176 : decode cX10_told_ 176 = .ok (.ireturn, 1) := by decide +kernel
theorem dX10_told__177 : decode cX10_told_ 177 = .ok (.aload_n 0, 1) := by decide +kernel
theorem dX10_told__178 : decode cX10_told_ 178 = .ok (.getfield 11, 3) := by decide +kernel
theorem dX10_told__181 : decode cX10_told_ 181 = .ok (.iconst 0, 1) := by decide +kernel
theorem dX10_told__182 : decode cX10_told_ 182 = .ok (.iaload, 1) := by decide +kernel
theorem dX10_told__183 : decode cX10_told_ 183 = .ok (.ifCond .eq 10, 3) := by decide +kernel
theorem dX10_told__186 : decode cX10_told_ 186 = .ok (.aload_n 0, 1) := by decide +kernel
theorem dX10_told__187 : decode cX10_told_ 187 = .ok (.invokevirtual 240, 3) := by decide +kernel
theorem dX10_told__190 : decode cX10_told_ 190 = .ok (.ifCond .ne 6, 3) := by decide +kernel
theorem dX10_told__193 : decode cX10_told_ 193 = .ok (.bipush (-5), 2) := by decide +kernel
theorem dX10_told__195 : decode cX10_told_ 195 = .ok (.ireturn, 1) := by decide +kernel
theorem dX10_told__196 : decode cX10_told_ 196 = .ok (.iconst 0, 1) := by decide +kernel
theorem dX10_told__197 : decode cX10_told_ 197 = .ok (.istore_n 3, 1) := by decide +kernel
theorem dX10_told__198 : decode cX10_told_ 198 = .ok (.iload_n 3, 1) := by decide +kernel
theorem dX10_told__199 : decode cX10_told_ 199 = .ok (.aload_n 0, 1) := by decide +kernel
theorem dX10_told__200 : decode cX10_told_ 200 = .ok (.getfield 11, 3) := by decide +kernel
theorem dX10_told__203 : decode cX10_told_ 203 = .ok (.iconst 0, 1) := by decide +kernel
theorem dX10_told__204 : decode cX10_told_ 204 = .ok (.iaload, 1) := by decide +kernel
theorem dX10_told__205 : decode cX10_told_ 205 = .ok (.if_icmp .ge 32, 3) := by decide +kernel
theorem dX10_told__208 : decode cX10_told_ 208 = .ok (.aload_n 0, 1) := by decide +kernel
theorem dX10_told__209 : decode cX10_told_ 209 = .ok (.iload_n 3, 1) := by decide +kernel
theorem dX10_told__210 : decode cX10_told_ 210 = .ok (.invokevirtual 103, 3) := by decide +kernel
theorem dX10_told__213 : decode cX10_told_ 213 = .ok (.ifCond .eq 16, 3) := by decide +kernel
theorem dX10_told__216 : decode cX10_told_ 216 = .ok (.iload_n 2, 1) := by decide +kernel
theorem dX10_told__217 : decode cX10_told_ 217 = .ok (.aload_n 0, 1) := by decide +kernel
theorem dX10_told__218 : decode cX10_told_ 218 = .ok (.getfield 60, 3) := by decide +kernel
theorem dX10_told__221 : decode cX10_told_ 221 = .ok (.iload_n 3, 1) := by decide +kernel
theorem dX10_told__222 : decode cX10_told_ 222 = .ok (.iaload, 1) := by decide +kernel
theorem dX10_told__223 : decode cX10_told_ 223 = .ok (.invokestatic 228, 3) := by decide +kernel
theorem dX10_told__226 : decode cX10_told_ 226 = .ok (.goto 4, 3) := by decide +kernel
theorem dX10_told__229 : decode cX10_told_ 229 = .ok (.iload_n 2, 1) := by decide +kernel
theorem dX10_told__230 : decode cX10_told_ 230 = .ok (.istore_n 2, 1) := by decide +kernel
theorem dX10_told__231 : decode cX10_told_ 231 = .ok (.iinc 3 1, 3) := by decide +kernel
theorem dX10_told__234 : decode cX10_told_ 234 = .ok (.goto (-36), 3) := by decide +kernel
theorem dX10_told__237 : decode cX10_told_ 237 = .ok (.iload_n 2, 1) := by decide +kernel
theorem dX10_told__238 : decode cX10_told_ 238 = .ok (.ireturn, 1) := by decide +kernel
theorem dX10_told__239 : decode cX10_told_ 239 = .ok (.iconst (-1), 1) := by decide +kernel
theorem dX10_told__240 : decode cX10_told_ 240 = .ok (.ireturn, 1) := by decide +kernel
theorem dX10_isList_0 : decode cX10_isList 0 = .ok (.iload_n 0, 1) := by decide +kernel
theorem dX10_isList_1 : decode cX10_isList 1 = .ok (.iconst 0, 1) := by decide +kernel
theorem dX10_isList_2 : decode cX10_isList 2 = .ok (.iconst 3, 1) := by decide +kernel
theorem dX10_isList_3 : decode cX10_isList 3 = .ok (.invokestatic 72, 3) := by decide +kernel
theorem dX10_isList_6 : decode cX10_isList 6 = .ok (.ireturn, 1) := by decide +kernel
theorem dX10_list_0 : decode cX10_list 0 = .ok (.iload_n 1, 1) := by decide +kernel
theorem dX10_list_1 : decode cX10_list 1 = .ok (.invokestatic 355, 3) := by decide +kernel
theorem dX10_list_4 : decode cX10_list 4 = .ok (.ifCond .ne 5, 3) := by decide +kernel
theorem dX10_list_7 : decode cX10_list 7 = .ok (.iconst (-1), 1) := by decide +kernel
theorem dX10_list_8 : decode cX10_list 8 = .ok (.ireturn, 1) := by decide +kernel
theorem dX10_list_9 : decode cX10_list 9 = .ok (.iload_n 2, 1) := by decide +kernel
theorem dX10_list_10 : decode cX10_list 10 = .ok (.bipush 40, 2) := by decide +kernel
theorem dX10_list_12 : decode cX10_list 12 = .ok (.if_icmp .le 6, 3) := by decide +kernel
theorem dX10_list_15 : decode cX10_list 15 = .ok (.bipush (-2), 2) := by decide +kernel
theorem dX10_list_17 : decode cX10_list 17 = .ok (.ireturn, 1) := by decide +kernel
theorem dX10_list_18 : decode cX10_list 18 = .ok (.iload_n 2, 1) := by decide +kernel
theorem dX10_list_19 : decode cX10_list 19 = .ok (.ifCond .ge 6, 3) := by decide +kernel
theorem dX10_list_22 : decode cX10_list 22 = .ok (.bipush (-14), 2) := by decide +kernel
theorem dX10_list_24 : decode cX10_list 24 = .ok (.ireturn, 1) := by decide +kernel
theorem dX10_list_25 : decode cX10_list 25 = .ok (.aload_n 0, 1) := by decide +kernel
theorem dX10_list_26 : decode cX10_list 26 = .ok (.getfield 63, 3) := by decide +kernel
theorem dX10_list_29 : decode cX10_list 29 = .ok (.iload_n 1, 1) := by decide +kernel
theorem dX10_list_30 : decode cX10_list 30 = .ok (.iload_n 2, 1) := by decide +kernel
theorem dX10_list_31 : decode cX10_list 31 = .ok (.iastore, 1) := by decide +kernel
theorem dX10_list_32 : decode cX10_list 32 = .ok (.iconst 0, 1) := by decide +kernel
theorem dX10_list_33 : decode cX10_list 33 = .ok (.istore_n 3, 1) := by decide +kernel
theorem dX10_list_34 : decode cX10_list 34 = .ok (.iload_n 3, 1) := by decide +kernel
theorem dX10_list_35 : decode cX10_list 35 = .ok (.iload_n 2, 1) := by decide +kernel
theorem dX10_list_36 : decode cX10_list 36 = .ok (.if_icmp .ge 21, 3) := by decide +kernel
theorem dX10_list_39 : decode cX10_list 39 = .ok (.aload_n 0, 1) := by decide +kernel
theorem dX10_list_40 : decode cX10_list 40 = .ok (.getfield 66, 3) := by decide +kernel
theorem dX10_list_43 : decode cX10_list 43 = .ok (.bipush 40, 2) := by decide +kernel
theorem dX10_list_45 : decode cX10_list 45 = .ok (.iload_n 1, 1) := by decide +kernel
theorem dX10_list_46 : decode cX10_list 46 = .ok (.imul, 1) := by decide +kernel
theorem dX10_list_47 : decode cX10_list 47 = .ok (.iload_n 3, 1) := by decide +kernel
theorem dX10_list_48 : decode cX10_list 48 = .ok (.iadd, 1) := by decide +kernel
theorem dX10_list_49 : decode cX10_list 49 = .ok (.iconst 0, 1) := by decide +kernel
theorem dX10_list_50 : decode cX10_list 50 = .ok (.iastore, 1) := by decide +kernel
theorem dX10_list_51 : decode cX10_list 51 = .ok (.iinc 3 1, 3) := by decide +kernel
theorem dX10_list_54 : decode cX10_list 54 = .ok (.goto (-20), 3) := by decide +kernel
theorem dX10_list_57 : decode cX10_list 57 = .ok (.iconst 1, 1) := by decide +kernel
theorem dX10_list_58 : decode cX10_list 58 = .ok (.ireturn, 1) := by decide +kernel
theorem dX10_set_0 : decode cX10_set 0 = .ok (.iload_n 1, 1) := by decide +kernel
theorem dX10_set_1 : decode cX10_set 1 = .ok (.invokestatic 355, 3) := by decide +kernel
theorem dX10_set_4 : decode cX10_set 4 = .ok (.ifCond .ne 5, 3) := by decide +kernel
theorem dX10_set_7 : decode cX10_set 7 = .ok (.iconst (-1), 1) := by decide +kernel
theorem dX10_set_8 : decode cX10_set 8 = .ok (.ireturn, 1) := by decide +kernel
theorem dX10_set_9 : decode cX10_set 9 = .ok (.aload_n 0, 1) := by decide +kernel
theorem dX10_set_10 : decode cX10_set 10 = .ok (.getfield 63, 3) := by decide +kernel
theorem dX10_set_13 : decode cX10_set 13 = .ok (.iload_n 1, 1) := by decide +kernel
theorem dX10_set_14 : decode cX10_set 14 = .ok (.iaload, 1) := by decide +kernel
theorem dX10_set_15 : decode cX10_set 15 = .ok (.ifCond .ge 6, 3) := by decide +kernel
theorem dX10_set_18 : decode cX10_set 18 = .ok (.bipush (-11), 2) := by decide +kernel
theorem dX10_set_20 : decode cX10_set 20 = .ok (.ireturn, 1) := by decide +kernel
theorem dX10_set_21 : decode cX10_set 21 = .ok (.iload_n 2, 1) := by decide +kernel
theorem dX10_set_22 : decode cX10_set 22 = .ok (.iconst 0, 1) := by decide +kernel
theorem dX10_set_23 : decode cX10_set 23 = .ok (.aload_n 0, 1) := by decide +kernel
theorem dX10_set_24 : decode cX10_set 24 = .ok (.getfield 63, 3) := by decide +kernel
theorem dX10_set_27 : decode cX10_set 27 = .ok (.iload_n 1, 1) := by decide +kernel
theorem dX10_set_28 : decode cX10_set 28 = .ok (.iaload, 1) := by decide +kernel
theorem dX10_set_29 : decode cX10_set 29 = .ok (.iconst 1, 1) := by decide +kernel
theorem dX10_set_30 : decode cX10_set 30 = .ok (.isub, 1) := by decide +kernel
theorem dX10_set_31 : decode cX10_set 31 = .ok (.invokestatic 72, 3) := by decide +kernel
theorem dX10_set_34 : decode cX10_set 34 = .ok (.ifCond .ne 6, 3) := by decide +kernel
theorem dX10_set_37 : decode cX10_set 37 = .ok (.bipush (-13), 2) := by decide +kernel
theorem dX10_set_39 : decode cX10_set 39 = .ok (.ireturn, 1) := by decide +kernel
theorem dX10_set_40 : decode cX10_set 40 = .ok (.aload_n 0, 1) := by decide +kernel
theorem dX10_set_41 : decode cX10_set 41 = .ok (.getfield 66, 3) := by decide +kernel
theorem dX10_set_44 : decode cX10_set 44 = .ok (.bipush 40, 2) := by decide +kernel
theorem dX10_set_46 : decode cX10_set 46 = .ok (.iload_n 1, 1) := by decide +kernel
theorem dX10_set_47 : decode cX10_set 47 = .ok (.imul, 1) := by decide +kernel
theorem dX10_set_48 : decode cX10_set 48 = .ok (.iload_n 2, 1) := by decide +kernel
theorem dX10_set_49 : decode cX10_set 49 = .ok (.iadd, 1) := by decide +kernel
theorem dX10_set_50 : decode cX10_set 50 = .ok (.iload_n 3, 1) := by decide +kernel
theorem dX10_set_51 : decode cX10_set 51 = .ok (.iastore, 1) := by decide +kernel
theorem dX10_set_52 : decode cX10_set 52 = .ok (.iconst 1, 1) := by decide +kernel
theorem dX10_set_53 : decode cX10_set 53 = .ok (.ireturn, 1) := by decide +kernel
theorem dX10_get_0 : decode cX10_get 0 = .ok (.iload_n 1, 1) := by decide +kernel
theorem dX10_get_1 : decode cX10_get 1 = .ok (.invokestatic 355, 3) := by decide +kernel
theorem dX10_get_4 : decode cX10_get 4 = .ok (.ifCond .eq 34, 3) := by decide +kernel
theorem dX10_get_7 : decode cX10_get 7 = .ok (.iload_n 2, 1) := by decide +kernel
theorem dX10_get_8 : decode cX10_get 8 = .ok (.iconst 0, 1) := by decide +kernel
theorem dX10_get_9 : decode cX10_get 9 = .ok (.aload_n 0, 1) := by decide +kernel
theorem dX10_get_10 : decode cX10_get 10 = .ok (.getfield 63, 3) := by decide +kernel
theorem dX10_get_13 : decode cX10_get 13 = .ok (.iload_n 1, 1) := by decide +kernel
theorem dX10_get_14 : decode cX10_get 14 = .ok (.iaload, 1) := by decide +kernel
theorem dX10_get_15 : decode cX10_get 15 = .ok (.iconst 1, 1) := by decide +kernel
theorem dX10_get_16 : decode cX10_get 16 = .ok (.isub, 1) := by decide +kernel
theorem dX10_get_17 : decode cX10_get 17 = .ok (.invokestatic 72, 3) := by decide +kernel
theorem dX10_get_20 : decode cX10_get 20 = .ok (.ifCond .eq 18, 3) := by decide +kernel
theorem dX10_get_23 : decode cX10_get 23 = .ok (.aload_n 0, 1) := by decide +kernel
theorem dX10_get_24 : decode cX10_get 24 = .ok (.getfield 66, 3) := by decide +kernel
theorem dX10_get_27 : decode cX10_get 27 = .ok (.bipush 40, 2) := by decide +kernel
theorem dX10_get_29 : decode cX10_get 29 = .ok (.iload_n 1, 1) := by decide +kernel
theorem dX10_get_30 : decode cX10_get 30 = .ok (.imul, 1) := by decide +kernel
theorem dX10_get_31 : decode cX10_get 31 = .ok (.iload_n 2, 1) := by decide +kernel
theorem dX10_get_32 : decode cX10_get 32 = .ok (.iadd, 1) := by decide +kernel
theorem dX10_get_33 : decode cX10_get 33 = .ok (.iaload, 1) := by decide +kernel
theorem dX10_get_34 : decode cX10_get 34 = .ok (.i2l, 1) := by decide +kernel
theorem dX10_get_35 : decode cX10_get 35 = .ok (.goto 6, 3) := by decide +kernel
theorem dX10_get_38 : decode cX10_get 38 = .ok (.ldc2_w 347, 3) := by decide +kernel
theorem dX10_get_41 : decode cX10_get 41 = .ok (.lreturn, 1) := by decide +kernel
theorem dX10_lay_0 : decode cX10_lay 0 = .ok (.iload_n 1, 1) := by decide +kernel
theorem dX10_lay_1 : decode cX10_lay 1 = .ok (.invokestatic 355, 3) := by decide +kernel
theorem dX10_lay_4 : decode cX10_lay 4 = .ok (.ifCond .ne 5, 3) := by decide +kernel
theorem dX10_lay_7 : decode cX10_lay 7 = .ok (.iconst (-1), 1) := by decide +kernel
theorem dX10_lay_8 : decode cX10_lay 8 = .ok (.ireturn, 1) := by decide +kernel
theorem dX10_lay_9 : decode cX10_lay 9 = .ok (.aload_n 0, 1) := by decide +kernel
theorem dX10_lay_10 : decode cX10_lay 10 = .ok (.getfield 63, 3) := by decide +kernel
theorem dX10_lay_13 : decode cX10_lay 13 = .ok (.iload_n 1, 1) := by decide +kernel
theorem dX10_lay_14 : decode cX10_lay 14 = .ok (.iaload, 1) := by decide +kernel
theorem dX10_lay_15 : decode cX10_lay 15 = .ok (.ifCond .ge 6, 3) := by decide +kernel
theorem dX10_lay_18 : decode cX10_lay 18 = .ok (.bipush (-11), 2) := by decide +kernel
theorem dX10_lay_20 : decode cX10_lay 20 = .ok (.ireturn, 1) := by decide +kernel
theorem dX10_lay_21 : decode cX10_lay 21 = .ok (.aload_n 0, 1) := by decide +kernel
theorem dX10_lay_22 : decode cX10_lay 22 = .ok (.invokevirtual 352, 3) := by decide +kernel
theorem dX10_lay_25 : decode cX10_lay 25 = .ok (.istore_n 3, 1) := by decide +kernel
theorem dX10_lay_26 : decode cX10_lay 26 = .ok (.iconst 0, 1) := by decide +kernel
theorem dX10_lay_27 : decode cX10_lay 27 = .ok (.istore 4, 2) := by decide +kernel
theorem dX10_lay_29 : decode cX10_lay 29 = .ok (.iload 4, 2) := by decide +kernel
theorem dX10_lay_31 : decode cX10_lay 31 = .ok (.iload_n 3, 1) := by decide +kernel
theorem dX10_lay_32 : decode cX10_lay 32 = .ok (.if_icmp .ge 49, 3) := by decide +kernel
theorem dX10_lay_35 : decode cX10_lay 35 = .ok (.iload_n 2, 1) := by decide +kernel
theorem dX10_lay_36 : decode cX10_lay 36 = .ok (.iconst 0, 1) := by decide +kernel
theorem dX10_lay_37 : decode cX10_lay 37 = .ok (.aload_n 0, 1) := by decide +kernel
theorem dX10_lay_38 : decode cX10_lay 38 = .ok (.getfield 63, 3) := by decide +kernel
theorem dX10_lay_41 : decode cX10_lay 41 = .ok (.iload_n 1, 1) := by decide +kernel
theorem dX10_lay_42 : decode cX10_lay 42 = .ok (.iaload, 1) := by decide +kernel
theorem dX10_lay_43 : decode cX10_lay 43 = .ok (.iconst 1, 1) := by decide +kernel
theorem dX10_lay_44 : decode cX10_lay 44 = .ok (.isub, 1) := by decide +kernel
theorem dX10_lay_45 : decode cX10_lay 45 = .ok (.iload 4, 2) := by decide +kernel
theorem dX10_lay_47 : decode cX10_lay 47 = .ok (.isub, 1) := by decide +kernel
theorem dX10_lay_48 : decode cX10_lay 48 = .ok (.invokestatic 72, 3) := by decide +kernel
theorem dX10_lay_51 : decode cX10_lay 51 = .ok (.ifCond .eq 30, 3) := by decide +kernel
theorem dX10_lay_54 : decode cX10_lay 54 = .ok (.aload_n 0, 1) := by decide +kernel
theorem dX10_lay_55 : decode cX10_lay 55 = .ok (.getfield 66, 3) := by decide +kernel
theorem dX10_lay_58 : decode cX10_lay 58 = .ok (.bipush 40, 2) := by decide +kernel
theorem dX10_lay_60 : decode cX10_lay 60 = .ok (.iload_n 1, 1) := by decide +kernel
theorem dX10_lay_61 : decode cX10_lay 61 = .ok (.imul, 1) := by decide +kernel
theorem dX10_lay_62 : decode cX10_lay 62 = .ok (.iload_n 2, 1) := by decide +kernel
theorem dX10_lay_63 : decode cX10_lay 63 = .ok (.iadd, 1) := by decide +kernel
theorem dX10_lay_64 : decode cX10_lay 64 = .ok (.iload 4, 2) := by decide +kernel
theorem dX10_lay_66 : decode cX10_lay 66 = .ok (.iadd, 1) := by decide +kernel
theorem dX10_lay_67 : decode cX10_lay 67 = .ok (.aload_n 0, 1) := by decide +kernel
theorem dX10_lay_68 : decode cX10_lay 68 = .ok (.getfield 57, 3) := by decide +kernel
theorem dX10_lay_71 : decode cX10_lay 71 = .ok (.iload 4, 2) := by decide +kernel
theorem dX10_lay_73 : decode cX10_lay 73 = .ok (.iaload, 1) := by decide +kernel
theorem dX10_lay_74 : decode cX10_lay 74 = .ok (.iastore, 1) := by decide +kernel
theorem dX10_lay_75 : decode cX10_lay 75 = .ok (.iinc 4 1, 3) := by decide +kernel
theorem dX10_lay_78 : decode cX10_lay 78 = .ok (.goto (-49), 3) := by decide +kernel
theorem dX10_lay_81 : decode cX10_lay 81 = .ok (.iload 4, 2) := by decide +kernel
theorem dX10_lay_83 : decode cX10_lay 83 = .ok (.iload_n 3, 1) := by decide +kernel
theorem dX10_lay_84 : decode cX10_lay 84 = .ok (.if_icmp .ge 8, 3) := by decide +kernel
theorem dX10_lay_87 : decode cX10_lay 87 = .ok (.bipush (-13), 2) := by decide +kernel
theorem dX10_lay_89 : decode cX10_lay 89 = .ok (.goto 5, 3) := by decide +kernel
theorem dX10_lay_92 : decode cX10_lay 92 = .ok (.iload 4, 2) := by decide +kernel
theorem dX10_lay_94 : decode cX10_lay 94 = .ok (.ireturn, 1) := by decide +kernel
theorem dX10_judge_0 : decode cX10_judge 0 = .ok (.iload_n 1, 1) := by decide +kernel
theorem dX10_judge_1 : decode cX10_judge 1 = .ok (.invokestatic 355, 3) := by decide +kernel
theorem dX10_judge_4 : decode cX10_judge 4 = .ok (.ifCond .ne 5, 3) := by decide +kernel
theorem dX10_judge_7 : decode cX10_judge 7 = .ok (.iconst (-1), 1) := by decide +kernel
theorem dX10_judge_8 : decode cX10_judge 8 = .ok (.ireturn, 1) := by decide +kernel
theorem dX10_judge_9 : decode cX10_judge 9 = .ok (.aload_n 0, 1) := by decide +kernel
theorem dX10_judge_10 : decode cX10_judge 10 = .ok (.getfield 63, 3) := by decide +kernel
theorem dX10_judge_13 : decode cX10_judge 13 = .ok (.iload_n 1, 1) := by decide +kernel
theorem dX10_judge_14 : decode cX10_judge 14 = .ok (.iaload, 1) := by decide +kernel
theorem dX10_judge_15 : decode cX10_judge 15 = .ok (.ifCond .ge 6, 3) := by decide +kernel
theorem dX10_judge_18 : decode cX10_judge 18 = .ok (.bipush (-11), 2) := by decide +kernel
theorem dX10_judge_20 : decode cX10_judge 20 = .ok (.ireturn, 1) := by decide +kernel
theorem dX10_judge_21 : decode cX10_judge 21 = .ok (.aload_n 0, 1) := by decide +kernel
theorem dX10_judge_22 : decode cX10_judge 22 = .ok (.invokevirtual 352, 3) := by decide +kernel
theorem dX10_judge_25 : decode cX10_judge 25 = .ok (.istore_n 3, 1) := by decide +kernel
theorem dX10_judge_26 : decode cX10_judge 26 = .ok (.iconst 0, 1) := by decide +kernel
theorem dX10_judge_27 : decode cX10_judge 27 = .ok (.istore 4, 2) := by decide +kernel
theorem dX10_judge_29 : decode cX10_judge 29 = .ok (.iload 4, 2) := by decide +kernel
theorem dX10_judge_31 : decode cX10_judge 31 = .ok (.iload_n 3, 1) := by decide +kernel
theorem dX10_judge_32 : decode cX10_judge 32 = .ok (.if_icmp .ge 61, 3) := by decide +kernel
theorem dX10_judge_35 : decode cX10_judge 35 = .ok (.iload_n 2, 1) := by decide +kernel
theorem dX10_judge_36 : decode cX10_judge 36 = .ok (.iconst 0, 1) := by decide +kernel
theorem dX10_judge_37 : decode cX10_judge 37 = .ok (.aload_n 0, 1) := by decide +kernel
theorem dX10_judge_38 : decode cX10_judge 38 = .ok (.getfield 63, 3) := by decide +kernel
theorem dX10_judge_41 : decode cX10_judge 41 = .ok (.iload_n 1, 1) := by decide +kernel
theorem dX10_judge_42 : decode cX10_judge 42 = .ok (.iaload, 1) := by decide +kernel
theorem dX10_judge_43 : decode cX10_judge 43 = .ok (.iconst 1, 1) := by decide +kernel
theorem dX10_judge_44 : decode cX10_judge 44 = .ok (.isub, 1) := by decide +kernel
theorem dX10_judge_45 : decode cX10_judge 45 = .ok (.iload 4, 2) := by decide +kernel
theorem dX10_judge_47 : decode cX10_judge 47 = .ok (.isub, 1) := by decide +kernel
theorem dX10_judge_48 : decode cX10_judge 48 = .ok (.invokestatic 72, 3) := by decide +kernel
theorem dX10_judge_51 : decode cX10_judge 51 = .ok (.ifCond .ne 9, 3) := by decide +kernel
theorem dX10_judge_54 : decode cX10_judge 54 = .ok (.bipush 100, 2) := by decide +kernel
theorem dX10_judge_56 : decode cX10_judge 56 = .ok (.iload 4, 2) := by decide +kernel
theorem dX10_judge_58 : decode cX10_judge 58 = .ok (.iadd, 1) := by decide +kernel
theorem dX10_judge_59 : decode cX10_judge 59 = .ok (.ireturn, 1) := by decide +kernel
theorem dX10_judge_60 : decode cX10_judge 60 = .ok (.aload_n 0, 1) := by decide +kernel
theorem dX10_judge_61 : decode cX10_judge 61 = .ok (.getfield 66, 3) := by decide +kernel
theorem dX10_judge_64 : decode cX10_judge 64 = .ok (.bipush 40, 2) := by decide +kernel
theorem dX10_judge_66 : decode cX10_judge 66 = .ok (.iload_n 1, 1) := by decide +kernel
theorem dX10_judge_67 : decode cX10_judge 67 = .ok (.imul, 1) := by decide +kernel
theorem dX10_judge_68 : decode cX10_judge 68 = .ok (.iload_n 2, 1) := by decide +kernel
theorem dX10_judge_69 : decode cX10_judge 69 = .ok (.iadd, 1) := by decide +kernel
theorem dX10_judge_70 : decode cX10_judge 70 = .ok (.iload 4, 2) := by decide +kernel
theorem dX10_judge_72 : decode cX10_judge 72 = .ok (.iadd, 1) := by decide +kernel
theorem dX10_judge_73 : decode cX10_judge 73 = .ok (.iaload, 1) := by decide +kernel
theorem dX10_judge_74 : decode cX10_judge 74 = .ok (.aload_n 0, 1) := by decide +kernel
theorem dX10_judge_75 : decode cX10_judge 75 = .ok (.getfield 57, 3) := by decide +kernel
theorem dX10_judge_78 : decode cX10_judge 78 = .ok (.iload 4, 2) := by decide +kernel
theorem dX10_judge_80 : decode cX10_judge 80 = .ok (.iaload, 1) := by decide +kernel
theorem dX10_judge_81 : decode cX10_judge 81 = .ok (.if_icmp .eq 6, 3) := by decide +kernel
theorem dX10_judge_84 : decode cX10_judge 84 = .ok (.iload 4, 2) := by decide +kernel
theorem dX10_judge_86 : decode cX10_judge 86 = .ok (.ireturn, 1) := by decide +kernel
theorem dX10_judge_87 : decode cX10_judge 87 = .ok (.iinc 4 1, 3) := by decide +kernel
theorem dX10_judge_90 : decode cX10_judge 90 = .ok (.goto (-61), 3) := by decide +kernel
theorem dX10_judge_93 : decode cX10_judge 93 = .ok (.bipush (-5), 2) := by decide +kernel
theorem dX10_judge_95 : decode cX10_judge 95 = .ok (.ireturn, 1) := by decide +kernel
theorem dX10_copies_0 : decode cX10_copies 0 = .ok (.iconst 0, 1) := by decide +kernel
theorem dX10_copies_1 : decode cX10_copies 1 = .ok (.istore_n 2, 1) := by decide +kernel
theorem dX10_copies_2 : decode cX10_copies 2 = .ok (.iload_n 2, 1) := by decide +kernel
theorem dX10_copies_3 : decode cX10_copies 3 = .ok (.aload_n 0, 1) := by decide +kernel
theorem dX10_copies_4 : decode cX10_copies 4 = .ok (.arraylength, 1) := by decide +kernel
theorem dX10_copies_5 : decode cX10_copies 5 = .ok (.if_icmp .ge 15, 3) := by decide +kernel
theorem dX10_copies_8 : decode cX10_copies 8 = .ok (.aload_n 1, 1) := by decide +kernel
theorem dX10_copies_9 : decode cX10_copies 9 = .ok (.iload_n 2, 1) := by decide +kernel
theorem dX10_copies_10 : decode cX10_copies 10 = .ok (.aload_n 0, 1) := by decide +kernel
theorem dX10_copies_11 : decode cX10_copies 11 = .ok (.iload_n 2, 1) := by decide +kernel
theorem dX10_copies_12 : decode cX10_copies 12 = .ok (.iaload, 1) := by decide +kernel
theorem dX10_copies_13 : decode cX10_copies 13 = .ok (.iastore, 1) := by decide +kernel
theorem dX10_copies_14 : decode cX10_copies 14 = .ok (.iinc 2 1, 3) := by decide +kernel
theorem dX10_copies_17 : decode cX10_copies 17 = .ok (.goto (-15), 3) := by decide +kernel
theorem dX10_copies_20 : decode cX10_copies 20 = .ok (.return_, 1) := by decide +kernel
theorem dX10_image_0 : decode cX10_image 0 = .ok (.aload_n 0, 1) := by decide +kernel
theorem dX10_image_1 : decode cX10_image 1 = .ok (.getfield 11, 3) := by decide +kernel
theorem dX10_image_4 : decode cX10_image 4 = .ok (.aload_n 0, 1) := by decide +kernel
theorem dX10_image_5 : decode cX10_image 5 = .ok (.getfield 15, 3) := by decide +kernel
theorem dX10_image_8 : decode cX10_image 8 = .ok (.invokestatic 358, 3) := by decide +kernel
theorem dX10_image_11 : decode cX10_image 11 = .ok (.aload_n 0, 1) := by decide +kernel
theorem dX10_image_12 : decode cX10_image 12 = .ok (.iconst 1, 1) := by decide +kernel
theorem dX10_image_13 : decode cX10_image 13 = .ok (.putfield 362, 3) := by decide +kernel
theorem dX10_image_16 : decode cX10_image 16 = .ok (.aload_n 0, 1) := by decide +kernel
theorem dX10_image_17 : decode cX10_image 17 = .ok (.getfield 11, 3) := by decide +kernel
theorem dX10_image_20 : decode cX10_image 20 = .ok (.iconst 1, 1) := by decide +kernel
theorem dX10_image_21 : decode cX10_image 21 = .ok (.iaload, 1) := by decide +kernel
theorem dX10_image_22 : decode cX10_image 22 = .ok (.ireturn, 1) := by decide +kernel
theorem dX10_undo_0 : decode cX10_undo 0 = .ok (.aload_n 0, 1) := by decide +kernel
theorem dX10_undo_1 : decode cX10_undo 1 = .ok (.getfield 362, 3) := by decide +kernel
theorem dX10_undo_4 : decode cX10_undo 4 = .ok (.ifCond .ne 6, 3) := by decide +kernel
theorem dX10_undo_7 : decode cX10_undo 7 = .ok (.bipush (-3), 2) := by decide +kernel
theorem dX10_undo_9 : decode cX10_undo 9 = .ok (.ireturn, 1) := by decide +kernel
theorem dX10_undo_10 : decode cX10_undo 10 = .ok (.aload_n 0, 1) := by decide +kernel
theorem dX10_undo_11 : decode cX10_undo 11 = .ok (.getfield 15, 3) := by decide +kernel
theorem dX10_undo_14 : decode cX10_undo 14 = .ok (.aload_n 0, 1) := by decide +kernel
theorem dX10_undo_15 : decode cX10_undo 15 = .ok (.getfield 11, 3) := by decide +kernel
theorem dX10_undo_18 : decode cX10_undo 18 = .ok (.invokestatic 358, 3) := by decide +kernel
theorem dX10_undo_21 : decode cX10_undo 21 = .ok (.aload_n 0, 1) := by decide +kernel
theorem dX10_undo_22 : decode cX10_undo 22 = .ok (.invokevirtual 69, 3) := by decide +kernel
theorem dX10_undo_25 : decode cX10_undo 25 = .ok (.aload_n 0, 1) := by decide +kernel
theorem dX10_undo_26 : decode cX10_undo 26 = .ok (.getfield 11, 3) := by decide +kernel
theorem dX10_undo_29 : decode cX10_undo 29 = .ok (.iconst 1, 1) := by decide +kernel
theorem dX10_undo_30 : decode cX10_undo 30 = .ok (.iaload, 1) := by decide +kernel
theorem dX10_undo_31 : decode cX10_undo 31 = .ok (.ireturn, 1) := by decide +kernel
theorem dJ6_bitCount_0f7a4_0 : decode cJ6_bitCount_0f7a4 0 = .ok (.iload_n 0, 1) := by decide +kernel
theorem dJ6_bitCount_0f7a4_1 : decode cJ6_bitCount_0f7a4 1 = .ok (.iload_n 0, 1) := by decide +kernel
theorem dJ6_bitCount_0f7a4_2 : decode cJ6_bitCount_0f7a4 2 = .ok (.iconst 1, 1) := by decide +kernel
theorem dJ6_bitCount_0f7a4_3 : decode cJ6_bitCount_0f7a4 3 = .ok (.iushr, 1) := by decide +kernel
theorem dJ6_bitCount_0f7a4_4 : decode cJ6_bitCount_0f7a4 4 = .ok (.ldc_w 265, 3) := by decide +kernel
theorem dJ6_bitCount_0f7a4_7 : decode cJ6_bitCount_0f7a4 7 = .ok (.iand, 1) := by decide +kernel
theorem dJ6_bitCount_0f7a4_8 : decode cJ6_bitCount_0f7a4 8 = .ok (.isub, 1) := by decide +kernel
theorem dJ6_bitCount_0f7a4_9 : decode cJ6_bitCount_0f7a4 9 = .ok (.istore_n 0, 1) := by decide +kernel
theorem dJ6_bitCount_0f7a4_10 : decode cJ6_bitCount_0f7a4 10 = .ok (.iload_n 0, 1) := by decide +kernel
theorem dJ6_bitCount_0f7a4_11 : decode cJ6_bitCount_0f7a4 11 = .ok (.ldc_w 266, 3) := by decide +kernel
theorem dJ6_bitCount_0f7a4_14 : decode cJ6_bitCount_0f7a4 14 = .ok (.iand, 1) := by decide +kernel
theorem dJ6_bitCount_0f7a4_15 : decode cJ6_bitCount_0f7a4 15 = .ok (.iload_n 0, 1) := by decide +kernel
theorem dJ6_bitCount_0f7a4_16 : decode cJ6_bitCount_0f7a4 16 = .ok (.iconst 2, 1) := by decide +kernel
theorem dJ6_bitCount_0f7a4_17 : decode cJ6_bitCount_0f7a4 17 = .ok (.iushr, 1) := by decide +kernel
theorem dJ6_bitCount_0f7a4_18 : decode cJ6_bitCount_0f7a4 18 = .ok (.ldc_w 266, 3) := by decide +kernel
theorem dJ6_bitCount_0f7a4_21 : decode cJ6_bitCount_0f7a4 21 = .ok (.iand, 1) := by decide +kernel
theorem dJ6_bitCount_0f7a4_22 : decode cJ6_bitCount_0f7a4 22 = .ok (.iadd, 1) := by decide +kernel
theorem dJ6_bitCount_0f7a4_23 : decode cJ6_bitCount_0f7a4 23 = .ok (.istore_n 0, 1) := by decide +kernel
theorem dJ6_bitCount_0f7a4_24 : decode cJ6_bitCount_0f7a4 24 = .ok (.iload_n 0, 1) := by decide +kernel
theorem dJ6_bitCount_0f7a4_25 : decode cJ6_bitCount_0f7a4 25 = .ok (.iload_n 0, 1) := by decide +kernel
theorem dJ6_bitCount_0f7a4_26 : decode cJ6_bitCount_0f7a4 26 = .ok (.iconst 4, 1) := by decide +kernel
theorem dJ6_bitCount_0f7a4_27 : decode cJ6_bitCount_0f7a4 27 = .ok (.iushr, 1) := by decide +kernel
theorem dJ6_bitCount_0f7a4_28 : decode cJ6_bitCount_0f7a4 28 = .ok (.iadd, 1) := by decide +kernel
theorem dJ6_bitCount_0f7a4_29 : decode cJ6_bitCount_0f7a4 29 = .ok (.ldc_w 267, 3) := by decide +kernel
theorem dJ6_bitCount_0f7a4_32 : decode cJ6_bitCount_0f7a4 32 = .ok (.iand, 1) := by decide +kernel
theorem dJ6_bitCount_0f7a4_33 : decode cJ6_bitCount_0f7a4 33 = .ok (.istore_n 0, 1) := by decide +kernel
theorem dJ6_bitCount_0f7a4_34 : decode cJ6_bitCount_0f7a4 34 = .ok (.iload_n 0, 1) := by decide +kernel
theorem dJ6_bitCount_0f7a4_35 : decode cJ6_bitCount_0f7a4 35 = .ok (.iload_n 0, 1) := by decide +kernel
theorem dJ6_bitCount_0f7a4_36 : decode cJ6_bitCount_0f7a4 36 = .ok (.bipush 8, 2) := by decide +kernel
theorem dJ6_bitCount_0f7a4_38 : decode cJ6_bitCount_0f7a4 38 = .ok (.iushr, 1) := by decide +kernel
theorem dJ6_bitCount_0f7a4_39 : decode cJ6_bitCount_0f7a4 39 = .ok (.iadd, 1) := by decide +kernel
theorem dJ6_bitCount_0f7a4_40 : decode cJ6_bitCount_0f7a4 40 = .ok (.istore_n 0, 1) := by decide +kernel
theorem dJ6_bitCount_0f7a4_41 : decode cJ6_bitCount_0f7a4 41 = .ok (.iload_n 0, 1) := by decide +kernel
theorem dJ6_bitCount_0f7a4_42 : decode cJ6_bitCount_0f7a4 42 = .ok (.iload_n 0, 1) := by decide +kernel
theorem dJ6_bitCount_0f7a4_43 : decode cJ6_bitCount_0f7a4 43 = .ok (.bipush 16, 2) := by decide +kernel
theorem dJ6_bitCount_0f7a4_45 : decode cJ6_bitCount_0f7a4 45 = .ok (.iushr, 1) := by decide +kernel
theorem dJ6_bitCount_0f7a4_46 : decode cJ6_bitCount_0f7a4 46 = .ok (.iadd, 1) := by decide +kernel
theorem dJ6_bitCount_0f7a4_47 : decode cJ6_bitCount_0f7a4 47 = .ok (.istore_n 0, 1) := by decide +kernel
theorem dJ6_bitCount_0f7a4_48 : decode cJ6_bitCount_0f7a4 48 = .ok (.iload_n 0, 1) := by decide +kernel
theorem dJ6_bitCount_0f7a4_49 : decode cJ6_bitCount_0f7a4 49 = .ok (.bipush 63, 2) := by decide +kernel
theorem dJ6_bitCount_0f7a4_51 : decode cJ6_bitCount_0f7a4 51 = .ok (.iand, 1) := by decide +kernel
theorem dJ6_bitCount_0f7a4_52 : decode cJ6_bitCount_0f7a4 52 = .ok (.ireturn, 1) := by decide +kernel
theorem dJ9_abs_0f7a4_0 : decode cJ9_abs_0f7a4 0 = .ok (.iload_n 0, 1) := by decide +kernel
theorem dJ9_abs_0f7a4_1 : decode cJ9_abs_0f7a4 1 = .ok (.ifCond .ge 8, 3) := by decide +kernel
theorem dJ9_abs_0f7a4_4 : decode cJ9_abs_0f7a4 4 = .ok (.iload_n 0, 1) := by decide +kernel
theorem dJ9_abs_0f7a4_5 : decode cJ9_abs_0f7a4 5 = .ok (.ineg, 1) := by decide +kernel
theorem dJ9_abs_0f7a4_6 : decode cJ9_abs_0f7a4 6 = .ok (.goto 4, 3) := by decide +kernel
theorem dJ9_abs_0f7a4_9 : decode cJ9_abs_0f7a4 9 = .ok (.iload_n 0, 1) := by decide +kernel
theorem dJ9_abs_0f7a4_10 : decode cJ9_abs_0f7a4 10 = .ok (.ireturn, 1) := by decide +kernel
theorem dJ9_max_7cf53_0 : decode cJ9_max_7cf53 0 = .ok (.iload_n 0, 1) := by decide +kernel
theorem dJ9_max_7cf53_1 : decode cJ9_max_7cf53 1 = .ok (.iload_n 1, 1) := by decide +kernel
theorem dJ9_max_7cf53_2 : decode cJ9_max_7cf53 2 = .ok (.if_icmp .lt 7, 3) := by decide +kernel
theorem dJ9_max_7cf53_5 : decode cJ9_max_7cf53 5 = .ok (.iload_n 0, 1) := by decide +kernel
theorem dJ9_max_7cf53_6 : decode cJ9_max_7cf53 6 = .ok (.goto 4, 3) := by decide +kernel
theorem dJ9_max_7cf53_9 : decode cJ9_max_7cf53 9 = .ok (.iload_n 1, 1) := by decide +kernel
theorem dJ9_max_7cf53_10 : decode cJ9_max_7cf53 10 = .ok (.ireturn, 1) := by decide +kernel
theorem dJ9_min_7cf53_0 : decode cJ9_min_7cf53 0 = .ok (.iload_n 0, 1) := by decide +kernel
theorem dJ9_min_7cf53_1 : decode cJ9_min_7cf53 1 = .ok (.iload_n 1, 1) := by decide +kernel
theorem dJ9_min_7cf53_2 : decode cJ9_min_7cf53 2 = .ok (.if_icmp .gt 7, 3) := by decide +kernel
theorem dJ9_min_7cf53_5 : decode cJ9_min_7cf53 5 = .ok (.iload_n 0, 1) := by decide +kernel
theorem dJ9_min_7cf53_6 : decode cJ9_min_7cf53 6 = .ok (.goto 4, 3) := by decide +kernel
theorem dJ9_min_7cf53_9 : decode cJ9_min_7cf53 9 = .ok (.iload_n 1, 1) := by decide +kernel
theorem dJ9_min_7cf53_10 : decode cJ9_min_7cf53 10 = .ok (.ireturn, 1) := by decide +kernel
theorem dJ0_length_8abf5_0 : decode cJ0_length_8abf5 0 = .ok (.aload_n 0, 1) := by decide +kernel
theorem dJ0_length_8abf5_1 : decode cJ0_length_8abf5 1 = .ok (.getfield 9, 3) := by decide +kernel
theorem dJ0_length_8abf5_4 : decode cJ0_length_8abf5 4 = .ok (.arraylength, 1) := by decide +kernel
theorem dJ0_length_8abf5_5 : decode cJ0_length_8abf5 5 = .ok (.aload_n 0, 1) := by decide +kernel
theorem dJ0_length_8abf5_6 : decode cJ0_length_8abf5 6 = .ok (.invokevirtual 335, 3) := by decide +kernel
theorem dJ0_length_8abf5_9 : decode cJ0_length_8abf5 9 = .ok (.ishr, 1) := by decide +kernel
theorem dJ0_length_8abf5_10 : decode cJ0_length_8abf5 10 = .ok (.ireturn, 1) := by decide +kernel
theorem dJ0_charAt_5068e_0 : decode cJ0_charAt_5068e 0 = .ok (.aload_n 0, 1) := by decide +kernel
theorem dJ0_charAt_5068e_1 : decode cJ0_charAt_5068e 1 = .ok (.invokevirtual 492, 3) := by decide +kernel
theorem dJ0_charAt_5068e_4 : decode cJ0_charAt_5068e 4 = .ok (.ifCond .eq 12, 3) := by decide +kernel
theorem dJ0_charAt_5068e_7 : decode cJ0_charAt_5068e 7 = .ok (.aload_n 0, 1) := by decide +kernel
theorem dJ0_charAt_5068e_8 : decode cJ0_charAt_5068e 8 = .ok (.getfield 9, 3) := by decide +kernel
theorem dJ0_charAt_5068e_11 : decode cJ0_charAt_5068e 11 = .ok (.iload_n 1, 1) := by decide +kernel
theorem dJ0_charAt_5068e_12 : decode cJ0_charAt_5068e 12 = .ok (.invokestatic 495, 3) := by decide +kernel
theorem dJ0_charAt_5068e_15 : decode cJ0_charAt_5068e 15 = .ok (.ireturn, 1) := by decide +kernel
theorem dJ0_charAt_5068e_16 : decode cJ0_charAt_5068e 16 = .ok (.aload_n 0, 1) := by decide +kernel
theorem dJ0_charAt_5068e_17 : decode cJ0_charAt_5068e 17 = .ok (.getfield 9, 3) := by decide +kernel
theorem dJ0_charAt_5068e_20 : decode cJ0_charAt_5068e 20 = .ok (.iload_n 1, 1) := by decide +kernel
theorem dJ0_charAt_5068e_21 : decode cJ0_charAt_5068e 21 = .ok (.invokestatic 498, 3) := by decide +kernel
theorem dJ0_charAt_5068e_24 : decode cJ0_charAt_5068e 24 = .ok (.ireturn, 1) := by decide +kernel
theorem dJ0_coder_7d493_0 : decode cJ0_coder_7d493 0 = .ok (.getstatic 38, 3) := by decide +kernel
theorem dJ0_coder_7d493_3 : decode cJ0_coder_7d493 3 = .ok (.ifCond .eq 10, 3) := by decide +kernel
theorem dJ0_coder_7d493_6 : decode cJ0_coder_7d493 6 = .ok (.aload_n 0, 1) := by decide +kernel
theorem dJ0_coder_7d493_7 : decode cJ0_coder_7d493 7 = .ok (.getfield 15, 3) := by decide +kernel
theorem dJ0_coder_7d493_10 : decode cJ0_coder_7d493 10 = .ok (.goto 4, 3) := by decide +kernel
theorem dJ0_coder_7d493_13 : decode cJ0_coder_7d493 13 = .ok (.iconst 1, 1) := by decide +kernel
theorem dJ0_coder_7d493_14 : decode cJ0_coder_7d493 14 = .ok (.ireturn, 1) := by decide +kernel
theorem dJ0_isLatin1_aae02_0 : decode cJ0_isLatin1_aae02 0 = .ok (.getstatic 38, 3) := by decide +kernel
theorem dJ0_isLatin1_aae02_3 : decode cJ0_isLatin1_aae02 3 = .ok (.ifCond .eq 14, 3) := by decide +kernel
theorem dJ0_isLatin1_aae02_6 : decode cJ0_isLatin1_aae02 6 = .ok (.aload_n 0, 1) := by decide +kernel
theorem dJ0_isLatin1_aae02_7 : decode cJ0_isLatin1_aae02 7 = .ok (.getfield 15, 3) := by decide +kernel
theorem dJ0_isLatin1_aae02_10 : decode cJ0_isLatin1_aae02 10 = .ok (.ifCond .ne 7, 3) := by decide +kernel
theorem dJ0_isLatin1_aae02_13 : decode cJ0_isLatin1_aae02 13 = .ok (.iconst 1, 1) := by decide +kernel
theorem dJ0_isLatin1_aae02_14 : decode cJ0_isLatin1_aae02 14 = .ok (.goto 4, 3) := by decide +kernel
theorem dJ0_isLatin1_aae02_17 : decode cJ0_isLatin1_aae02 17 = .ok (.iconst 0, 1) := by decide +kernel
theorem dJ0_isLatin1_aae02_18 : decode cJ0_isLatin1_aae02 18 = .ok (.ireturn, 1) := by decide +kernel
theorem dJ0_checkIndex_df160_0 : decode cJ0_checkIndex_df160 0 = .ok (.iload_n 0, 1) := by decide +kernel
theorem dJ0_checkIndex_df160_1 : decode cJ0_checkIndex_df160 1 = .ok (.iload_n 1, 1) := by decide +kernel
theorem dJ0_checkIndex_df160_2 : decode cJ0_checkIndex_df160 2 = .ok (.getstatic 1053, 3) := by decide +kernel
theorem dJ0_checkIndex_df160_5 : decode cJ0_checkIndex_df160 5 = .ok (.invokestatic 1059, 3) := by decide +kernel
theorem dJ0_checkIndex_df160_8 : decode cJ0_checkIndex_df160 8 = .ok (.pop, 1) := by decide +kernel
theorem dJ0_checkIndex_df160_9 : decode cJ0_checkIndex_df160 9 = .ok (.return_, 1) := by decide +kernel
theorem dJ1_charAt_3b067_0 : decode cJ1_charAt_3b067 0 = .ok (.iload_n 1, 1) := by decide +kernel
theorem dJ1_charAt_3b067_1 : decode cJ1_charAt_3b067 1 = .ok (.aload_n 0, 1) := by decide +kernel
theorem dJ1_charAt_3b067_2 : decode cJ1_charAt_3b067 2 = .ok (.arraylength, 1) := by decide +kernel
theorem dJ1_charAt_3b067_3 : decode cJ1_charAt_3b067 3 = .ok (.invokestatic 9, 3) := by decide +kernel
theorem dJ1_charAt_3b067_6 : decode cJ1_charAt_3b067 6 = .ok (.aload_n 0, 1) := by decide +kernel
theorem dJ1_charAt_3b067_7 : decode cJ1_charAt_3b067 7 = .ok (.iload_n 1, 1) := by decide +kernel
theorem dJ1_charAt_3b067_8 : decode cJ1_charAt_3b067 8 = .ok (.baload, 1) := by decide +kernel
theorem dJ1_charAt_3b067_9 : decode cJ1_charAt_3b067 9 = .ok (.sipush 255, 3) := by decide +kernel
theorem dJ1_charAt_3b067_12 : decode cJ1_charAt_3b067 12 = .ok (.iand, 1) := by decide +kernel
theorem dJ1_charAt_3b067_13 : decode cJ1_charAt_3b067 13 = .ok (.i2c, 1) := by decide +kernel
theorem dJ1_charAt_3b067_14 : decode cJ1_charAt_3b067 14 = .ok (.ireturn, 1) := by decide +kernel
theorem dJ2_getChar_3b067_0 : decode cJ2_getChar_3b067 0 = .ok (.getstatic 44, 3) := by decide +kernel
theorem dJ2_getChar_3b067_3 : decode cJ2_getChar_3b067 3 = .ok (.ifCond .ne 25, 3) := by decide +kernel
theorem dJ2_getChar_3b067_6 : decode cJ2_getChar_3b067 6 = .ok (.iload_n 1, 1) := by decide +kernel
theorem dJ2_getChar_3b067_7 : decode cJ2_getChar_3b067 7 = .ok (.ifCond .lt 11, 3) := by decide +kernel
theorem dJ2_getChar_3b067_10 : decode cJ2_getChar_3b067 10 = .ok (.iload_n 1, 1) := by decide +kernel
theorem dJ2_getChar_3b067_11 : decode cJ2_getChar_3b067 11 = .ok (.aload_n 0, 1) := by decide +kernel
theorem dJ2_getChar_3b067_12 : decode cJ2_getChar_3b067 12 = .ok (.invokestatic 48, 3) := by decide +kernel
theorem dJ2_getChar_3b067_15 : decode cJ2_getChar_3b067 15 = .ok (.if_icmp .lt 13, 3) := by decide +kernel
theorem dJ2_getChar_3b067_18 : decode cJ2_getChar_3b067 18 = .ok (.new 52, 3) := by decide +kernel
theorem dJ2_getChar_3b067_21 : decode cJ2_getChar_3b067 21 = .ok (.dup, 1) := by decide +kernel
theorem dJ2_getChar_3b067_22 : decode cJ2_getChar_3b067 22 = .ok (.ldc 54, 2) := by decide +kernel
theorem dJ2_getChar_3b067_24 : decode cJ2_getChar_3b067 24 = .ok (.invokespecial 56, 3) := by decide +kernel
theorem dJ2_getChar_3b067_27 : decode cJ2_getChar_3b067 27 = .ok (.athrow, 1) := by decide +kernel
theorem dJ2_getChar_3b067_28 : decode cJ2_getChar_3b067 28 = .ok (.iload_n 1, 1) := by decide +kernel
theorem dJ2_getChar_3b067_29 : decode cJ2_getChar_3b067 29 = .ok (.iconst 1, 1) := by decide +kernel
theorem dJ2_getChar_3b067_30 : decode cJ2_getChar_3b067 30 = .ok (.ishl, 1) := by decide +kernel
theorem dJ2_getChar_3b067_31 : decode cJ2_getChar_3b067 31 = .ok (.istore_n 1, 1) := by decide +kernel
theorem dJ2_getChar_3b067_32 : decode cJ2_getChar_3b067 32 = .ok (.aload_n 0, 1) := by decide +kernel
theorem dJ2_getChar_3b067_33 : decode cJ2_getChar_3b067 33 = .ok (.iload_n 1, 1) := by decide +kernel
theorem dJ2_getChar_3b067_34 : decode cJ2_getChar_3b067 34 = .ok (.iinc 1 1, 3) := by decide +kernel
theorem dJ2_getChar_3b067_37 : decode cJ2_getChar_3b067 37 = .ok (.baload, 1) := by decide +kernel
theorem dJ2_getChar_3b067_38 : decode cJ2_getChar_3b067 38 = .ok (.sipush 255, 3) := by decide +kernel
theorem dJ2_getChar_3b067_41 : decode cJ2_getChar_3b067 41 = .ok (.iand, 1) := by decide +kernel
theorem dJ2_getChar_3b067_42 : decode cJ2_getChar_3b067 42 = .ok (.getstatic 59, 3) := by decide +kernel
theorem dJ2_getChar_3b067_45 : decode cJ2_getChar_3b067 45 = .ok (.ishl, 1) := by decide +kernel
theorem dJ2_getChar_3b067_46 : decode cJ2_getChar_3b067 46 = .ok (.aload_n 0, 1) := by decide +kernel
theorem dJ2_getChar_3b067_47 : decode cJ2_getChar_3b067 47 = .ok (.iload_n 1, 1) := by decide +kernel
theorem dJ2_getChar_3b067_48 : decode cJ2_getChar_3b067 48 = .ok (.baload, 1) := by decide +kernel
theorem dJ2_getChar_3b067_49 : decode cJ2_getChar_3b067 49 = .ok (.sipush 255, 3) := by decide +kernel
theorem dJ2_getChar_3b067_52 : decode cJ2_getChar_3b067 52 = .ok (.iand, 1) := by decide +kernel
theorem dJ2_getChar_3b067_53 : decode cJ2_getChar_3b067 53 = .ok (.getstatic 63, 3) := by decide +kernel
theorem dJ2_getChar_3b067_56 : decode cJ2_getChar_3b067 56 = .ok (.ishl, 1) := by decide +kernel
theorem dJ2_getChar_3b067_57 : decode cJ2_getChar_3b067 57 = .ok (.ior, 1) := by decide +kernel
theorem dJ2_getChar_3b067_58 : decode cJ2_getChar_3b067 58 = .ok (.i2c, 1) := by decide +kernel
theorem dJ2_getChar_3b067_59 : decode cJ2_getChar_3b067 59 = .ok (.ireturn, 1) := by decide +kernel
theorem dJ2_length_9d52b_0 : decode cJ2_length_9d52b 0 = .ok (.aload_n 0, 1) := by decide +kernel
theorem dJ2_length_9d52b_1 : decode cJ2_length_9d52b 1 = .ok (.arraylength, 1) := by decide +kernel
theorem dJ2_length_9d52b_2 : decode cJ2_length_9d52b 2 = .ok (.iconst 1, 1) := by decide +kernel
theorem dJ2_length_9d52b_3 : decode cJ2_length_9d52b 3 = .ok (.ishr, 1) := by decide +kernel
theorem dJ2_length_9d52b_4 : decode cJ2_length_9d52b 4 = .ok (.ireturn, 1) := by decide +kernel
theorem dJ2_charAt_3b067_0 : decode cJ2_charAt_3b067 0 = .ok (.iload_n 1, 1) := by decide +kernel
theorem dJ2_charAt_3b067_1 : decode cJ2_charAt_3b067 1 = .ok (.aload_n 0, 1) := by decide +kernel
theorem dJ2_charAt_3b067_2 : decode cJ2_charAt_3b067 2 = .ok (.invokestatic 67, 3) := by decide +kernel
theorem dJ2_charAt_3b067_5 : decode cJ2_charAt_3b067 5 = .ok (.aload_n 0, 1) := by decide +kernel
theorem dJ2_charAt_3b067_6 : decode cJ2_charAt_3b067 6 = .ok (.iload_n 1, 1) := by decide +kernel
theorem dJ2_charAt_3b067_7 : decode cJ2_charAt_3b067 7 = .ok (.invokestatic 71, 3) := by decide +kernel
theorem dJ2_charAt_3b067_10 : decode cJ2_charAt_3b067 10 = .ok (.ireturn, 1) := by decide +kernel
theorem dJ2_checkIndex_2214a_0 : decode cJ2_checkIndex_2214a 0 = .ok (.iload_n 0, 1) := by decide +kernel
theorem dJ2_checkIndex_2214a_1 : decode cJ2_checkIndex_2214a 1 = .ok (.aload_n 1, 1) := by decide +kernel
theorem dJ2_checkIndex_2214a_2 : decode cJ2_checkIndex_2214a 2 = .ok (.invokestatic 48, 3) := by decide +kernel
theorem dJ2_checkIndex_2214a_5 : decode cJ2_checkIndex_2214a 5 = .ok (.invokestatic 414, 3) := by decide +kernel
theorem dJ2_checkIndex_2214a_8 : decode cJ2_checkIndex_2214a 8 = .ok (.return_, 1) := by decide +kernel
theorem dJ3_checkIndex_8e157_0 : decode cJ3_checkIndex_8e157 0 = .ok (.iload_n 0, 1) := by decide +kernel
theorem dJ3_checkIndex_8e157_1 : decode cJ3_checkIndex_8e157 1 = .ok (.ifCond .lt 8, 3) := by decide +kernel
theorem dJ3_checkIndex_8e157_4 : decode cJ3_checkIndex_8e157 4 = .ok (.iload_n 0, 1) := by decide +kernel
theorem dJ3_checkIndex_8e157_5 : decode cJ3_checkIndex_8e157 5 = .ok (.iload_n 1, 1) := by decide +kernel
theorem dJ3_checkIndex_8e157_6 : decode cJ3_checkIndex_8e157 6 = .ok (.if_icmp .lt 10, 3) := by decide +kernel
theorem dJ3_checkIndex_8e157_9 : decode cJ3_checkIndex_8e157 9 = .ok (.aload_n 2, 1) := by decide +kernel
theorem dJ3_checkIndex_8e157_10 : decode cJ3_checkIndex_8e157 10 = .ok (.iload_n 0, 1) := by decide +kernel
theorem dJ3_checkIndex_8e157_11 : decode cJ3_checkIndex_8e157 11 = .ok (.iload_n 1, 1) := by decide +kernel
theorem dJ3_checkIndex_8e157_12 : decode cJ3_checkIndex_8e157 12 = .ok (.invokestatic 95, 3) := by decide +kernel
theorem dJ3_checkIndex_8e157_15 : decode cJ3_checkIndex_8e157 15 = .ok (.athrow, 1) := by decide +kernel
theorem dJ3_checkIndex_8e157_16 : decode cJ3_checkIndex_8e157 16 = .ok (.iload_n 0, 1) := by decide +kernel
theorem dJ3_checkIndex_8e157_17 : decode cJ3_checkIndex_8e157 17 = .ok (.ireturn, 1) := by decide +kernel
theorem dL_law_0 : decode cL_law 0 = .ok (.new 7, 3) := by decide +kernel
theorem dL_law_3 : decode cL_law 3 = .ok (.dup, 1) := by decide +kernel
theorem dL_law_4 : decode cL_law 4 = .ok (.invokespecial 9, 3) := by decide +kernel
theorem dL_law_7 : decode cL_law 7 = .ok (.astore_n 1, 1) := by decide +kernel
theorem dL_law_8 : decode cL_law 8 = .ok (.new 10, 3) := by decide +kernel
theorem dL_law_11 : decode cL_law 11 = .ok (.dup, 1) := by decide +kernel
theorem dL_law_12 : decode cL_law 12 = .ok (.invokespecial 12, 3) := by decide +kernel
theorem dL_law_15 : decode cL_law 15 = .ok (.astore_n 2, 1) := by decide +kernel
theorem dL_law_16 : decode cL_law 16 = .ok (.iconst 0, 1) := by decide +kernel
theorem dL_law_17 : decode cL_law 17 = .ok (.istore_n 3, 1) := by decide +kernel
theorem dL_law_18 : decode cL_law 18 = .ok (.iload_n 3, 1) := by decide +kernel
theorem dL_law_19 : decode cL_law 19 = .ok (.aload_n 0, 1) := by decide +kernel
theorem dL_law_20 : decode cL_law 20 = .ok (.arraylength, 1) := by decide +kernel
theorem dL_law_21 : decode cL_law 21 = .ok (.bipush 6, 2) := by decide +kernel
theorem dL_law_23 : decode cL_law 23 = .ok (.isub, 1) := by decide +kernel
theorem dL_law_24 : decode cL_law 24 = .ok (.if_icmp .gt 1421, 3) := by decide +kernel
theorem dL_law_27 : decode cL_law 27 = .ok (.aload_n 0, 1) := by decide +kernel
theorem dL_law_28 : decode cL_law 28 = .ok (.iload_n 3, 1) := by decide +kernel
theorem dL_law_29 : decode cL_law 29 = .ok (.iaload, 1) := by decide +kernel
theorem dL_law_30 : decode cL_law 30 = .ok (.bipush 63, 2) := by decide +kernel
theorem dL_law_32 : decode cL_law 32 = .ok (.iand, 1) := by decide +kernel
theorem dL_law_33 : decode cL_law 33 = .ok (.tableswitch 1406 0 40 #[179, 202, 215, 238, 261, 294, 317, 350, 383, 406, 439, 462, 485, 518, 561, 594, 657, 700, 723, 766, 789, 822, 855, 868, 901, 934, 967, 1000, 1043, 1077, 1101, 1125, 1148, 1181, 1204, 1237, 1280, 1314, 1347, 1380, 1393], 179) := by decide +kernel
theorem dL_law_212 : decode cL_law 212 = .ok (.aload_n 1, 1) := by decide +kernel
theorem dL_law_213 : decode cL_law 213 = .ok (.aload_n 0, 1) := by decide +kernel
theorem dL_law_214 : decode cL_law 214 = .ok (.iload_n 3, 1) := by decide +kernel
theorem dL_law_215 : decode cL_law 215 = .ok (.iconst 1, 1) := by decide +kernel
theorem dL_law_216 : decode cL_law 216 = .ok (.iadd, 1) := by decide +kernel
theorem dL_law_217 : decode cL_law 217 = .ok (.iaload, 1) := by decide +kernel
theorem dL_law_218 : decode cL_law 218 = .ok (.invokevirtual 13, 3) := by decide +kernel
theorem dL_law_221 : decode cL_law 221 = .ok (.aload_n 2, 1) := by decide +kernel
theorem dL_law_222 : decode cL_law 222 = .ok (.aload_n 0, 1) := by decide +kernel
theorem dL_law_223 : decode cL_law 223 = .ok (.iload_n 3, 1) := by decide +kernel
theorem dL_law_224 : decode cL_law 224 = .ok (.iconst 1, 1) := by decide +kernel
theorem dL_law_225 : decode cL_law 225 = .ok (.iadd, 1) := by decide +kernel
theorem dL_law_226 : decode cL_law 226 = .ok (.iaload, 1) := by decide +kernel
theorem dL_law_227 : decode cL_law 227 = .ok (.invokevirtual 17, 3) := by decide +kernel
theorem dL_law_230 : decode cL_law 230 = .ok (.if_icmp .eq 1209, 3) := by decide +kernel
theorem dL_law_233 : decode cL_law 233 = .ok (.iconst 0, 1) := by decide +kernel
theorem dL_law_234 : decode cL_law 234 = .ok (.ireturn, 1) := by decide +kernel
theorem dL_law_235 : decode cL_law 235 = .ok (.aload_n 1, 1) := by decide +kernel
theorem dL_law_236 : decode cL_law 236 = .ok (.invokevirtual 18, 3) := by decide +kernel
theorem dL_law_239 : decode cL_law 239 = .ok (.aload_n 2, 1) := by decide +kernel
theorem dL_law_240 : decode cL_law 240 = .ok (.invokevirtual 22, 3) := by decide +kernel
theorem dL_law_243 : decode cL_law 243 = .ok (.if_icmp .eq 1196, 3) := by decide +kernel
theorem dL_law_246 : decode cL_law 246 = .ok (.iconst 0, 1) := by decide +kernel
theorem dL_law_247 : decode cL_law 247 = .ok (.ireturn, 1) := by decide +kernel
theorem dL_law_248 : decode cL_law 248 = .ok (.aload_n 1, 1) := by decide +kernel
theorem dL_law_249 : decode cL_law 249 = .ok (.aload_n 0, 1) := by decide +kernel
theorem dL_law_250 : decode cL_law 250 = .ok (.iload_n 3, 1) := by decide +kernel
theorem dL_law_251 : decode cL_law 251 = .ok (.iconst 1, 1) := by decide +kernel
theorem dL_law_252 : decode cL_law 252 = .ok (.iadd, 1) := by decide +kernel
theorem dL_law_253 : decode cL_law 253 = .ok (.iaload, 1) := by decide +kernel
theorem dL_law_254 : decode cL_law 254 = .ok (.invokevirtual 23, 3) := by decide +kernel
theorem dL_law_257 : decode cL_law 257 = .ok (.aload_n 2, 1) := by decide +kernel
theorem dL_law_258 : decode cL_law 258 = .ok (.aload_n 0, 1) := by decide +kernel
theorem dL_law_259 : decode cL_law 259 = .ok (.iload_n 3, 1) := by decide +kernel
theorem dL_law_260 : decode cL_law 260 = .ok (.iconst 1, 1) := by decide +kernel
theorem dL_law_261 : decode cL_law 261 = .ok (.iadd, 1) := by decide +kernel
theorem dL_law_262 : decode cL_law 262 = .ok (.iaload, 1) := by decide +kernel
theorem dL_law_263 : decode cL_law 263 = .ok (.invokevirtual 26, 3) := by decide +kernel
theorem dL_law_266 : decode cL_law 266 = .ok (.if_icmp .eq 1173, 3) := by decide +kernel
theorem dL_law_269 : decode cL_law 269 = .ok (.iconst 0, 1) := by decide +kernel
theorem dL_law_270 : decode cL_law 270 = .ok (.ireturn, 1) := by decide +kernel
theorem dL_law_271 : decode cL_law 271 = .ok (.aload_n 1, 1) := by decide +kernel
theorem dL_law_272 : decode cL_law 272 = .ok (.aload_n 0, 1) := by decide +kernel
theorem dL_law_273 : decode cL_law 273 = .ok (.iload_n 3, 1) := by decide +kernel
theorem dL_law_274 : decode cL_law 274 = .ok (.iconst 1, 1) := by decide +kernel
theorem dL_law_275 : decode cL_law 275 = .ok (.iadd, 1) := by decide +kernel
theorem dL_law_276 : decode cL_law 276 = .ok (.iaload, 1) := by decide +kernel
theorem dL_law_277 : decode cL_law 277 = .ok (.invokevirtual 27, 3) := by decide +kernel
theorem dL_law_280 : decode cL_law 280 = .ok (.aload_n 2, 1) := by decide +kernel
theorem dL_law_281 : decode cL_law 281 = .ok (.aload_n 0, 1) := by decide +kernel
theorem dL_law_282 : decode cL_law 282 = .ok (.iload_n 3, 1) := by decide +kernel
theorem dL_law_283 : decode cL_law 283 = .ok (.iconst 1, 1) := by decide +kernel
theorem dL_law_284 : decode cL_law 284 = .ok (.iadd, 1) := by decide +kernel
theorem dL_law_285 : decode cL_law 285 = .ok (.iaload, 1) := by decide +kernel
theorem dL_law_286 : decode cL_law 286 = .ok (.invokevirtual 30, 3) := by decide +kernel
theorem dL_law_289 : decode cL_law 289 = .ok (.if_icmp .eq 1150, 3) := by decide +kernel
theorem dL_law_292 : decode cL_law 292 = .ok (.iconst 0, 1) := by decide +kernel
theorem dL_law_293 : decode cL_law 293 = .ok (.ireturn, 1) := by decide +kernel
theorem dL_law_294 : decode cL_law 294 = .ok (.aload_n 1, 1) := by decide +kernel
theorem dL_law_295 : decode cL_law 295 = .ok (.aload_n 0, 1) := by decide +kernel
theorem dL_law_296 : decode cL_law 296 = .ok (.iload_n 3, 1) := by decide +kernel
theorem dL_law_297 : decode cL_law 297 = .ok (.iconst 1, 1) := by decide +kernel
theorem dL_law_298 : decode cL_law 298 = .ok (.iadd, 1) := by decide +kernel
theorem dL_law_299 : decode cL_law 299 = .ok (.iaload, 1) := by decide +kernel
theorem dL_law_300 : decode cL_law 300 = .ok (.aload_n 0, 1) := by decide +kernel
theorem dL_law_301 : decode cL_law 301 = .ok (.iload_n 3, 1) := by decide +kernel
theorem dL_law_302 : decode cL_law 302 = .ok (.iconst 2, 1) := by decide +kernel
theorem dL_law_303 : decode cL_law 303 = .ok (.iadd, 1) := by decide +kernel
theorem dL_law_304 : decode cL_law 304 = .ok (.iaload, 1) := by decide +kernel
theorem dL_law_305 : decode cL_law 305 = .ok (.invokevirtual 31, 3) := by decide +kernel
theorem dL_law_308 : decode cL_law 308 = .ok (.aload_n 2, 1) := by decide +kernel
theorem dL_law_309 : decode cL_law 309 = .ok (.aload_n 0, 1) := by decide +kernel
theorem dL_law_310 : decode cL_law 310 = .ok (.iload_n 3, 1) := by decide +kernel
theorem dL_law_311 : decode cL_law 311 = .ok (.iconst 1, 1) := by decide +kernel
theorem dL_law_312 : decode cL_law 312 = .ok (.iadd, 1) := by decide +kernel
theorem dL_law_313 : decode cL_law 313 = .ok (.iaload, 1) := by decide +kernel
theorem dL_law_314 : decode cL_law 314 = .ok (.aload_n 0, 1) := by decide +kernel
theorem dL_law_315 : decode cL_law 315 = .ok (.iload_n 3, 1) := by decide +kernel
theorem dL_law_316 : decode cL_law 316 = .ok (.iconst 2, 1) := by decide +kernel
theorem dL_law_317 : decode cL_law 317 = .ok (.iadd, 1) := by decide +kernel
theorem dL_law_318 : decode cL_law 318 = .ok (.iaload, 1) := by decide +kernel
theorem dL_law_319 : decode cL_law 319 = .ok (.invokevirtual 35, 3) := by decide +kernel
theorem dL_law_322 : decode cL_law 322 = .ok (.if_icmp .eq 1117, 3) := by decide +kernel
theorem dL_law_325 : decode cL_law 325 = .ok (.iconst 0, 1) := by decide +kernel
theorem dL_law_326 : decode cL_law 326 = .ok (.ireturn, 1) := by decide +kernel
theorem dL_law_327 : decode cL_law 327 = .ok (.aload_n 1, 1) := by decide +kernel
theorem dL_law_328 : decode cL_law 328 = .ok (.aload_n 0, 1) := by decide +kernel
theorem dL_law_329 : decode cL_law 329 = .ok (.iload_n 3, 1) := by decide +kernel
theorem dL_law_330 : decode cL_law 330 = .ok (.iconst 1, 1) := by decide +kernel
theorem dL_law_331 : decode cL_law 331 = .ok (.iadd, 1) := by decide +kernel
theorem dL_law_332 : decode cL_law 332 = .ok (.iaload, 1) := by decide +kernel
theorem dL_law_333 : decode cL_law 333 = .ok (.invokevirtual 36, 3) := by decide +kernel
theorem dL_law_336 : decode cL_law 336 = .ok (.aload_n 2, 1) := by decide +kernel
theorem dL_law_337 : decode cL_law 337 = .ok (.aload_n 0, 1) := by decide +kernel
theorem dL_law_338 : decode cL_law 338 = .ok (.iload_n 3, 1) := by decide +kernel
theorem dL_law_339 : decode cL_law 339 = .ok (.iconst 1, 1) := by decide +kernel
theorem dL_law_340 : decode cL_law 340 = .ok (.iadd, 1) := by decide +kernel
theorem dL_law_341 : decode cL_law 341 = .ok (.iaload, 1) := by decide +kernel
theorem dL_law_342 : decode cL_law 342 = .ok (.invokevirtual 39, 3) := by decide +kernel
theorem dL_law_345 : decode cL_law 345 = .ok (.if_icmp .eq 1094, 3) := by decide +kernel
theorem dL_law_348 : decode cL_law 348 = .ok (.iconst 0, 1) := by decide +kernel
theorem dL_law_349 : decode cL_law 349 = .ok (.ireturn, 1) := by decide +kernel
theorem dL_law_350 : decode cL_law 350 = .ok (.aload_n 1, 1) := by decide +kernel
theorem dL_law_351 : decode cL_law 351 = .ok (.aload_n 0, 1) := by decide +kernel
theorem dL_law_352 : decode cL_law 352 = .ok (.iload_n 3, 1) := by decide +kernel
theorem dL_law_353 : decode cL_law 353 = .ok (.iconst 1, 1) := by decide +kernel
theorem dL_law_354 : decode cL_law 354 = .ok (.iadd, 1) := by decide +kernel
theorem dL_law_355 : decode cL_law 355 = .ok (.iaload, 1) := by decide +kernel
theorem dL_law_356 : decode cL_law 356 = .ok (.aload_n 0, 1) := by decide +kernel
theorem dL_law_357 : decode cL_law 357 = .ok (.iload_n 3, 1) := by decide +kernel
theorem dL_law_358 : decode cL_law 358 = .ok (.iconst 2, 1) := by decide +kernel
theorem dL_law_359 : decode cL_law 359 = .ok (.iadd, 1) := by decide +kernel
theorem dL_law_360 : decode cL_law 360 = .ok (.iaload, 1) := by decide +kernel
theorem dL_law_361 : decode cL_law 361 = .ok (.invokevirtual 40, 3) := by decide +kernel
theorem dL_law_364 : decode cL_law 364 = .ok (.aload_n 2, 1) := by decide +kernel
theorem dL_law_365 : decode cL_law 365 = .ok (.aload_n 0, 1) := by decide +kernel
theorem dL_law_366 : decode cL_law 366 = .ok (.iload_n 3, 1) := by decide +kernel
theorem dL_law_367 : decode cL_law 367 = .ok (.iconst 1, 1) := by decide +kernel
theorem dL_law_368 : decode cL_law 368 = .ok (.iadd, 1) := by decide +kernel
theorem dL_law_369 : decode cL_law 369 = .ok (.iaload, 1) := by decide +kernel
theorem dL_law_370 : decode cL_law 370 = .ok (.aload_n 0, 1) := by decide +kernel
theorem dL_law_371 : decode cL_law 371 = .ok (.iload_n 3, 1) := by decide +kernel
theorem dL_law_372 : decode cL_law 372 = .ok (.iconst 2, 1) := by decide +kernel
theorem dL_law_373 : decode cL_law 373 = .ok (.iadd, 1) := by decide +kernel
theorem dL_law_374 : decode cL_law 374 = .ok (.iaload, 1) := by decide +kernel
theorem dL_law_375 : decode cL_law 375 = .ok (.invokevirtual 43, 3) := by decide +kernel
theorem dL_law_378 : decode cL_law 378 = .ok (.if_icmp .eq 1061, 3) := by decide +kernel
theorem dL_law_381 : decode cL_law 381 = .ok (.iconst 0, 1) := by decide +kernel
theorem dL_law_382 : decode cL_law 382 = .ok (.ireturn, 1) := by decide +kernel
theorem dL_law_383 : decode cL_law 383 = .ok (.aload_n 1, 1) := by decide +kernel
theorem dL_law_384 : decode cL_law 384 = .ok (.aload_n 0, 1) := by decide +kernel
theorem dL_law_385 : decode cL_law 385 = .ok (.iload_n 3, 1) := by decide +kernel
theorem dL_law_386 : decode cL_law 386 = .ok (.iconst 1, 1) := by decide +kernel
theorem dL_law_387 : decode cL_law 387 = .ok (.iadd, 1) := by decide +kernel
theorem dL_law_388 : decode cL_law 388 = .ok (.iaload, 1) := by decide +kernel
theorem dL_law_389 : decode cL_law 389 = .ok (.aload_n 0, 1) := by decide +kernel
theorem dL_law_390 : decode cL_law 390 = .ok (.iload_n 3, 1) := by decide +kernel
theorem dL_law_391 : decode cL_law 391 = .ok (.iconst 2, 1) := by decide +kernel
theorem dL_law_392 : decode cL_law 392 = .ok (.iadd, 1) := by decide +kernel
theorem dL_law_393 : decode cL_law 393 = .ok (.iaload, 1) := by decide +kernel
theorem dL_law_394 : decode cL_law 394 = .ok (.invokevirtual 44, 3) := by decide +kernel
theorem dL_law_397 : decode cL_law 397 = .ok (.aload_n 2, 1) := by decide +kernel
theorem dL_law_398 : decode cL_law 398 = .ok (.aload_n 0, 1) := by decide +kernel
theorem dL_law_399 : decode cL_law 399 = .ok (.iload_n 3, 1) := by decide +kernel
theorem dL_law_400 : decode cL_law 400 = .ok (.iconst 1, 1) := by decide +kernel
theorem dL_law_401 : decode cL_law 401 = .ok (.iadd, 1) := by decide +kernel
theorem dL_law_402 : decode cL_law 402 = .ok (.iaload, 1) := by decide +kernel
theorem dL_law_403 : decode cL_law 403 = .ok (.aload_n 0, 1) := by decide +kernel
theorem dL_law_404 : decode cL_law 404 = .ok (.iload_n 3, 1) := by decide +kernel
theorem dL_law_405 : decode cL_law 405 = .ok (.iconst 2, 1) := by decide +kernel
theorem dL_law_406 : decode cL_law 406 = .ok (.iadd, 1) := by decide +kernel
theorem dL_law_407 : decode cL_law 407 = .ok (.iaload, 1) := by decide +kernel
theorem dL_law_408 : decode cL_law 408 = .ok (.invokevirtual 47, 3) := by decide +kernel
theorem dL_law_411 : decode cL_law 411 = .ok (.if_icmp .eq 1028, 3) := by decide +kernel
theorem dL_law_414 : decode cL_law 414 = .ok (.iconst 0, 1) := by decide +kernel
theorem dL_law_415 : decode cL_law 415 = .ok (.ireturn, 1) := by decide +kernel
theorem dL_law_416 : decode cL_law 416 = .ok (.aload_n 1, 1) := by decide +kernel
theorem dL_law_417 : decode cL_law 417 = .ok (.aload_n 0, 1) := by decide +kernel
theorem dL_law_418 : decode cL_law 418 = .ok (.iload_n 3, 1) := by decide +kernel
theorem dL_law_419 : decode cL_law 419 = .ok (.iconst 1, 1) := by decide +kernel
theorem dL_law_420 : decode cL_law 420 = .ok (.iadd, 1) := by decide +kernel
theorem dL_law_421 : decode cL_law 421 = .ok (.iaload, 1) := by decide +kernel
theorem dL_law_422 : decode cL_law 422 = .ok (.invokevirtual 48, 3) := by decide +kernel
theorem dL_law_425 : decode cL_law 425 = .ok (.aload_n 2, 1) := by decide +kernel
theorem dL_law_426 : decode cL_law 426 = .ok (.aload_n 0, 1) := by decide +kernel
theorem dL_law_427 : decode cL_law 427 = .ok (.iload_n 3, 1) := by decide +kernel
theorem dL_law_428 : decode cL_law 428 = .ok (.iconst 1, 1) := by decide +kernel
theorem dL_law_429 : decode cL_law 429 = .ok (.iadd, 1) := by decide +kernel
theorem dL_law_430 : decode cL_law 430 = .ok (.iaload, 1) := by decide +kernel
theorem dL_law_431 : decode cL_law 431 = .ok (.invokevirtual 51, 3) := by decide +kernel
theorem dL_law_434 : decode cL_law 434 = .ok (.if_icmp .eq 1005, 3) := by decide +kernel
theorem dL_law_437 : decode cL_law 437 = .ok (.iconst 0, 1) := by decide +kernel
theorem dL_law_438 : decode cL_law 438 = .ok (.ireturn, 1) := by decide +kernel
theorem dL_law_439 : decode cL_law 439 = .ok (.aload_n 1, 1) := by decide +kernel
theorem dL_law_440 : decode cL_law 440 = .ok (.aload_n 0, 1) := by decide +kernel
theorem dL_law_441 : decode cL_law 441 = .ok (.iload_n 3, 1) := by decide +kernel
theorem dL_law_442 : decode cL_law 442 = .ok (.iconst 1, 1) := by decide +kernel
theorem dL_law_443 : decode cL_law 443 = .ok (.iadd, 1) := by decide +kernel
theorem dL_law_444 : decode cL_law 444 = .ok (.iaload, 1) := by decide +kernel
theorem dL_law_445 : decode cL_law 445 = .ok (.aload_n 0, 1) := by decide +kernel
theorem dL_law_446 : decode cL_law 446 = .ok (.iload_n 3, 1) := by decide +kernel
theorem dL_law_447 : decode cL_law 447 = .ok (.iconst 2, 1) := by decide +kernel
theorem dL_law_448 : decode cL_law 448 = .ok (.iadd, 1) := by decide +kernel
theorem dL_law_449 : decode cL_law 449 = .ok (.iaload, 1) := by decide +kernel
theorem dL_law_450 : decode cL_law 450 = .ok (.invokevirtual 52, 3) := by decide +kernel
theorem dL_law_453 : decode cL_law 453 = .ok (.aload_n 2, 1) := by decide +kernel
theorem dL_law_454 : decode cL_law 454 = .ok (.aload_n 0, 1) := by decide +kernel
theorem dL_law_455 : decode cL_law 455 = .ok (.iload_n 3, 1) := by decide +kernel
theorem dL_law_456 : decode cL_law 456 = .ok (.iconst 1, 1) := by decide +kernel
theorem dL_law_457 : decode cL_law 457 = .ok (.iadd, 1) := by decide +kernel
theorem dL_law_458 : decode cL_law 458 = .ok (.iaload, 1) := by decide +kernel
theorem dL_law_459 : decode cL_law 459 = .ok (.aload_n 0, 1) := by decide +kernel
theorem dL_law_460 : decode cL_law 460 = .ok (.iload_n 3, 1) := by decide +kernel
theorem dL_law_461 : decode cL_law 461 = .ok (.iconst 2, 1) := by decide +kernel
theorem dL_law_462 : decode cL_law 462 = .ok (.iadd, 1) := by decide +kernel
theorem dL_law_463 : decode cL_law 463 = .ok (.iaload, 1) := by decide +kernel
theorem dL_law_464 : decode cL_law 464 = .ok (.invokevirtual 55, 3) := by decide +kernel
theorem dL_law_467 : decode cL_law 467 = .ok (.if_icmp .eq 972, 3) := by decide +kernel
theorem dL_law_470 : decode cL_law 470 = .ok (.iconst 0, 1) := by decide +kernel
theorem dL_law_471 : decode cL_law 471 = .ok (.ireturn, 1) := by decide +kernel
theorem dL_law_472 : decode cL_law 472 = .ok (.aload_n 1, 1) := by decide +kernel
theorem dL_law_473 : decode cL_law 473 = .ok (.aload_n 0, 1) := by decide +kernel
theorem dL_law_474 : decode cL_law 474 = .ok (.iload_n 3, 1) := by decide +kernel
theorem dL_law_475 : decode cL_law 475 = .ok (.iconst 1, 1) := by decide +kernel
theorem dL_law_476 : decode cL_law 476 = .ok (.iadd, 1) := by decide +kernel
theorem dL_law_477 : decode cL_law 477 = .ok (.iaload, 1) := by decide +kernel
theorem dL_law_478 : decode cL_law 478 = .ok (.invokevirtual 56, 3) := by decide +kernel
theorem dL_law_481 : decode cL_law 481 = .ok (.aload_n 2, 1) := by decide +kernel
theorem dL_law_482 : decode cL_law 482 = .ok (.aload_n 0, 1) := by decide +kernel
theorem dL_law_483 : decode cL_law 483 = .ok (.iload_n 3, 1) := by decide +kernel
theorem dL_law_484 : decode cL_law 484 = .ok (.iconst 1, 1) := by decide +kernel
theorem dL_law_485 : decode cL_law 485 = .ok (.iadd, 1) := by decide +kernel
theorem dL_law_486 : decode cL_law 486 = .ok (.iaload, 1) := by decide +kernel
theorem dL_law_487 : decode cL_law 487 = .ok (.invokevirtual 59, 3) := by decide +kernel
theorem dL_law_490 : decode cL_law 490 = .ok (.if_icmp .eq 949, 3) := by decide +kernel
theorem dL_law_493 : decode cL_law 493 = .ok (.iconst 0, 1) := by decide +kernel
theorem dL_law_494 : decode cL_law 494 = .ok (.ireturn, 1) := by decide +kernel
theorem dL_law_495 : decode cL_law 495 = .ok (.aload_n 1, 1) := by decide +kernel
theorem dL_law_496 : decode cL_law 496 = .ok (.aload_n 0, 1) := by decide +kernel
theorem dL_law_497 : decode cL_law 497 = .ok (.iload_n 3, 1) := by decide +kernel
theorem dL_law_498 : decode cL_law 498 = .ok (.iconst 1, 1) := by decide +kernel
theorem dL_law_499 : decode cL_law 499 = .ok (.iadd, 1) := by decide +kernel
theorem dL_law_500 : decode cL_law 500 = .ok (.iaload, 1) := by decide +kernel
theorem dL_law_501 : decode cL_law 501 = .ok (.invokevirtual 60, 3) := by decide +kernel
theorem dL_law_504 : decode cL_law 504 = .ok (.aload_n 2, 1) := by decide +kernel
theorem dL_law_505 : decode cL_law 505 = .ok (.aload_n 0, 1) := by decide +kernel
theorem dL_law_506 : decode cL_law 506 = .ok (.iload_n 3, 1) := by decide +kernel
theorem dL_law_507 : decode cL_law 507 = .ok (.iconst 1, 1) := by decide +kernel
theorem dL_law_508 : decode cL_law 508 = .ok (.iadd, 1) := by decide +kernel
theorem dL_law_509 : decode cL_law 509 = .ok (.iaload, 1) := by decide +kernel
theorem dL_law_510 : decode cL_law 510 = .ok (.invokevirtual 63, 3) := by decide +kernel
theorem dL_law_513 : decode cL_law 513 = .ok (.if_icmp .eq 926, 3) := by decide +kernel
theorem dL_law_516 : decode cL_law 516 = .ok (.iconst 0, 1) := by decide +kernel
theorem dL_law_517 : decode cL_law 517 = .ok (.ireturn, 1) := by decide +kernel
theorem dL_law_518 : decode cL_law 518 = .ok (.aload_n 1, 1) := by decide +kernel
theorem dL_law_519 : decode cL_law 519 = .ok (.aload_n 0, 1) := by decide +kernel
theorem dL_law_520 : decode cL_law 520 = .ok (.iload_n 3, 1) := by decide +kernel
theorem dL_law_521 : decode cL_law 521 = .ok (.iconst 1, 1) := by decide +kernel
theorem dL_law_522 : decode cL_law 522 = .ok (.iadd, 1) := by decide +kernel
theorem dL_law_523 : decode cL_law 523 = .ok (.iaload, 1) := by decide +kernel
theorem dL_law_524 : decode cL_law 524 = .ok (.aload_n 0, 1) := by decide +kernel
theorem dL_law_525 : decode cL_law 525 = .ok (.iload_n 3, 1) := by decide +kernel
theorem dL_law_526 : decode cL_law 526 = .ok (.iconst 2, 1) := by decide +kernel
theorem dL_law_527 : decode cL_law 527 = .ok (.iadd, 1) := by decide +kernel
theorem dL_law_528 : decode cL_law 528 = .ok (.iaload, 1) := by decide +kernel
theorem dL_law_529 : decode cL_law 529 = .ok (.invokevirtual 64, 3) := by decide +kernel
theorem dL_law_532 : decode cL_law 532 = .ok (.aload_n 2, 1) := by decide +kernel
theorem dL_law_533 : decode cL_law 533 = .ok (.aload_n 0, 1) := by decide +kernel
theorem dL_law_534 : decode cL_law 534 = .ok (.iload_n 3, 1) := by decide +kernel
theorem dL_law_535 : decode cL_law 535 = .ok (.iconst 1, 1) := by decide +kernel
theorem dL_law_536 : decode cL_law 536 = .ok (.iadd, 1) := by decide +kernel
theorem dL_law_537 : decode cL_law 537 = .ok (.iaload, 1) := by decide +kernel
theorem dL_law_538 : decode cL_law 538 = .ok (.aload_n 0, 1) := by decide +kernel
theorem dL_law_539 : decode cL_law 539 = .ok (.iload_n 3, 1) := by decide +kernel
theorem dL_law_540 : decode cL_law 540 = .ok (.iconst 2, 1) := by decide +kernel
theorem dL_law_541 : decode cL_law 541 = .ok (.iadd, 1) := by decide +kernel
theorem dL_law_542 : decode cL_law 542 = .ok (.iaload, 1) := by decide +kernel
theorem dL_law_543 : decode cL_law 543 = .ok (.invokevirtual 67, 3) := by decide +kernel
theorem dL_law_546 : decode cL_law 546 = .ok (.if_icmp .eq 893, 3) := by decide +kernel
theorem dL_law_549 : decode cL_law 549 = .ok (.iconst 0, 1) := by decide +kernel
theorem dL_law_550 : decode cL_law 550 = .ok (.ireturn, 1) := by decide +kernel
theorem dL_law_551 : decode cL_law 551 = .ok (.aload_n 1, 1) := by decide +kernel
theorem dL_law_552 : decode cL_law 552 = .ok (.aload_n 0, 1) := by decide +kernel
theorem dL_law_553 : decode cL_law 553 = .ok (.iload_n 3, 1) := by decide +kernel
theorem dL_law_554 : decode cL_law 554 = .ok (.iconst 1, 1) := by decide +kernel
theorem dL_law_555 : decode cL_law 555 = .ok (.iadd, 1) := by decide +kernel
theorem dL_law_556 : decode cL_law 556 = .ok (.iaload, 1) := by decide +kernel
theorem dL_law_557 : decode cL_law 557 = .ok (.aload_n 0, 1) := by decide +kernel
theorem dL_law_558 : decode cL_law 558 = .ok (.iload_n 3, 1) := by decide +kernel
theorem dL_law_559 : decode cL_law 559 = .ok (.iconst 2, 1) := by decide +kernel
theorem dL_law_560 : decode cL_law 560 = .ok (.iadd, 1) := by decide +kernel
theorem dL_law_561 : decode cL_law 561 = .ok (.iaload, 1) := by decide +kernel
theorem dL_law_562 : decode cL_law 562 = .ok (.aload_n 0, 1) := by decide +kernel
theorem dL_law_563 : decode cL_law 563 = .ok (.iload_n 3, 1) := by decide +kernel
theorem dL_law_564 : decode cL_law 564 = .ok (.iconst 3, 1) := by decide +kernel
theorem dL_law_565 : decode cL_law 565 = .ok (.iadd, 1) := by decide +kernel
theorem dL_law_566 : decode cL_law 566 = .ok (.iaload, 1) := by decide +kernel
theorem dL_law_567 : decode cL_law 567 = .ok (.invokevirtual 68, 3) := by decide +kernel
theorem dL_law_570 : decode cL_law 570 = .ok (.aload_n 2, 1) := by decide +kernel
theorem dL_law_571 : decode cL_law 571 = .ok (.aload_n 0, 1) := by decide +kernel
theorem dL_law_572 : decode cL_law 572 = .ok (.iload_n 3, 1) := by decide +kernel
theorem dL_law_573 : decode cL_law 573 = .ok (.iconst 1, 1) := by decide +kernel
theorem dL_law_574 : decode cL_law 574 = .ok (.iadd, 1) := by decide +kernel
theorem dL_law_575 : decode cL_law 575 = .ok (.iaload, 1) := by decide +kernel
theorem dL_law_576 : decode cL_law 576 = .ok (.aload_n 0, 1) := by decide +kernel
theorem dL_law_577 : decode cL_law 577 = .ok (.iload_n 3, 1) := by decide +kernel
theorem dL_law_578 : decode cL_law 578 = .ok (.iconst 2, 1) := by decide +kernel
theorem dL_law_579 : decode cL_law 579 = .ok (.iadd, 1) := by decide +kernel
theorem dL_law_580 : decode cL_law 580 = .ok (.iaload, 1) := by decide +kernel
theorem dL_law_581 : decode cL_law 581 = .ok (.aload_n 0, 1) := by decide +kernel
theorem dL_law_582 : decode cL_law 582 = .ok (.iload_n 3, 1) := by decide +kernel
theorem dL_law_583 : decode cL_law 583 = .ok (.iconst 3, 1) := by decide +kernel
theorem dL_law_584 : decode cL_law 584 = .ok (.iadd, 1) := by decide +kernel
theorem dL_law_585 : decode cL_law 585 = .ok (.iaload, 1) := by decide +kernel
theorem dL_law_586 : decode cL_law 586 = .ok (.invokevirtual 72, 3) := by decide +kernel
theorem dL_law_589 : decode cL_law 589 = .ok (.if_icmp .eq 850, 3) := by decide +kernel
theorem dL_law_592 : decode cL_law 592 = .ok (.iconst 0, 1) := by decide +kernel
theorem dL_law_593 : decode cL_law 593 = .ok (.ireturn, 1) := by decide +kernel
theorem dL_law_594 : decode cL_law 594 = .ok (.aload_n 1, 1) := by decide +kernel
theorem dL_law_595 : decode cL_law 595 = .ok (.aload_n 0, 1) := by decide +kernel
theorem dL_law_596 : decode cL_law 596 = .ok (.iload_n 3, 1) := by decide +kernel
theorem dL_law_597 : decode cL_law 597 = .ok (.iconst 1, 1) := by decide +kernel
theorem dL_law_598 : decode cL_law 598 = .ok (.iadd, 1) := by decide +kernel
theorem dL_law_599 : decode cL_law 599 = .ok (.iaload, 1) := by decide +kernel
theorem dL_law_600 : decode cL_law 600 = .ok (.aload_n 0, 1) := by decide +kernel
theorem dL_law_601 : decode cL_law 601 = .ok (.iload_n 3, 1) := by decide +kernel
theorem dL_law_602 : decode cL_law 602 = .ok (.iconst 2, 1) := by decide +kernel
theorem dL_law_603 : decode cL_law 603 = .ok (.iadd, 1) := by decide +kernel
theorem dL_law_604 : decode cL_law 604 = .ok (.iaload, 1) := by decide +kernel
theorem dL_law_605 : decode cL_law 605 = .ok (.invokevirtual 73, 3) := by decide +kernel
theorem dL_law_608 : decode cL_law 608 = .ok (.aload_n 2, 1) := by decide +kernel
theorem dL_law_609 : decode cL_law 609 = .ok (.aload_n 0, 1) := by decide +kernel
theorem dL_law_610 : decode cL_law 610 = .ok (.iload_n 3, 1) := by decide +kernel
theorem dL_law_611 : decode cL_law 611 = .ok (.iconst 1, 1) := by decide +kernel
theorem dL_law_612 : decode cL_law 612 = .ok (.iadd, 1) := by decide +kernel
theorem dL_law_613 : decode cL_law 613 = .ok (.iaload, 1) := by decide +kernel
theorem dL_law_614 : decode cL_law 614 = .ok (.aload_n 0, 1) := by decide +kernel
theorem dL_law_615 : decode cL_law 615 = .ok (.iload_n 3, 1) := by decide +kernel
theorem dL_law_616 : decode cL_law 616 = .ok (.iconst 2, 1) := by decide +kernel
theorem dL_law_617 : decode cL_law 617 = .ok (.iadd, 1) := by decide +kernel
theorem dL_law_618 : decode cL_law 618 = .ok (.iaload, 1) := by decide +kernel
theorem dL_law_619 : decode cL_law 619 = .ok (.invokevirtual 76, 3) := by decide +kernel
theorem dL_law_622 : decode cL_law 622 = .ok (.if_icmp .eq 817, 3) := by decide +kernel
theorem dL_law_625 : decode cL_law 625 = .ok (.iconst 0, 1) := by decide +kernel
theorem dL_law_626 : decode cL_law 626 = .ok (.ireturn, 1) := by decide +kernel
theorem dL_law_627 : decode cL_law 627 = .ok (.aload_n 1, 1) := by decide +kernel
theorem dL_law_628 : decode cL_law 628 = .ok (.aload_n 0, 1) := by decide +kernel
theorem dL_law_629 : decode cL_law 629 = .ok (.iload_n 3, 1) := by decide +kernel
theorem dL_law_630 : decode cL_law 630 = .ok (.iconst 1, 1) := by decide +kernel
theorem dL_law_631 : decode cL_law 631 = .ok (.iadd, 1) := by decide +kernel
theorem dL_law_632 : decode cL_law 632 = .ok (.iaload, 1) := by decide +kernel
theorem dL_law_633 : decode cL_law 633 = .ok (.aload_n 0, 1) := by decide +kernel
theorem dL_law_634 : decode cL_law 634 = .ok (.iload_n 3, 1) := by decide +kernel
theorem dL_law_635 : decode cL_law 635 = .ok (.iconst 2, 1) := by decide +kernel
theorem dL_law_636 : decode cL_law 636 = .ok (.iadd, 1) := by decide +kernel
theorem dL_law_637 : decode cL_law 637 = .ok (.iaload, 1) := by decide +kernel
theorem dL_law_638 : decode cL_law 638 = .ok (.aload_n 0, 1) := by decide +kernel
theorem dL_law_639 : decode cL_law 639 = .ok (.iload_n 3, 1) := by decide +kernel
theorem dL_law_640 : decode cL_law 640 = .ok (.iconst 3, 1) := by decide +kernel
theorem dL_law_641 : decode cL_law 641 = .ok (.iadd, 1) := by decide +kernel
theorem dL_law_642 : decode cL_law 642 = .ok (.iaload, 1) := by decide +kernel
theorem dL_law_643 : decode cL_law 643 = .ok (.aload_n 0, 1) := by decide +kernel
theorem dL_law_644 : decode cL_law 644 = .ok (.iload_n 3, 1) := by decide +kernel
theorem dL_law_645 : decode cL_law 645 = .ok (.iconst 4, 1) := by decide +kernel
theorem dL_law_646 : decode cL_law 646 = .ok (.iadd, 1) := by decide +kernel
theorem dL_law_647 : decode cL_law 647 = .ok (.iaload, 1) := by decide +kernel
theorem dL_law_648 : decode cL_law 648 = .ok (.aload_n 0, 1) := by decide +kernel
theorem dL_law_649 : decode cL_law 649 = .ok (.iload_n 3, 1) := by decide +kernel
theorem dL_law_650 : decode cL_law 650 = .ok (.iconst 5, 1) := by decide +kernel
theorem dL_law_651 : decode cL_law 651 = .ok (.iadd, 1) := by decide +kernel
theorem dL_law_652 : decode cL_law 652 = .ok (.iaload, 1) := by decide +kernel
theorem dL_law_653 : decode cL_law 653 = .ok (.invokevirtual 77, 3) := by decide +kernel
theorem dL_law_656 : decode cL_law 656 = .ok (.aload_n 2, 1) := by decide +kernel
theorem dL_law_657 : decode cL_law 657 = .ok (.aload_n 0, 1) := by decide +kernel
theorem dL_law_658 : decode cL_law 658 = .ok (.iload_n 3, 1) := by decide +kernel
theorem dL_law_659 : decode cL_law 659 = .ok (.iconst 1, 1) := by decide +kernel
theorem dL_law_660 : decode cL_law 660 = .ok (.iadd, 1) := by decide +kernel
theorem dL_law_661 : decode cL_law 661 = .ok (.iaload, 1) := by decide +kernel
theorem dL_law_662 : decode cL_law 662 = .ok (.aload_n 0, 1) := by decide +kernel
theorem dL_law_663 : decode cL_law 663 = .ok (.iload_n 3, 1) := by decide +kernel
theorem dL_law_664 : decode cL_law 664 = .ok (.iconst 2, 1) := by decide +kernel
theorem dL_law_665 : decode cL_law 665 = .ok (.iadd, 1) := by decide +kernel
theorem dL_law_666 : decode cL_law 666 = .ok (.iaload, 1) := by decide +kernel
theorem dL_law_667 : decode cL_law 667 = .ok (.aload_n 0, 1) := by decide +kernel
theorem dL_law_668 : decode cL_law 668 = .ok (.iload_n 3, 1) := by decide +kernel
theorem dL_law_669 : decode cL_law 669 = .ok (.iconst 3, 1) := by decide +kernel
theorem dL_law_670 : decode cL_law 670 = .ok (.iadd, 1) := by decide +kernel
theorem dL_law_671 : decode cL_law 671 = .ok (.iaload, 1) := by decide +kernel
theorem dL_law_672 : decode cL_law 672 = .ok (.aload_n 0, 1) := by decide +kernel
theorem dL_law_673 : decode cL_law 673 = .ok (.iload_n 3, 1) := by decide +kernel
theorem dL_law_674 : decode cL_law 674 = .ok (.iconst 4, 1) := by decide +kernel
theorem dL_law_675 : decode cL_law 675 = .ok (.iadd, 1) := by decide +kernel
theorem dL_law_676 : decode cL_law 676 = .ok (.iaload, 1) := by decide +kernel
theorem dL_law_677 : decode cL_law 677 = .ok (.aload_n 0, 1) := by decide +kernel
theorem dL_law_678 : decode cL_law 678 = .ok (.iload_n 3, 1) := by decide +kernel
theorem dL_law_679 : decode cL_law 679 = .ok (.iconst 5, 1) := by decide +kernel
theorem dL_law_680 : decode cL_law 680 = .ok (.iadd, 1) := by decide +kernel
theorem dL_law_681 : decode cL_law 681 = .ok (.iaload, 1) := by decide +kernel
theorem dL_law_682 : decode cL_law 682 = .ok (.invokevirtual 81, 3) := by decide +kernel
theorem dL_law_685 : decode cL_law 685 = .ok (.if_icmp .eq 754, 3) := by decide +kernel
theorem dL_law_688 : decode cL_law 688 = .ok (.iconst 0, 1) := by decide +kernel
theorem dL_law_689 : decode cL_law 689 = .ok (.ireturn, 1) := by decide +kernel
theorem dL_law_690 : decode cL_law 690 = .ok (.aload_n 1, 1) := by decide +kernel
theorem dL_law_691 : decode cL_law 691 = .ok (.aload_n 0, 1) := by decide +kernel
theorem dL_law_692 : decode cL_law 692 = .ok (.iload_n 3, 1) := by decide +kernel
theorem dL_law_693 : decode cL_law 693 = .ok (.iconst 1, 1) := by decide +kernel
theorem dL_law_694 : decode cL_law 694 = .ok (.iadd, 1) := by decide +kernel
theorem dL_law_695 : decode cL_law 695 = .ok (.iaload, 1) := by decide +kernel
theorem dL_law_696 : decode cL_law 696 = .ok (.aload_n 0, 1) := by decide +kernel
theorem dL_law_697 : decode cL_law 697 = .ok (.iload_n 3, 1) := by decide +kernel
theorem dL_law_698 : decode cL_law 698 = .ok (.iconst 2, 1) := by decide +kernel
theorem dL_law_699 : decode cL_law 699 = .ok (.iadd, 1) := by decide +kernel
theorem dL_law_700 : decode cL_law 700 = .ok (.iaload, 1) := by decide +kernel
theorem dL_law_701 : decode cL_law 701 = .ok (.aload_n 0, 1) := by decide +kernel
theorem dL_law_702 : decode cL_law 702 = .ok (.iload_n 3, 1) := by decide +kernel
theorem dL_law_703 : decode cL_law 703 = .ok (.iconst 3, 1) := by decide +kernel
theorem dL_law_704 : decode cL_law 704 = .ok (.iadd, 1) := by decide +kernel
theorem dL_law_705 : decode cL_law 705 = .ok (.iaload, 1) := by decide +kernel
theorem dL_law_706 : decode cL_law 706 = .ok (.invokevirtual 82, 3) := by decide +kernel
theorem dL_law_709 : decode cL_law 709 = .ok (.aload_n 2, 1) := by decide +kernel
theorem dL_law_710 : decode cL_law 710 = .ok (.aload_n 0, 1) := by decide +kernel
theorem dL_law_711 : decode cL_law 711 = .ok (.iload_n 3, 1) := by decide +kernel
theorem dL_law_712 : decode cL_law 712 = .ok (.iconst 1, 1) := by decide +kernel
theorem dL_law_713 : decode cL_law 713 = .ok (.iadd, 1) := by decide +kernel
theorem dL_law_714 : decode cL_law 714 = .ok (.iaload, 1) := by decide +kernel
theorem dL_law_715 : decode cL_law 715 = .ok (.aload_n 0, 1) := by decide +kernel
theorem dL_law_716 : decode cL_law 716 = .ok (.iload_n 3, 1) := by decide +kernel
theorem dL_law_717 : decode cL_law 717 = .ok (.iconst 2, 1) := by decide +kernel
theorem dL_law_718 : decode cL_law 718 = .ok (.iadd, 1) := by decide +kernel
theorem dL_law_719 : decode cL_law 719 = .ok (.iaload, 1) := by decide +kernel
theorem dL_law_720 : decode cL_law 720 = .ok (.aload_n 0, 1) := by decide +kernel
theorem dL_law_721 : decode cL_law 721 = .ok (.iload_n 3, 1) := by decide +kernel
theorem dL_law_722 : decode cL_law 722 = .ok (.iconst 3, 1) := by decide +kernel
theorem dL_law_723 : decode cL_law 723 = .ok (.iadd, 1) := by decide +kernel
theorem dL_law_724 : decode cL_law 724 = .ok (.iaload, 1) := by decide +kernel
theorem dL_law_725 : decode cL_law 725 = .ok (.invokevirtual 85, 3) := by decide +kernel
theorem dL_law_728 : decode cL_law 728 = .ok (.if_icmp .eq 711, 3) := by decide +kernel
theorem dL_law_731 : decode cL_law 731 = .ok (.iconst 0, 1) := by decide +kernel
theorem dL_law_732 : decode cL_law 732 = .ok (.ireturn, 1) := by decide +kernel
theorem dL_law_733 : decode cL_law 733 = .ok (.aload_n 1, 1) := by decide +kernel
theorem dL_law_734 : decode cL_law 734 = .ok (.aload_n 0, 1) := by decide +kernel
theorem dL_law_735 : decode cL_law 735 = .ok (.iload_n 3, 1) := by decide +kernel
theorem dL_law_736 : decode cL_law 736 = .ok (.iconst 1, 1) := by decide +kernel
theorem dL_law_737 : decode cL_law 737 = .ok (.iadd, 1) := by decide +kernel
theorem dL_law_738 : decode cL_law 738 = .ok (.iaload, 1) := by decide +kernel
theorem dL_law_739 : decode cL_law 739 = .ok (.invokevirtual 86, 3) := by decide +kernel
theorem dL_law_742 : decode cL_law 742 = .ok (.aload_n 2, 1) := by decide +kernel
theorem dL_law_743 : decode cL_law 743 = .ok (.aload_n 0, 1) := by decide +kernel
theorem dL_law_744 : decode cL_law 744 = .ok (.iload_n 3, 1) := by decide +kernel
theorem dL_law_745 : decode cL_law 745 = .ok (.iconst 1, 1) := by decide +kernel
theorem dL_law_746 : decode cL_law 746 = .ok (.iadd, 1) := by decide +kernel
theorem dL_law_747 : decode cL_law 747 = .ok (.iaload, 1) := by decide +kernel
theorem dL_law_748 : decode cL_law 748 = .ok (.invokevirtual 89, 3) := by decide +kernel
theorem dL_law_751 : decode cL_law 751 = .ok (.if_icmp .eq 688, 3) := by decide +kernel
theorem dL_law_754 : decode cL_law 754 = .ok (.iconst 0, 1) := by decide +kernel
theorem dL_law_755 : decode cL_law 755 = .ok (.ireturn, 1) := by decide +kernel
theorem dL_law_756 : decode cL_law 756 = .ok (.aload_n 1, 1) := by decide +kernel
theorem dL_law_757 : decode cL_law 757 = .ok (.aload_n 0, 1) := by decide +kernel
theorem dL_law_758 : decode cL_law 758 = .ok (.iload_n 3, 1) := by decide +kernel
theorem dL_law_759 : decode cL_law 759 = .ok (.iconst 1, 1) := by decide +kernel
theorem dL_law_760 : decode cL_law 760 = .ok (.iadd, 1) := by decide +kernel
theorem dL_law_761 : decode cL_law 761 = .ok (.iaload, 1) := by decide +kernel
theorem dL_law_762 : decode cL_law 762 = .ok (.aload_n 0, 1) := by decide +kernel
theorem dL_law_763 : decode cL_law 763 = .ok (.iload_n 3, 1) := by decide +kernel
theorem dL_law_764 : decode cL_law 764 = .ok (.iconst 2, 1) := by decide +kernel
theorem dL_law_765 : decode cL_law 765 = .ok (.iadd, 1) := by decide +kernel
theorem dL_law_766 : decode cL_law 766 = .ok (.iaload, 1) := by decide +kernel
theorem dL_law_767 : decode cL_law 767 = .ok (.aload_n 0, 1) := by decide +kernel
theorem dL_law_768 : decode cL_law 768 = .ok (.iload_n 3, 1) := by decide +kernel
theorem dL_law_769 : decode cL_law 769 = .ok (.iconst 3, 1) := by decide +kernel
theorem dL_law_770 : decode cL_law 770 = .ok (.iadd, 1) := by decide +kernel
theorem dL_law_771 : decode cL_law 771 = .ok (.iaload, 1) := by decide +kernel
theorem dL_law_772 : decode cL_law 772 = .ok (.invokevirtual 90, 3) := by decide +kernel
theorem dL_law_775 : decode cL_law 775 = .ok (.aload_n 2, 1) := by decide +kernel
theorem dL_law_776 : decode cL_law 776 = .ok (.aload_n 0, 1) := by decide +kernel
theorem dL_law_777 : decode cL_law 777 = .ok (.iload_n 3, 1) := by decide +kernel
theorem dL_law_778 : decode cL_law 778 = .ok (.iconst 1, 1) := by decide +kernel
theorem dL_law_779 : decode cL_law 779 = .ok (.iadd, 1) := by decide +kernel
theorem dL_law_780 : decode cL_law 780 = .ok (.iaload, 1) := by decide +kernel
theorem dL_law_781 : decode cL_law 781 = .ok (.aload_n 0, 1) := by decide +kernel
theorem dL_law_782 : decode cL_law 782 = .ok (.iload_n 3, 1) := by decide +kernel
theorem dL_law_783 : decode cL_law 783 = .ok (.iconst 2, 1) := by decide +kernel
theorem dL_law_784 : decode cL_law 784 = .ok (.iadd, 1) := by decide +kernel
theorem dL_law_785 : decode cL_law 785 = .ok (.iaload, 1) := by decide +kernel
theorem dL_law_786 : decode cL_law 786 = .ok (.aload_n 0, 1) := by decide +kernel
theorem dL_law_787 : decode cL_law 787 = .ok (.iload_n 3, 1) := by decide +kernel
theorem dL_law_788 : decode cL_law 788 = .ok (.iconst 3, 1) := by decide +kernel
theorem dL_law_789 : decode cL_law 789 = .ok (.iadd, 1) := by decide +kernel
theorem dL_law_790 : decode cL_law 790 = .ok (.iaload, 1) := by decide +kernel
theorem dL_law_791 : decode cL_law 791 = .ok (.invokevirtual 93, 3) := by decide +kernel
theorem dL_law_794 : decode cL_law 794 = .ok (.if_icmp .eq 645, 3) := by decide +kernel
theorem dL_law_797 : decode cL_law 797 = .ok (.iconst 0, 1) := by decide +kernel
theorem dL_law_798 : decode cL_law 798 = .ok (.ireturn, 1) := by decide +kernel
theorem dL_law_799 : decode cL_law 799 = .ok (.aload_n 1, 1) := by decide +kernel
theorem dL_law_800 : decode cL_law 800 = .ok (.aload_n 0, 1) := by decide +kernel
theorem dL_law_801 : decode cL_law 801 = .ok (.iload_n 3, 1) := by decide +kernel
theorem dL_law_802 : decode cL_law 802 = .ok (.iconst 1, 1) := by decide +kernel
theorem dL_law_803 : decode cL_law 803 = .ok (.iadd, 1) := by decide +kernel
theorem dL_law_804 : decode cL_law 804 = .ok (.iaload, 1) := by decide +kernel
theorem dL_law_805 : decode cL_law 805 = .ok (.invokevirtual 94, 3) := by decide +kernel
theorem dL_law_808 : decode cL_law 808 = .ok (.aload_n 2, 1) := by decide +kernel
theorem dL_law_809 : decode cL_law 809 = .ok (.aload_n 0, 1) := by decide +kernel
theorem dL_law_810 : decode cL_law 810 = .ok (.iload_n 3, 1) := by decide +kernel
theorem dL_law_811 : decode cL_law 811 = .ok (.iconst 1, 1) := by decide +kernel
theorem dL_law_812 : decode cL_law 812 = .ok (.iadd, 1) := by decide +kernel
theorem dL_law_813 : decode cL_law 813 = .ok (.iaload, 1) := by decide +kernel
theorem dL_law_814 : decode cL_law 814 = .ok (.invokevirtual 97, 3) := by decide +kernel
theorem dL_law_817 : decode cL_law 817 = .ok (.if_icmp .eq 622, 3) := by decide +kernel
theorem dL_law_820 : decode cL_law 820 = .ok (.iconst 0, 1) := by decide +kernel
theorem dL_law_821 : decode cL_law 821 = .ok (.ireturn, 1) := by decide +kernel
theorem dL_law_822 : decode cL_law 822 = .ok (.aload_n 1, 1) := by decide +kernel
theorem dL_law_823 : decode cL_law 823 = .ok (.aload_n 0, 1) := by decide +kernel
theorem dL_law_824 : decode cL_law 824 = .ok (.iload_n 3, 1) := by decide +kernel
theorem dL_law_825 : decode cL_law 825 = .ok (.iconst 1, 1) := by decide +kernel
theorem dL_law_826 : decode cL_law 826 = .ok (.iadd, 1) := by decide +kernel
theorem dL_law_827 : decode cL_law 827 = .ok (.iaload, 1) := by decide +kernel
theorem dL_law_828 : decode cL_law 828 = .ok (.aload_n 0, 1) := by decide +kernel
theorem dL_law_829 : decode cL_law 829 = .ok (.iload_n 3, 1) := by decide +kernel
theorem dL_law_830 : decode cL_law 830 = .ok (.iconst 2, 1) := by decide +kernel
theorem dL_law_831 : decode cL_law 831 = .ok (.iadd, 1) := by decide +kernel
theorem dL_law_832 : decode cL_law 832 = .ok (.iaload, 1) := by decide +kernel
theorem dL_law_833 : decode cL_law 833 = .ok (.invokevirtual 98, 3) := by decide +kernel
theorem dL_law_836 : decode cL_law 836 = .ok (.aload_n 2, 1) := by decide +kernel
theorem dL_law_837 : decode cL_law 837 = .ok (.aload_n 0, 1) := by decide +kernel
theorem dL_law_838 : decode cL_law 838 = .ok (.iload_n 3, 1) := by decide +kernel
theorem dL_law_839 : decode cL_law 839 = .ok (.iconst 1, 1) := by decide +kernel
theorem dL_law_840 : decode cL_law 840 = .ok (.iadd, 1) := by decide +kernel
theorem dL_law_841 : decode cL_law 841 = .ok (.iaload, 1) := by decide +kernel
theorem dL_law_842 : decode cL_law 842 = .ok (.aload_n 0, 1) := by decide +kernel
theorem dL_law_843 : decode cL_law 843 = .ok (.iload_n 3, 1) := by decide +kernel
theorem dL_law_844 : decode cL_law 844 = .ok (.iconst 2, 1) := by decide +kernel
theorem dL_law_845 : decode cL_law 845 = .ok (.iadd, 1) := by decide +kernel
theorem dL_law_846 : decode cL_law 846 = .ok (.iaload, 1) := by decide +kernel
theorem dL_law_847 : decode cL_law 847 = .ok (.invokevirtual 101, 3) := by decide +kernel
theorem dL_law_850 : decode cL_law 850 = .ok (.if_icmp .eq 589, 3) := by decide +kernel
theorem dL_law_853 : decode cL_law 853 = .ok (.iconst 0, 1) := by decide +kernel
theorem dL_law_854 : decode cL_law 854 = .ok (.ireturn, 1) := by decide +kernel
theorem dL_law_855 : decode cL_law 855 = .ok (.aload_n 1, 1) := by decide +kernel
theorem dL_law_856 : decode cL_law 856 = .ok (.aload_n 0, 1) := by decide +kernel
theorem dL_law_857 : decode cL_law 857 = .ok (.iload_n 3, 1) := by decide +kernel
theorem dL_law_858 : decode cL_law 858 = .ok (.iconst 1, 1) := by decide +kernel
theorem dL_law_859 : decode cL_law 859 = .ok (.iadd, 1) := by decide +kernel
theorem dL_law_860 : decode cL_law 860 = .ok (.iaload, 1) := by decide +kernel
theorem dL_law_861 : decode cL_law 861 = .ok (.aload_n 0, 1) := by decide +kernel
theorem dL_law_862 : decode cL_law 862 = .ok (.iload_n 3, 1) := by decide +kernel
theorem dL_law_863 : decode cL_law 863 = .ok (.iconst 2, 1) := by decide +kernel
theorem dL_law_864 : decode cL_law 864 = .ok (.iadd, 1) := by decide +kernel
theorem dL_law_865 : decode cL_law 865 = .ok (.iaload, 1) := by decide +kernel
theorem dL_law_866 : decode cL_law 866 = .ok (.invokevirtual 102, 3) := by decide +kernel
theorem dL_law_869 : decode cL_law 869 = .ok (.aload_n 2, 1) := by decide +kernel
theorem dL_law_870 : decode cL_law 870 = .ok (.aload_n 0, 1) := by decide +kernel
theorem dL_law_871 : decode cL_law 871 = .ok (.iload_n 3, 1) := by decide +kernel
theorem dL_law_872 : decode cL_law 872 = .ok (.iconst 1, 1) := by decide +kernel
theorem dL_law_873 : decode cL_law 873 = .ok (.iadd, 1) := by decide +kernel
theorem dL_law_874 : decode cL_law 874 = .ok (.iaload, 1) := by decide +kernel
theorem dL_law_875 : decode cL_law 875 = .ok (.aload_n 0, 1) := by decide +kernel
theorem dL_law_876 : decode cL_law 876 = .ok (.iload_n 3, 1) := by decide +kernel
theorem dL_law_877 : decode cL_law 877 = .ok (.iconst 2, 1) := by decide +kernel
theorem dL_law_878 : decode cL_law 878 = .ok (.iadd, 1) := by decide +kernel
theorem dL_law_879 : decode cL_law 879 = .ok (.iaload, 1) := by decide +kernel
theorem dL_law_880 : decode cL_law 880 = .ok (.invokevirtual 105, 3) := by decide +kernel
theorem dL_law_883 : decode cL_law 883 = .ok (.if_icmp .eq 556, 3) := by decide +kernel
theorem dL_law_886 : decode cL_law 886 = .ok (.iconst 0, 1) := by decide +kernel
theorem dL_law_887 : decode cL_law 887 = .ok (.ireturn, 1) := by decide +kernel
theorem dL_law_888 : decode cL_law 888 = .ok (.aload_n 1, 1) := by decide +kernel
theorem dL_law_889 : decode cL_law 889 = .ok (.invokevirtual 106, 3) := by decide +kernel
theorem dL_law_892 : decode cL_law 892 = .ok (.aload_n 2, 1) := by decide +kernel
theorem dL_law_893 : decode cL_law 893 = .ok (.invokevirtual 109, 3) := by decide +kernel
theorem dL_law_896 : decode cL_law 896 = .ok (.if_icmp .eq 543, 3) := by decide +kernel
theorem dL_law_899 : decode cL_law 899 = .ok (.iconst 0, 1) := by decide +kernel
theorem dL_law_900 : decode cL_law 900 = .ok (.ireturn, 1) := by decide +kernel
theorem dL_law_901 : decode cL_law 901 = .ok (.aload_n 1, 1) := by decide +kernel
theorem dL_law_902 : decode cL_law 902 = .ok (.aload_n 0, 1) := by decide +kernel
theorem dL_law_903 : decode cL_law 903 = .ok (.iload_n 3, 1) := by decide +kernel
theorem dL_law_904 : decode cL_law 904 = .ok (.iconst 1, 1) := by decide +kernel
theorem dL_law_905 : decode cL_law 905 = .ok (.iadd, 1) := by decide +kernel
theorem dL_law_906 : decode cL_law 906 = .ok (.iaload, 1) := by decide +kernel
theorem dL_law_907 : decode cL_law 907 = .ok (.aload_n 0, 1) := by decide +kernel
theorem dL_law_908 : decode cL_law 908 = .ok (.iload_n 3, 1) := by decide +kernel
theorem dL_law_909 : decode cL_law 909 = .ok (.iconst 2, 1) := by decide +kernel
theorem dL_law_910 : decode cL_law 910 = .ok (.iadd, 1) := by decide +kernel
theorem dL_law_911 : decode cL_law 911 = .ok (.iaload, 1) := by decide +kernel
theorem dL_law_912 : decode cL_law 912 = .ok (.invokevirtual 110, 3) := by decide +kernel
theorem dL_law_915 : decode cL_law 915 = .ok (.aload_n 2, 1) := by decide +kernel
theorem dL_law_916 : decode cL_law 916 = .ok (.aload_n 0, 1) := by decide +kernel
theorem dL_law_917 : decode cL_law 917 = .ok (.iload_n 3, 1) := by decide +kernel
theorem dL_law_918 : decode cL_law 918 = .ok (.iconst 1, 1) := by decide +kernel
theorem dL_law_919 : decode cL_law 919 = .ok (.iadd, 1) := by decide +kernel
theorem dL_law_920 : decode cL_law 920 = .ok (.iaload, 1) := by decide +kernel
theorem dL_law_921 : decode cL_law 921 = .ok (.aload_n 0, 1) := by decide +kernel
theorem dL_law_922 : decode cL_law 922 = .ok (.iload_n 3, 1) := by decide +kernel
theorem dL_law_923 : decode cL_law 923 = .ok (.iconst 2, 1) := by decide +kernel
theorem dL_law_924 : decode cL_law 924 = .ok (.iadd, 1) := by decide +kernel
theorem dL_law_925 : decode cL_law 925 = .ok (.iaload, 1) := by decide +kernel
theorem dL_law_926 : decode cL_law 926 = .ok (.invokevirtual 113, 3) := by decide +kernel
theorem dL_law_929 : decode cL_law 929 = .ok (.if_icmp .eq 510, 3) := by decide +kernel
theorem dL_law_932 : decode cL_law 932 = .ok (.iconst 0, 1) := by decide +kernel
theorem dL_law_933 : decode cL_law 933 = .ok (.ireturn, 1) := by decide +kernel
theorem dL_law_934 : decode cL_law 934 = .ok (.aload_n 1, 1) := by decide +kernel
theorem dL_law_935 : decode cL_law 935 = .ok (.aload_n 0, 1) := by decide +kernel
theorem dL_law_936 : decode cL_law 936 = .ok (.iload_n 3, 1) := by decide +kernel
theorem dL_law_937 : decode cL_law 937 = .ok (.iconst 1, 1) := by decide +kernel
theorem dL_law_938 : decode cL_law 938 = .ok (.iadd, 1) := by decide +kernel
theorem dL_law_939 : decode cL_law 939 = .ok (.iaload, 1) := by decide +kernel
theorem dL_law_940 : decode cL_law 940 = .ok (.aload_n 0, 1) := by decide +kernel
theorem dL_law_941 : decode cL_law 941 = .ok (.iload_n 3, 1) := by decide +kernel
theorem dL_law_942 : decode cL_law 942 = .ok (.iconst 2, 1) := by decide +kernel
theorem dL_law_943 : decode cL_law 943 = .ok (.iadd, 1) := by decide +kernel
theorem dL_law_944 : decode cL_law 944 = .ok (.iaload, 1) := by decide +kernel
theorem dL_law_945 : decode cL_law 945 = .ok (.invokevirtual 114, 3) := by decide +kernel
theorem dL_law_948 : decode cL_law 948 = .ok (.aload_n 2, 1) := by decide +kernel
theorem dL_law_949 : decode cL_law 949 = .ok (.aload_n 0, 1) := by decide +kernel
theorem dL_law_950 : decode cL_law 950 = .ok (.iload_n 3, 1) := by decide +kernel
theorem dL_law_951 : decode cL_law 951 = .ok (.iconst 1, 1) := by decide +kernel
theorem dL_law_952 : decode cL_law 952 = .ok (.iadd, 1) := by decide +kernel
theorem dL_law_953 : decode cL_law 953 = .ok (.iaload, 1) := by decide +kernel
theorem dL_law_954 : decode cL_law 954 = .ok (.aload_n 0, 1) := by decide +kernel
theorem dL_law_955 : decode cL_law 955 = .ok (.iload_n 3, 1) := by decide +kernel
theorem dL_law_956 : decode cL_law 956 = .ok (.iconst 2, 1) := by decide +kernel
theorem dL_law_957 : decode cL_law 957 = .ok (.iadd, 1) := by decide +kernel
theorem dL_law_958 : decode cL_law 958 = .ok (.iaload, 1) := by decide +kernel
theorem dL_law_959 : decode cL_law 959 = .ok (.invokevirtual 117, 3) := by decide +kernel
theorem dL_law_962 : decode cL_law 962 = .ok (.if_icmp .eq 477, 3) := by decide +kernel
theorem dL_law_965 : decode cL_law 965 = .ok (.iconst 0, 1) := by decide +kernel
theorem dL_law_966 : decode cL_law 966 = .ok (.ireturn, 1) := by decide +kernel
theorem dL_law_967 : decode cL_law 967 = .ok (.aload_n 1, 1) := by decide +kernel
theorem dL_law_968 : decode cL_law 968 = .ok (.aload_n 0, 1) := by decide +kernel
theorem dL_law_969 : decode cL_law 969 = .ok (.iload_n 3, 1) := by decide +kernel
theorem dL_law_970 : decode cL_law 970 = .ok (.iconst 1, 1) := by decide +kernel
theorem dL_law_971 : decode cL_law 971 = .ok (.iadd, 1) := by decide +kernel
theorem dL_law_972 : decode cL_law 972 = .ok (.iaload, 1) := by decide +kernel
theorem dL_law_973 : decode cL_law 973 = .ok (.aload_n 0, 1) := by decide +kernel
theorem dL_law_974 : decode cL_law 974 = .ok (.iload_n 3, 1) := by decide +kernel
theorem dL_law_975 : decode cL_law 975 = .ok (.iconst 2, 1) := by decide +kernel
theorem dL_law_976 : decode cL_law 976 = .ok (.iadd, 1) := by decide +kernel
theorem dL_law_977 : decode cL_law 977 = .ok (.iaload, 1) := by decide +kernel
theorem dL_law_978 : decode cL_law 978 = .ok (.invokevirtual 118, 3) := by decide +kernel
theorem dL_law_981 : decode cL_law 981 = .ok (.aload_n 2, 1) := by decide +kernel
theorem dL_law_982 : decode cL_law 982 = .ok (.aload_n 0, 1) := by decide +kernel
theorem dL_law_983 : decode cL_law 983 = .ok (.iload_n 3, 1) := by decide +kernel
theorem dL_law_984 : decode cL_law 984 = .ok (.iconst 1, 1) := by decide +kernel
theorem dL_law_985 : decode cL_law 985 = .ok (.iadd, 1) := by decide +kernel
theorem dL_law_986 : decode cL_law 986 = .ok (.iaload, 1) := by decide +kernel
theorem dL_law_987 : decode cL_law 987 = .ok (.aload_n 0, 1) := by decide +kernel
theorem dL_law_988 : decode cL_law 988 = .ok (.iload_n 3, 1) := by decide +kernel
theorem dL_law_989 : decode cL_law 989 = .ok (.iconst 2, 1) := by decide +kernel
theorem dL_law_990 : decode cL_law 990 = .ok (.iadd, 1) := by decide +kernel
theorem dL_law_991 : decode cL_law 991 = .ok (.iaload, 1) := by decide +kernel
theorem dL_law_992 : decode cL_law 992 = .ok (.invokevirtual 121, 3) := by decide +kernel
theorem dL_law_995 : decode cL_law 995 = .ok (.if_icmp .eq 444, 3) := by decide +kernel
theorem dL_law_998 : decode cL_law 998 = .ok (.iconst 0, 1) := by decide +kernel
theorem dL_law_999 : decode cL_law 999 = .ok (.ireturn, 1) := by decide +kernel
theorem dL_law_1000 : decode cL_law 1000 = .ok (.aload_n 1, 1) := by decide +kernel
theorem dL_law_1001 : decode cL_law 1001 = .ok (.aload_n 0, 1) := by decide +kernel
theorem dL_law_1002 : decode cL_law 1002 = .ok (.iload_n 3, 1) := by decide +kernel
theorem dL_law_1003 : decode cL_law 1003 = .ok (.iconst 1, 1) := by decide +kernel
theorem dL_law_1004 : decode cL_law 1004 = .ok (.iadd, 1) := by decide +kernel
theorem dL_law_1005 : decode cL_law 1005 = .ok (.iaload, 1) := by decide +kernel
theorem dL_law_1006 : decode cL_law 1006 = .ok (.aload_n 0, 1) := by decide +kernel
theorem dL_law_1007 : decode cL_law 1007 = .ok (.iload_n 3, 1) := by decide +kernel
theorem dL_law_1008 : decode cL_law 1008 = .ok (.iconst 2, 1) := by decide +kernel
theorem dL_law_1009 : decode cL_law 1009 = .ok (.iadd, 1) := by decide +kernel
theorem dL_law_1010 : decode cL_law 1010 = .ok (.iaload, 1) := by decide +kernel
theorem dL_law_1011 : decode cL_law 1011 = .ok (.invokevirtual 122, 3) := by decide +kernel
theorem dL_law_1014 : decode cL_law 1014 = .ok (.aload_n 2, 1) := by decide +kernel
theorem dL_law_1015 : decode cL_law 1015 = .ok (.aload_n 0, 1) := by decide +kernel
theorem dL_law_1016 : decode cL_law 1016 = .ok (.iload_n 3, 1) := by decide +kernel
theorem dL_law_1017 : decode cL_law 1017 = .ok (.iconst 1, 1) := by decide +kernel
theorem dL_law_1018 : decode cL_law 1018 = .ok (.iadd, 1) := by decide +kernel
theorem dL_law_1019 : decode cL_law 1019 = .ok (.iaload, 1) := by decide +kernel
theorem dL_law_1020 : decode cL_law 1020 = .ok (.aload_n 0, 1) := by decide +kernel
theorem dL_law_1021 : decode cL_law 1021 = .ok (.iload_n 3, 1) := by decide +kernel
theorem dL_law_1022 : decode cL_law 1022 = .ok (.iconst 2, 1) := by decide +kernel
theorem dL_law_1023 : decode cL_law 1023 = .ok (.iadd, 1) := by decide +kernel
theorem dL_law_1024 : decode cL_law 1024 = .ok (.iaload, 1) := by decide +kernel
theorem dL_law_1025 : decode cL_law 1025 = .ok (.invokevirtual 125, 3) := by decide +kernel
theorem dL_law_1028 : decode cL_law 1028 = .ok (.if_icmp .eq 411, 3) := by decide +kernel
theorem dL_law_1031 : decode cL_law 1031 = .ok (.iconst 0, 1) := by decide +kernel
theorem dL_law_1032 : decode cL_law 1032 = .ok (.ireturn, 1) := by decide +kernel
theorem dL_law_1033 : decode cL_law 1033 = .ok (.aload_n 1, 1) := by decide +kernel
theorem dL_law_1034 : decode cL_law 1034 = .ok (.aload_n 0, 1) := by decide +kernel
theorem dL_law_1035 : decode cL_law 1035 = .ok (.iload_n 3, 1) := by decide +kernel
theorem dL_law_1036 : decode cL_law 1036 = .ok (.iconst 1, 1) := by decide +kernel
theorem dL_law_1037 : decode cL_law 1037 = .ok (.iadd, 1) := by decide +kernel
theorem dL_law_1038 : decode cL_law 1038 = .ok (.iaload, 1) := by decide +kernel
theorem dL_law_1039 : decode cL_law 1039 = .ok (.aload_n 0, 1) := by decide +kernel
theorem dL_law_1040 : decode cL_law 1040 = .ok (.iload_n 3, 1) := by decide +kernel
theorem dL_law_1041 : decode cL_law 1041 = .ok (.iconst 2, 1) := by decide +kernel
theorem dL_law_1042 : decode cL_law 1042 = .ok (.iadd, 1) := by decide +kernel
theorem dL_law_1043 : decode cL_law 1043 = .ok (.iaload, 1) := by decide +kernel
theorem dL_law_1044 : decode cL_law 1044 = .ok (.aload_n 0, 1) := by decide +kernel
theorem dL_law_1045 : decode cL_law 1045 = .ok (.iload_n 3, 1) := by decide +kernel
theorem dL_law_1046 : decode cL_law 1046 = .ok (.iconst 3, 1) := by decide +kernel
theorem dL_law_1047 : decode cL_law 1047 = .ok (.iadd, 1) := by decide +kernel
theorem dL_law_1048 : decode cL_law 1048 = .ok (.iaload, 1) := by decide +kernel
theorem dL_law_1049 : decode cL_law 1049 = .ok (.invokevirtual 126, 3) := by decide +kernel
theorem dL_law_1052 : decode cL_law 1052 = .ok (.aload_n 2, 1) := by decide +kernel
theorem dL_law_1053 : decode cL_law 1053 = .ok (.aload_n 0, 1) := by decide +kernel
theorem dL_law_1054 : decode cL_law 1054 = .ok (.iload_n 3, 1) := by decide +kernel
theorem dL_law_1055 : decode cL_law 1055 = .ok (.iconst 1, 1) := by decide +kernel
theorem dL_law_1056 : decode cL_law 1056 = .ok (.iadd, 1) := by decide +kernel
theorem dL_law_1057 : decode cL_law 1057 = .ok (.iaload, 1) := by decide +kernel
theorem dL_law_1058 : decode cL_law 1058 = .ok (.aload_n 0, 1) := by decide +kernel
theorem dL_law_1059 : decode cL_law 1059 = .ok (.iload_n 3, 1) := by decide +kernel
theorem dL_law_1060 : decode cL_law 1060 = .ok (.iconst 2, 1) := by decide +kernel
theorem dL_law_1061 : decode cL_law 1061 = .ok (.iadd, 1) := by decide +kernel
theorem dL_law_1062 : decode cL_law 1062 = .ok (.iaload, 1) := by decide +kernel
theorem dL_law_1063 : decode cL_law 1063 = .ok (.aload_n 0, 1) := by decide +kernel
theorem dL_law_1064 : decode cL_law 1064 = .ok (.iload_n 3, 1) := by decide +kernel
theorem dL_law_1065 : decode cL_law 1065 = .ok (.iconst 3, 1) := by decide +kernel
theorem dL_law_1066 : decode cL_law 1066 = .ok (.iadd, 1) := by decide +kernel
theorem dL_law_1067 : decode cL_law 1067 = .ok (.iaload, 1) := by decide +kernel
theorem dL_law_1068 : decode cL_law 1068 = .ok (.invokevirtual 129, 3) := by decide +kernel
theorem dL_law_1071 : decode cL_law 1071 = .ok (.if_icmp .eq 368, 3) := by decide +kernel
theorem dL_law_1074 : decode cL_law 1074 = .ok (.iconst 0, 1) := by decide +kernel
theorem dL_law_1075 : decode cL_law 1075 = .ok (.ireturn, 1) := by decide +kernel
theorem dL_law_1076 : decode cL_law 1076 = .ok (.aload_n 1, 1) := by decide +kernel
theorem dL_law_1077 : decode cL_law 1077 = .ok (.aload_n 0, 1) := by decide +kernel
theorem dL_law_1078 : decode cL_law 1078 = .ok (.iload_n 3, 1) := by decide +kernel
theorem dL_law_1079 : decode cL_law 1079 = .ok (.iconst 1, 1) := by decide +kernel
theorem dL_law_1080 : decode cL_law 1080 = .ok (.iadd, 1) := by decide +kernel
theorem dL_law_1081 : decode cL_law 1081 = .ok (.iaload, 1) := by decide +kernel
theorem dL_law_1082 : decode cL_law 1082 = .ok (.aload_n 0, 1) := by decide +kernel
theorem dL_law_1083 : decode cL_law 1083 = .ok (.iload_n 3, 1) := by decide +kernel
theorem dL_law_1084 : decode cL_law 1084 = .ok (.iconst 2, 1) := by decide +kernel
theorem dL_law_1085 : decode cL_law 1085 = .ok (.iadd, 1) := by decide +kernel
theorem dL_law_1086 : decode cL_law 1086 = .ok (.iaload, 1) := by decide +kernel
theorem dL_law_1087 : decode cL_law 1087 = .ok (.invokevirtual 130, 3) := by decide +kernel
theorem dL_law_1090 : decode cL_law 1090 = .ok (.aload_n 2, 1) := by decide +kernel
theorem dL_law_1091 : decode cL_law 1091 = .ok (.aload_n 0, 1) := by decide +kernel
theorem dL_law_1092 : decode cL_law 1092 = .ok (.iload_n 3, 1) := by decide +kernel
theorem dL_law_1093 : decode cL_law 1093 = .ok (.iconst 1, 1) := by decide +kernel
theorem dL_law_1094 : decode cL_law 1094 = .ok (.iadd, 1) := by decide +kernel
theorem dL_law_1095 : decode cL_law 1095 = .ok (.iaload, 1) := by decide +kernel
theorem dL_law_1096 : decode cL_law 1096 = .ok (.aload_n 0, 1) := by decide +kernel
theorem dL_law_1097 : decode cL_law 1097 = .ok (.iload_n 3, 1) := by decide +kernel
theorem dL_law_1098 : decode cL_law 1098 = .ok (.iconst 2, 1) := by decide +kernel
theorem dL_law_1099 : decode cL_law 1099 = .ok (.iadd, 1) := by decide +kernel
theorem dL_law_1100 : decode cL_law 1100 = .ok (.iaload, 1) := by decide +kernel
theorem dL_law_1101 : decode cL_law 1101 = .ok (.invokevirtual 134, 3) := by decide +kernel
theorem dL_law_1104 : decode cL_law 1104 = .ok (.lcmp, 1) := by decide +kernel
theorem dL_law_1105 : decode cL_law 1105 = .ok (.ifCond .eq 334, 3) := by decide +kernel
theorem dL_law_1108 : decode cL_law 1108 = .ok (.iconst 0, 1) := by decide +kernel
theorem dL_law_1109 : decode cL_law 1109 = .ok (.ireturn, 1) := by decide +kernel
theorem dL_law_1110 : decode cL_law 1110 = .ok (.aload_n 1, 1) := by decide +kernel
theorem dL_law_1111 : decode cL_law 1111 = .ok (.aload_n 0, 1) := by decide +kernel
theorem dL_law_1112 : decode cL_law 1112 = .ok (.iload_n 3, 1) := by decide +kernel
theorem dL_law_1113 : decode cL_law 1113 = .ok (.iconst 1, 1) := by decide +kernel
theorem dL_law_1114 : decode cL_law 1114 = .ok (.iadd, 1) := by decide +kernel
theorem dL_law_1115 : decode cL_law 1115 = .ok (.iaload, 1) := by decide +kernel
theorem dL_law_1116 : decode cL_law 1116 = .ok (.invokevirtual 135, 3) := by decide +kernel
theorem dL_law_1119 : decode cL_law 1119 = .ok (.aload_n 2, 1) := by decide +kernel
theorem dL_law_1120 : decode cL_law 1120 = .ok (.aload_n 0, 1) := by decide +kernel
theorem dL_law_1121 : decode cL_law 1121 = .ok (.iload_n 3, 1) := by decide +kernel
theorem dL_law_1122 : decode cL_law 1122 = .ok (.iconst 1, 1) := by decide +kernel
theorem dL_law_1123 : decode cL_law 1123 = .ok (.iadd, 1) := by decide +kernel
theorem dL_law_1124 : decode cL_law 1124 = .ok (.iaload, 1) := by decide +kernel
theorem dL_law_1125 : decode cL_law 1125 = .ok (.invokevirtual 139, 3) := by decide +kernel
theorem dL_law_1128 : decode cL_law 1128 = .ok (.lcmp, 1) := by decide +kernel
theorem dL_law_1129 : decode cL_law 1129 = .ok (.ifCond .eq 310, 3) := by decide +kernel
theorem dL_law_1132 : decode cL_law 1132 = .ok (.iconst 0, 1) := by decide +kernel
theorem dL_law_1133 : decode cL_law 1133 = .ok (.ireturn, 1) := by decide +kernel
theorem dL_law_1134 : decode cL_law 1134 = .ok (.aload_n 1, 1) := by decide +kernel
theorem dL_law_1135 : decode cL_law 1135 = .ok (.aload_n 0, 1) := by decide +kernel
theorem dL_law_1136 : decode cL_law 1136 = .ok (.iload_n 3, 1) := by decide +kernel
theorem dL_law_1137 : decode cL_law 1137 = .ok (.iconst 1, 1) := by decide +kernel
theorem dL_law_1138 : decode cL_law 1138 = .ok (.iadd, 1) := by decide +kernel
theorem dL_law_1139 : decode cL_law 1139 = .ok (.iaload, 1) := by decide +kernel
theorem dL_law_1140 : decode cL_law 1140 = .ok (.invokevirtual 140, 3) := by decide +kernel
theorem dL_law_1143 : decode cL_law 1143 = .ok (.aload_n 2, 1) := by decide +kernel
theorem dL_law_1144 : decode cL_law 1144 = .ok (.aload_n 0, 1) := by decide +kernel
theorem dL_law_1145 : decode cL_law 1145 = .ok (.iload_n 3, 1) := by decide +kernel
theorem dL_law_1146 : decode cL_law 1146 = .ok (.iconst 1, 1) := by decide +kernel
theorem dL_law_1147 : decode cL_law 1147 = .ok (.iadd, 1) := by decide +kernel
theorem dL_law_1148 : decode cL_law 1148 = .ok (.iaload, 1) := by decide +kernel
theorem dL_law_1149 : decode cL_law 1149 = .ok (.invokevirtual 143, 3) := by decide +kernel
theorem dL_law_1152 : decode cL_law 1152 = .ok (.lcmp, 1) := by decide +kernel
theorem dL_law_1153 : decode cL_law 1153 = .ok (.ifCond .eq 286, 3) := by decide +kernel
theorem dL_law_1156 : decode cL_law 1156 = .ok (.iconst 0, 1) := by decide +kernel
theorem dL_law_1157 : decode cL_law 1157 = .ok (.ireturn, 1) := by decide +kernel
theorem dL_law_1158 : decode cL_law 1158 = .ok (.aload_n 1, 1) := by decide +kernel
theorem dL_law_1159 : decode cL_law 1159 = .ok (.aload_n 0, 1) := by decide +kernel
theorem dL_law_1160 : decode cL_law 1160 = .ok (.iload_n 3, 1) := by decide +kernel
theorem dL_law_1161 : decode cL_law 1161 = .ok (.iconst 1, 1) := by decide +kernel
theorem dL_law_1162 : decode cL_law 1162 = .ok (.iadd, 1) := by decide +kernel
theorem dL_law_1163 : decode cL_law 1163 = .ok (.iaload, 1) := by decide +kernel
theorem dL_law_1164 : decode cL_law 1164 = .ok (.invokevirtual 144, 3) := by decide +kernel
theorem dL_law_1167 : decode cL_law 1167 = .ok (.aload_n 2, 1) := by decide +kernel
theorem dL_law_1168 : decode cL_law 1168 = .ok (.aload_n 0, 1) := by decide +kernel
theorem dL_law_1169 : decode cL_law 1169 = .ok (.iload_n 3, 1) := by decide +kernel
theorem dL_law_1170 : decode cL_law 1170 = .ok (.iconst 1, 1) := by decide +kernel
theorem dL_law_1171 : decode cL_law 1171 = .ok (.iadd, 1) := by decide +kernel
theorem dL_law_1172 : decode cL_law 1172 = .ok (.iaload, 1) := by decide +kernel
theorem dL_law_1173 : decode cL_law 1173 = .ok (.invokevirtual 147, 3) := by decide +kernel
theorem dL_law_1176 : decode cL_law 1176 = .ok (.if_icmp .eq 263, 3) := by decide +kernel
theorem dL_law_1179 : decode cL_law 1179 = .ok (.iconst 0, 1) := by decide +kernel
theorem dL_law_1180 : decode cL_law 1180 = .ok (.ireturn, 1) := by decide +kernel
theorem dL_law_1181 : decode cL_law 1181 = .ok (.aload_n 1, 1) := by decide +kernel
theorem dL_law_1182 : decode cL_law 1182 = .ok (.aload_n 0, 1) := by decide +kernel
theorem dL_law_1183 : decode cL_law 1183 = .ok (.iload_n 3, 1) := by decide +kernel
theorem dL_law_1184 : decode cL_law 1184 = .ok (.iconst 1, 1) := by decide +kernel
theorem dL_law_1185 : decode cL_law 1185 = .ok (.iadd, 1) := by decide +kernel
theorem dL_law_1186 : decode cL_law 1186 = .ok (.iaload, 1) := by decide +kernel
theorem dL_law_1187 : decode cL_law 1187 = .ok (.aload_n 0, 1) := by decide +kernel
theorem dL_law_1188 : decode cL_law 1188 = .ok (.iload_n 3, 1) := by decide +kernel
theorem dL_law_1189 : decode cL_law 1189 = .ok (.iconst 2, 1) := by decide +kernel
theorem dL_law_1190 : decode cL_law 1190 = .ok (.iadd, 1) := by decide +kernel
theorem dL_law_1191 : decode cL_law 1191 = .ok (.iaload, 1) := by decide +kernel
theorem dL_law_1192 : decode cL_law 1192 = .ok (.invokevirtual 148, 3) := by decide +kernel
theorem dL_law_1195 : decode cL_law 1195 = .ok (.aload_n 2, 1) := by decide +kernel
theorem dL_law_1196 : decode cL_law 1196 = .ok (.aload_n 0, 1) := by decide +kernel
theorem dL_law_1197 : decode cL_law 1197 = .ok (.iload_n 3, 1) := by decide +kernel
theorem dL_law_1198 : decode cL_law 1198 = .ok (.iconst 1, 1) := by decide +kernel
theorem dL_law_1199 : decode cL_law 1199 = .ok (.iadd, 1) := by decide +kernel
theorem dL_law_1200 : decode cL_law 1200 = .ok (.iaload, 1) := by decide +kernel
theorem dL_law_1201 : decode cL_law 1201 = .ok (.aload_n 0, 1) := by decide +kernel
theorem dL_law_1202 : decode cL_law 1202 = .ok (.iload_n 3, 1) := by decide +kernel
theorem dL_law_1203 : decode cL_law 1203 = .ok (.iconst 2, 1) := by decide +kernel
theorem dL_law_1204 : decode cL_law 1204 = .ok (.iadd, 1) := by decide +kernel
theorem dL_law_1205 : decode cL_law 1205 = .ok (.iaload, 1) := by decide +kernel
theorem dL_law_1206 : decode cL_law 1206 = .ok (.invokevirtual 151, 3) := by decide +kernel
theorem dL_law_1209 : decode cL_law 1209 = .ok (.if_icmp .eq 230, 3) := by decide +kernel
theorem dL_law_1212 : decode cL_law 1212 = .ok (.iconst 0, 1) := by decide +kernel
theorem dL_law_1213 : decode cL_law 1213 = .ok (.ireturn, 1) := by decide +kernel
theorem dL_law_1214 : decode cL_law 1214 = .ok (.aload_n 1, 1) := by decide +kernel
theorem dL_law_1215 : decode cL_law 1215 = .ok (.aload_n 0, 1) := by decide +kernel
theorem dL_law_1216 : decode cL_law 1216 = .ok (.iload_n 3, 1) := by decide +kernel
theorem dL_law_1217 : decode cL_law 1217 = .ok (.iconst 1, 1) := by decide +kernel
theorem dL_law_1218 : decode cL_law 1218 = .ok (.iadd, 1) := by decide +kernel
theorem dL_law_1219 : decode cL_law 1219 = .ok (.iaload, 1) := by decide +kernel
theorem dL_law_1220 : decode cL_law 1220 = .ok (.invokevirtual 152, 3) := by decide +kernel
theorem dL_law_1223 : decode cL_law 1223 = .ok (.aload_n 2, 1) := by decide +kernel
theorem dL_law_1224 : decode cL_law 1224 = .ok (.aload_n 0, 1) := by decide +kernel
theorem dL_law_1225 : decode cL_law 1225 = .ok (.iload_n 3, 1) := by decide +kernel
theorem dL_law_1226 : decode cL_law 1226 = .ok (.iconst 1, 1) := by decide +kernel
theorem dL_law_1227 : decode cL_law 1227 = .ok (.iadd, 1) := by decide +kernel
theorem dL_law_1228 : decode cL_law 1228 = .ok (.iaload, 1) := by decide +kernel
theorem dL_law_1229 : decode cL_law 1229 = .ok (.invokevirtual 155, 3) := by decide +kernel
theorem dL_law_1232 : decode cL_law 1232 = .ok (.if_icmp .eq 207, 3) := by decide +kernel
theorem dL_law_1235 : decode cL_law 1235 = .ok (.iconst 0, 1) := by decide +kernel
theorem dL_law_1236 : decode cL_law 1236 = .ok (.ireturn, 1) := by decide +kernel
theorem dL_law_1237 : decode cL_law 1237 = .ok (.aload_n 1, 1) := by decide +kernel
theorem dL_law_1238 : decode cL_law 1238 = .ok (.aload_n 0, 1) := by decide +kernel
theorem dL_law_1239 : decode cL_law 1239 = .ok (.iload_n 3, 1) := by decide +kernel
theorem dL_law_1240 : decode cL_law 1240 = .ok (.iconst 1, 1) := by decide +kernel
theorem dL_law_1241 : decode cL_law 1241 = .ok (.iadd, 1) := by decide +kernel
theorem dL_law_1242 : decode cL_law 1242 = .ok (.iaload, 1) := by decide +kernel
theorem dL_law_1243 : decode cL_law 1243 = .ok (.aload_n 0, 1) := by decide +kernel
theorem dL_law_1244 : decode cL_law 1244 = .ok (.iload_n 3, 1) := by decide +kernel
theorem dL_law_1245 : decode cL_law 1245 = .ok (.iconst 2, 1) := by decide +kernel
theorem dL_law_1246 : decode cL_law 1246 = .ok (.iadd, 1) := by decide +kernel
theorem dL_law_1247 : decode cL_law 1247 = .ok (.iaload, 1) := by decide +kernel
theorem dL_law_1248 : decode cL_law 1248 = .ok (.invokevirtual 156, 3) := by decide +kernel
theorem dL_law_1251 : decode cL_law 1251 = .ok (.aload_n 2, 1) := by decide +kernel
theorem dL_law_1252 : decode cL_law 1252 = .ok (.aload_n 0, 1) := by decide +kernel
theorem dL_law_1253 : decode cL_law 1253 = .ok (.iload_n 3, 1) := by decide +kernel
theorem dL_law_1254 : decode cL_law 1254 = .ok (.iconst 1, 1) := by decide +kernel
theorem dL_law_1255 : decode cL_law 1255 = .ok (.iadd, 1) := by decide +kernel
theorem dL_law_1256 : decode cL_law 1256 = .ok (.iaload, 1) := by decide +kernel
theorem dL_law_1257 : decode cL_law 1257 = .ok (.aload_n 0, 1) := by decide +kernel
theorem dL_law_1258 : decode cL_law 1258 = .ok (.iload_n 3, 1) := by decide +kernel
theorem dL_law_1259 : decode cL_law 1259 = .ok (.iconst 2, 1) := by decide +kernel
theorem dL_law_1260 : decode cL_law 1260 = .ok (.iadd, 1) := by decide +kernel
theorem dL_law_1261 : decode cL_law 1261 = .ok (.iaload, 1) := by decide +kernel
theorem dL_law_1262 : decode cL_law 1262 = .ok (.invokevirtual 159, 3) := by decide +kernel
theorem dL_law_1265 : decode cL_law 1265 = .ok (.if_icmp .eq 174, 3) := by decide +kernel
theorem dL_law_1268 : decode cL_law 1268 = .ok (.iconst 0, 1) := by decide +kernel
theorem dL_law_1269 : decode cL_law 1269 = .ok (.ireturn, 1) := by decide +kernel
theorem dL_law_1270 : decode cL_law 1270 = .ok (.aload_n 1, 1) := by decide +kernel
theorem dL_law_1271 : decode cL_law 1271 = .ok (.aload_n 0, 1) := by decide +kernel
theorem dL_law_1272 : decode cL_law 1272 = .ok (.iload_n 3, 1) := by decide +kernel
theorem dL_law_1273 : decode cL_law 1273 = .ok (.iconst 1, 1) := by decide +kernel
theorem dL_law_1274 : decode cL_law 1274 = .ok (.iadd, 1) := by decide +kernel
theorem dL_law_1275 : decode cL_law 1275 = .ok (.iaload, 1) := by decide +kernel
theorem dL_law_1276 : decode cL_law 1276 = .ok (.aload_n 0, 1) := by decide +kernel
theorem dL_law_1277 : decode cL_law 1277 = .ok (.iload_n 3, 1) := by decide +kernel
theorem dL_law_1278 : decode cL_law 1278 = .ok (.iconst 2, 1) := by decide +kernel
theorem dL_law_1279 : decode cL_law 1279 = .ok (.iadd, 1) := by decide +kernel
theorem dL_law_1280 : decode cL_law 1280 = .ok (.iaload, 1) := by decide +kernel
theorem dL_law_1281 : decode cL_law 1281 = .ok (.aload_n 0, 1) := by decide +kernel
theorem dL_law_1282 : decode cL_law 1282 = .ok (.iload_n 3, 1) := by decide +kernel
theorem dL_law_1283 : decode cL_law 1283 = .ok (.iconst 3, 1) := by decide +kernel
theorem dL_law_1284 : decode cL_law 1284 = .ok (.iadd, 1) := by decide +kernel
theorem dL_law_1285 : decode cL_law 1285 = .ok (.iaload, 1) := by decide +kernel
theorem dL_law_1286 : decode cL_law 1286 = .ok (.invokevirtual 160, 3) := by decide +kernel
theorem dL_law_1289 : decode cL_law 1289 = .ok (.aload_n 2, 1) := by decide +kernel
theorem dL_law_1290 : decode cL_law 1290 = .ok (.aload_n 0, 1) := by decide +kernel
theorem dL_law_1291 : decode cL_law 1291 = .ok (.iload_n 3, 1) := by decide +kernel
theorem dL_law_1292 : decode cL_law 1292 = .ok (.iconst 1, 1) := by decide +kernel
theorem dL_law_1293 : decode cL_law 1293 = .ok (.iadd, 1) := by decide +kernel
theorem dL_law_1294 : decode cL_law 1294 = .ok (.iaload, 1) := by decide +kernel
theorem dL_law_1295 : decode cL_law 1295 = .ok (.aload_n 0, 1) := by decide +kernel
theorem dL_law_1296 : decode cL_law 1296 = .ok (.iload_n 3, 1) := by decide +kernel
theorem dL_law_1297 : decode cL_law 1297 = .ok (.iconst 2, 1) := by decide +kernel
theorem dL_law_1298 : decode cL_law 1298 = .ok (.iadd, 1) := by decide +kernel
theorem dL_law_1299 : decode cL_law 1299 = .ok (.iaload, 1) := by decide +kernel
theorem dL_law_1300 : decode cL_law 1300 = .ok (.aload_n 0, 1) := by decide +kernel
theorem dL_law_1301 : decode cL_law 1301 = .ok (.iload_n 3, 1) := by decide +kernel
theorem dL_law_1302 : decode cL_law 1302 = .ok (.iconst 3, 1) := by decide +kernel
theorem dL_law_1303 : decode cL_law 1303 = .ok (.iadd, 1) := by decide +kernel
theorem dL_law_1304 : decode cL_law 1304 = .ok (.iaload, 1) := by decide +kernel
theorem dL_law_1305 : decode cL_law 1305 = .ok (.invokevirtual 163, 3) := by decide +kernel
theorem dL_law_1308 : decode cL_law 1308 = .ok (.if_icmp .eq 131, 3) := by decide +kernel
theorem dL_law_1311 : decode cL_law 1311 = .ok (.iconst 0, 1) := by decide +kernel
theorem dL_law_1312 : decode cL_law 1312 = .ok (.ireturn, 1) := by decide +kernel
theorem dL_law_1313 : decode cL_law 1313 = .ok (.aload_n 1, 1) := by decide +kernel
theorem dL_law_1314 : decode cL_law 1314 = .ok (.aload_n 0, 1) := by decide +kernel
theorem dL_law_1315 : decode cL_law 1315 = .ok (.iload_n 3, 1) := by decide +kernel
theorem dL_law_1316 : decode cL_law 1316 = .ok (.iconst 1, 1) := by decide +kernel
theorem dL_law_1317 : decode cL_law 1317 = .ok (.iadd, 1) := by decide +kernel
theorem dL_law_1318 : decode cL_law 1318 = .ok (.iaload, 1) := by decide +kernel
theorem dL_law_1319 : decode cL_law 1319 = .ok (.aload_n 0, 1) := by decide +kernel
theorem dL_law_1320 : decode cL_law 1320 = .ok (.iload_n 3, 1) := by decide +kernel
theorem dL_law_1321 : decode cL_law 1321 = .ok (.iconst 2, 1) := by decide +kernel
theorem dL_law_1322 : decode cL_law 1322 = .ok (.iadd, 1) := by decide +kernel
theorem dL_law_1323 : decode cL_law 1323 = .ok (.iaload, 1) := by decide +kernel
theorem dL_law_1324 : decode cL_law 1324 = .ok (.invokevirtual 164, 3) := by decide +kernel
theorem dL_law_1327 : decode cL_law 1327 = .ok (.aload_n 2, 1) := by decide +kernel
theorem dL_law_1328 : decode cL_law 1328 = .ok (.aload_n 0, 1) := by decide +kernel
theorem dL_law_1329 : decode cL_law 1329 = .ok (.iload_n 3, 1) := by decide +kernel
theorem dL_law_1330 : decode cL_law 1330 = .ok (.iconst 1, 1) := by decide +kernel
theorem dL_law_1331 : decode cL_law 1331 = .ok (.iadd, 1) := by decide +kernel
theorem dL_law_1332 : decode cL_law 1332 = .ok (.iaload, 1) := by decide +kernel
theorem dL_law_1333 : decode cL_law 1333 = .ok (.aload_n 0, 1) := by decide +kernel
theorem dL_law_1334 : decode cL_law 1334 = .ok (.iload_n 3, 1) := by decide +kernel
theorem dL_law_1335 : decode cL_law 1335 = .ok (.iconst 2, 1) := by decide +kernel
theorem dL_law_1336 : decode cL_law 1336 = .ok (.iadd, 1) := by decide +kernel
theorem dL_law_1337 : decode cL_law 1337 = .ok (.iaload, 1) := by decide +kernel
theorem dL_law_1338 : decode cL_law 1338 = .ok (.invokevirtual 167, 3) := by decide +kernel
theorem dL_law_1341 : decode cL_law 1341 = .ok (.lcmp, 1) := by decide +kernel
theorem dL_law_1342 : decode cL_law 1342 = .ok (.ifCond .eq 97, 3) := by decide +kernel
theorem dL_law_1345 : decode cL_law 1345 = .ok (.iconst 0, 1) := by decide +kernel
theorem dL_law_1346 : decode cL_law 1346 = .ok (.ireturn, 1) := by decide +kernel
theorem dL_law_1347 : decode cL_law 1347 = .ok (.aload_n 1, 1) := by decide +kernel
theorem dL_law_1348 : decode cL_law 1348 = .ok (.aload_n 0, 1) := by decide +kernel
theorem dL_law_1349 : decode cL_law 1349 = .ok (.iload_n 3, 1) := by decide +kernel
theorem dL_law_1350 : decode cL_law 1350 = .ok (.iconst 1, 1) := by decide +kernel
theorem dL_law_1351 : decode cL_law 1351 = .ok (.iadd, 1) := by decide +kernel
theorem dL_law_1352 : decode cL_law 1352 = .ok (.iaload, 1) := by decide +kernel
theorem dL_law_1353 : decode cL_law 1353 = .ok (.aload_n 0, 1) := by decide +kernel
theorem dL_law_1354 : decode cL_law 1354 = .ok (.iload_n 3, 1) := by decide +kernel
theorem dL_law_1355 : decode cL_law 1355 = .ok (.iconst 2, 1) := by decide +kernel
theorem dL_law_1356 : decode cL_law 1356 = .ok (.iadd, 1) := by decide +kernel
theorem dL_law_1357 : decode cL_law 1357 = .ok (.iaload, 1) := by decide +kernel
theorem dL_law_1358 : decode cL_law 1358 = .ok (.invokevirtual 168, 3) := by decide +kernel
theorem dL_law_1361 : decode cL_law 1361 = .ok (.aload_n 2, 1) := by decide +kernel
theorem dL_law_1362 : decode cL_law 1362 = .ok (.aload_n 0, 1) := by decide +kernel
theorem dL_law_1363 : decode cL_law 1363 = .ok (.iload_n 3, 1) := by decide +kernel
theorem dL_law_1364 : decode cL_law 1364 = .ok (.iconst 1, 1) := by decide +kernel
theorem dL_law_1365 : decode cL_law 1365 = .ok (.iadd, 1) := by decide +kernel
theorem dL_law_1366 : decode cL_law 1366 = .ok (.iaload, 1) := by decide +kernel
theorem dL_law_1367 : decode cL_law 1367 = .ok (.aload_n 0, 1) := by decide +kernel
theorem dL_law_1368 : decode cL_law 1368 = .ok (.iload_n 3, 1) := by decide +kernel
theorem dL_law_1369 : decode cL_law 1369 = .ok (.iconst 2, 1) := by decide +kernel
theorem dL_law_1370 : decode cL_law 1370 = .ok (.iadd, 1) := by decide +kernel
theorem dL_law_1371 : decode cL_law 1371 = .ok (.iaload, 1) := by decide +kernel
theorem dL_law_1372 : decode cL_law 1372 = .ok (.invokevirtual 171, 3) := by decide +kernel
theorem dL_law_1375 : decode cL_law 1375 = .ok (.if_icmp .eq 64, 3) := by decide +kernel
theorem dL_law_1378 : decode cL_law 1378 = .ok (.iconst 0, 1) := by decide +kernel
theorem dL_law_1379 : decode cL_law 1379 = .ok (.ireturn, 1) := by decide +kernel
theorem dL_law_1380 : decode cL_law 1380 = .ok (.aload_n 1, 1) := by decide +kernel
theorem dL_law_1381 : decode cL_law 1381 = .ok (.aload_n 0, 1) := by decide +kernel
theorem dL_law_1382 : decode cL_law 1382 = .ok (.iload_n 3, 1) := by decide +kernel
theorem dL_law_1383 : decode cL_law 1383 = .ok (.iconst 1, 1) := by decide +kernel
theorem dL_law_1384 : decode cL_law 1384 = .ok (.iadd, 1) := by decide +kernel
theorem dL_law_1385 : decode cL_law 1385 = .ok (.iaload, 1) := by decide +kernel
theorem dL_law_1386 : decode cL_law 1386 = .ok (.aload_n 0, 1) := by decide +kernel
theorem dL_law_1387 : decode cL_law 1387 = .ok (.iload_n 3, 1) := by decide +kernel
theorem dL_law_1388 : decode cL_law 1388 = .ok (.iconst 2, 1) := by decide +kernel
theorem dL_law_1389 : decode cL_law 1389 = .ok (.iadd, 1) := by decide +kernel
theorem dL_law_1390 : decode cL_law 1390 = .ok (.iaload, 1) := by decide +kernel
theorem dL_law_1391 : decode cL_law 1391 = .ok (.invokevirtual 172, 3) := by decide +kernel
theorem dL_law_1394 : decode cL_law 1394 = .ok (.aload_n 2, 1) := by decide +kernel
theorem dL_law_1395 : decode cL_law 1395 = .ok (.aload_n 0, 1) := by decide +kernel
theorem dL_law_1396 : decode cL_law 1396 = .ok (.iload_n 3, 1) := by decide +kernel
theorem dL_law_1397 : decode cL_law 1397 = .ok (.iconst 1, 1) := by decide +kernel
theorem dL_law_1398 : decode cL_law 1398 = .ok (.iadd, 1) := by decide +kernel
theorem dL_law_1399 : decode cL_law 1399 = .ok (.iaload, 1) := by decide +kernel
theorem dL_law_1400 : decode cL_law 1400 = .ok (.aload_n 0, 1) := by decide +kernel
theorem dL_law_1401 : decode cL_law 1401 = .ok (.iload_n 3, 1) := by decide +kernel
theorem dL_law_1402 : decode cL_law 1402 = .ok (.iconst 2, 1) := by decide +kernel
theorem dL_law_1403 : decode cL_law 1403 = .ok (.iadd, 1) := by decide +kernel
theorem dL_law_1404 : decode cL_law 1404 = .ok (.iaload, 1) := by decide +kernel
theorem dL_law_1405 : decode cL_law 1405 = .ok (.invokevirtual 175, 3) := by decide +kernel
theorem dL_law_1408 : decode cL_law 1408 = .ok (.if_icmp .eq 31, 3) := by decide +kernel
theorem dL_law_1411 : decode cL_law 1411 = .ok (.iconst 0, 1) := by decide +kernel
theorem dL_law_1412 : decode cL_law 1412 = .ok (.ireturn, 1) := by decide +kernel
theorem dL_law_1413 : decode cL_law 1413 = .ok (.aload_n 1, 1) := by decide +kernel
theorem dL_law_1414 : decode cL_law 1414 = .ok (.invokevirtual 176, 3) := by decide +kernel
theorem dL_law_1417 : decode cL_law 1417 = .ok (.aload_n 2, 1) := by decide +kernel
theorem dL_law_1418 : decode cL_law 1418 = .ok (.invokevirtual 179, 3) := by decide +kernel
theorem dL_law_1421 : decode cL_law 1421 = .ok (.if_icmp .eq 18, 3) := by decide +kernel
theorem dL_law_1424 : decode cL_law 1424 = .ok (.iconst 0, 1) := by decide +kernel
theorem dL_law_1425 : decode cL_law 1425 = .ok (.ireturn, 1) := by decide +kernel
theorem dL_law_1426 : decode cL_law 1426 = .ok (.aload_n 1, 1) := by decide +kernel
theorem dL_law_1427 : decode cL_law 1427 = .ok (.invokevirtual 180, 3) := by decide +kernel
theorem dL_law_1430 : decode cL_law 1430 = .ok (.aload_n 2, 1) := by decide +kernel
theorem dL_law_1431 : decode cL_law 1431 = .ok (.invokevirtual 183, 3) := by decide +kernel
theorem dL_law_1434 : decode cL_law 1434 = .ok (.if_icmp .eq 5, 3) := by decide +kernel
theorem dL_law_1437 : decode cL_law 1437 = .ok (.iconst 0, 1) := by decide +kernel
theorem dL_law_1438 : decode cL_law 1438 = .ok (.ireturn, 1) := by decide +kernel
theorem dL_law_1439 : decode cL_law 1439 = .ok (.iinc 3 6, 3) := by decide +kernel
theorem dL_law_1442 : decode cL_law 1442 = .ok (.goto (-1424), 3) := by decide +kernel
theorem dL_law_1445 : decode cL_law 1445 = .ok (.iconst 1, 1) := by decide +kernel
theorem dL_law_1446 : decode cL_law 1446 = .ok (.ireturn, 1) := by decide +kernel
