theorem dX6_putGrand_19 : decode cX6_putGrand 19 = .ok (.iinc 2 1, 3) := by decide +kernel
theorem dX6_putGrand_22 : decode cX6_putGrand 22 = .ok (.goto (-20), 3) := by decide +kernel
theorem dX6_putGrand_25 : decode cX6_putGrand 25 = .ok (.return_, 1) := by decide +kernel
theorem dX6_putCousin_0 : decode cX6_putCousin 0 = .ok (.aload_n 0, 1) := by decide +kernel
theorem dX6_putCousin_1 : decode cX6_putCousin 1 = .ok (.ldc 74, 2) := by decide +kernel
theorem dX6_putCousin_3 : decode cX6_putCousin 3 = .ok (.invokevirtual 20, 3) := by decide +kernel
theorem dX6_putCousin_6 : decode cX6_putCousin 6 = .ok (.aload_n 0, 1) := by decide +kernel
theorem dX6_putCousin_7 : decode cX6_putCousin 7 = .ok (.iload_n 1, 1) := by decide +kernel
theorem dX6_putCousin_8 : decode cX6_putCousin 8 = .ok (.iload_n 2, 1) := by decide +kernel
theorem dX6_putCousin_9 : decode cX6_putCousin 9 = .ok (.invokestatic 76, 3) := by decide +kernel
theorem dX6_putCousin_12 : decode cX6_putCousin 12 = .ok (.iconst 1, 1) := by decide +kernel
theorem dX6_putCousin_13 : decode cX6_putCousin 13 = .ok (.isub, 1) := by decide +kernel
theorem dX6_putCousin_14 : decode cX6_putCousin 14 = .ok (.invokevirtual 82, 3) := by decide +kernel
theorem dX6_putCousin_17 : decode cX6_putCousin 17 = .ok (.iload_n 1, 1) := by decide +kernel
theorem dX6_putCousin_18 : decode cX6_putCousin 18 = .ok (.iload_n 2, 1) := by decide +kernel
theorem dX6_putCousin_19 : decode cX6_putCousin 19 = .ok (.if_icmp .eq 19, 3) := by decide +kernel
theorem dX6_putCousin_22 : decode cX6_putCousin 22 = .ok (.aload_n 0, 1) := by decide +kernel
theorem dX6_putCousin_23 : decode cX6_putCousin 23 = .ok (.bipush 47, 2) := by decide +kernel
theorem dX6_putCousin_25 : decode cX6_putCousin 25 = .ok (.invokevirtual 86, 3) := by decide +kernel
theorem dX6_putCousin_28 : decode cX6_putCousin 28 = .ok (.aload_n 0, 1) := by decide +kernel
theorem dX6_putCousin_29 : decode cX6_putCousin 29 = .ok (.iload_n 1, 1) := by decide +kernel
theorem dX6_putCousin_30 : decode cX6_putCousin 30 = .ok (.iload_n 2, 1) := by decide +kernel
theorem dX6_putCousin_31 : decode cX6_putCousin 31 = .ok (.isub, 1) := by decide +kernel
theorem dX6_putCousin_32 : decode cX6_putCousin 32 = .ok (.invokestatic 89, 3) := by decide +kernel
theorem dX6_putCousin_35 : decode cX6_putCousin 35 = .ok (.invokevirtual 82, 3) := by decide +kernel
theorem dX6_putCousin_38 : decode cX6_putCousin 38 = .ok (.return_, 1) := by decide +kernel
theorem dX7_init_0 : decode cX7_init 0 = .ok (.aload_n 0, 1) := by decide +kernel
theorem dX7_init_1 : decode cX7_init 1 = .ok (.invokespecial 3, 3) := by decide +kernel
theorem dX7_init_4 : decode cX7_init 4 = .ok (.aload_n 0, 1) := by decide +kernel
theorem dX7_init_5 : decode cX7_init 5 = .ok (.bipush 30, 2) := by decide +kernel
theorem dX7_init_7 : decode cX7_init 7 = .ok (.newarray .int, 2) := by decide +kernel
theorem dX7_init_9 : decode cX7_init 9 = .ok (.putfield 9, 3) := by decide +kernel
theorem dX7_init_12 : decode cX7_init 12 = .ok (.aload_n 0, 1) := by decide +kernel
theorem dX7_init_13 : decode cX7_init 13 = .ok (.bipush 30, 2) := by decide +kernel
theorem dX7_init_15 : decode cX7_init 15 = .ok (.newarray .int, 2) := by decide +kernel
theorem dX7_init_17 : decode cX7_init 17 = .ok (.putfield 15, 3) := by decide +kernel
theorem dX7_init_20 : decode cX7_init 20 = .ok (.return_, 1) := by decide +kernel
theorem dX7_seek_0 : decode cX7_seek 0 = .ok (.aload_n 1, 1) := by decide +kernel
theorem dX7_seek_1 : decode cX7_seek 1 = .ok (.iload_n 2, 1) := by decide +kernel
theorem dX7_seek_2 : decode cX7_seek 2 = .ok (.aload_n 0, 1) := by decide +kernel
theorem dX7_seek_3 : decode cX7_seek 3 = .ok (.getfield 9, 3) := by decide +kernel
theorem dX7_seek_6 : decode cX7_seek 6 = .ok (.invokestatic 18, 3) := by decide +kernel
theorem dX7_seek_9 : decode cX7_seek 9 = .ok (.aload_n 1, 1) := by decide +kernel
theorem dX7_seek_10 : decode cX7_seek 10 = .ok (.iload_n 3, 1) := by decide +kernel
theorem dX7_seek_11 : decode cX7_seek 11 = .ok (.aload_n 0, 1) := by decide +kernel
theorem dX7_seek_12 : decode cX7_seek 12 = .ok (.getfield 15, 3) := by decide +kernel
theorem dX7_seek_15 : decode cX7_seek 15 = .ok (.invokestatic 18, 3) := by decide +kernel
theorem dX7_seek_18 : decode cX7_seek 18 = .ok (.aload_n 0, 1) := by decide +kernel
theorem dX7_seek_19 : decode cX7_seek 19 = .ok (.iconst (-1), 1) := by decide +kernel
theorem dX7_seek_20 : decode cX7_seek 20 = .ok (.putfield 22, 3) := by decide +kernel
theorem dX7_seek_23 : decode cX7_seek 23 = .ok (.iconst 0, 1) := by decide +kernel
theorem dX7_seek_24 : decode cX7_seek 24 = .ok (.istore 4, 2) := by decide +kernel
theorem dX7_seek_26 : decode cX7_seek 26 = .ok (.iload 4, 2) := by decide +kernel
theorem dX7_seek_28 : decode cX7_seek 28 = .ok (.bipush 30, 2) := by decide +kernel
theorem dX7_seek_30 : decode cX7_seek 30 = .ok (.if_icmp .ge 73, 3) := by decide +kernel
theorem dX7_seek_33 : decode cX7_seek 33 = .ok (.aload_n 0, 1) := by decide +kernel
theorem dX7_seek_34 : decode cX7_seek 34 = .ok (.getfield 9, 3) := by decide +kernel
theorem dX7_seek_37 : decode cX7_seek 37 = .ok (.iload 4, 2) := by decide +kernel
theorem dX7_seek_39 : decode cX7_seek 39 = .ok (.iaload, 1) := by decide +kernel
theorem dX7_seek_40 : decode cX7_seek 40 = .ok (.ifCond .lt 57, 3) := by decide +kernel
theorem dX7_seek_43 : decode cX7_seek 43 = .ok (.aload_n 0, 1) := by decide +kernel
theorem dX7_seek_44 : decode cX7_seek 44 = .ok (.getfield 15, 3) := by decide +kernel
theorem dX7_seek_47 : decode cX7_seek 47 = .ok (.iload 4, 2) := by decide +kernel
theorem dX7_seek_49 : decode cX7_seek 49 = .ok (.iaload, 1) := by decide +kernel
theorem dX7_seek_50 : decode cX7_seek 50 = .ok (.ifCond .lt 47, 3) := by decide +kernel
theorem dX7_seek_53 : decode cX7_seek 53 = .ok (.aload_n 0, 1) := by decide +kernel
theorem dX7_seek_54 : decode cX7_seek 54 = .ok (.getfield 22, 3) := by decide +kernel
theorem dX7_seek_57 : decode cX7_seek 57 = .ok (.ifCond .lt 12, 3) := by decide +kernel
theorem dX7_seek_60 : decode cX7_seek 60 = .ok (.aload_n 0, 1) := by decide +kernel
theorem dX7_seek_61 : decode cX7_seek 61 = .ok (.iload 4, 2) := by decide +kernel
theorem dX7_seek_63 : decode cX7_seek 63 = .ok (.invokevirtual 26, 3) := by decide +kernel
theorem dX7_seek_66 : decode cX7_seek 66 = .ok (.ifCond .eq 31, 3) := by decide +kernel
theorem dX7_seek_69 : decode cX7_seek 69 = .ok (.aload_n 0, 1) := by decide +kernel
theorem dX7_seek_70 : decode cX7_seek 70 = .ok (.iload 4, 2) := by decide +kernel
theorem dX7_seek_72 : decode cX7_seek 72 = .ok (.putfield 22, 3) := by decide +kernel
theorem dX7_seek_75 : decode cX7_seek 75 = .ok (.aload_n 0, 1) := by decide +kernel
theorem dX7_seek_76 : decode cX7_seek 76 = .ok (.aload_n 0, 1) := by decide +kernel
theorem dX7_seek_77 : decode cX7_seek 77 = .ok (.getfield 9, 3) := by decide +kernel
theorem dX7_seek_80 : decode cX7_seek 80 = .ok (.iload 4, 2) := by decide +kernel
theorem dX7_seek_82 : decode cX7_seek 82 = .ok (.iaload, 1) := by decide +kernel
theorem dX7_seek_83 : decode cX7_seek 83 = .ok (.putfield 30, 3) := by decide +kernel
theorem dX7_seek_86 : decode cX7_seek 86 = .ok (.aload_n 0, 1) := by decide +kernel
theorem dX7_seek_87 : decode cX7_seek 87 = .ok (.aload_n 0, 1) := by decide +kernel
theorem dX7_seek_88 : decode cX7_seek 88 = .ok (.getfield 15, 3) := by decide +kernel
theorem dX7_seek_91 : decode cX7_seek 91 = .ok (.iload 4, 2) := by decide +kernel
theorem dX7_seek_93 : decode cX7_seek 93 = .ok (.iaload, 1) := by decide +kernel
theorem dX7_seek_94 : decode cX7_seek 94 = .ok (.putfield 33, 3) := by decide +kernel
theorem dX7_seek_97 : decode cX7_seek 97 = .ok (.iinc 4 1, 3) := by decide +kernel
theorem dX7_seek_100 : decode cX7_seek 100 = .ok (.goto (-74), 3) := by decide +kernel
theorem dX7_seek_103 : decode cX7_seek 103 = .ok (.return_, 1) := by decide +kernel
theorem dX7_isNearer_0 : decode cX7_isNearer 0 = .ok (.aload_n 0, 1) := by decide +kernel
theorem dX7_isNearer_1 : decode cX7_isNearer 1 = .ok (.getfield 9, 3) := by decide +kernel
theorem dX7_isNearer_4 : decode cX7_isNearer 4 = .ok (.iload_n 1, 1) := by decide +kernel
theorem dX7_isNearer_5 : decode cX7_isNearer 5 = .ok (.iaload, 1) := by decide +kernel
theorem dX7_isNearer_6 : decode cX7_isNearer 6 = .ok (.aload_n 0, 1) := by decide +kernel
theorem dX7_isNearer_7 : decode cX7_isNearer 7 = .ok (.getfield 15, 3) := by decide +kernel
theorem dX7_isNearer_10 : decode cX7_isNearer 10 = .ok (.iload_n 1, 1) := by decide +kernel
theorem dX7_isNearer_11 : decode cX7_isNearer 11 = .ok (.iaload, 1) := by decide +kernel
theorem dX7_isNearer_12 : decode cX7_isNearer 12 = .ok (.iadd, 1) := by decide +kernel
theorem dX7_isNearer_13 : decode cX7_isNearer 13 = .ok (.istore_n 2, 1) := by decide +kernel
theorem dX7_isNearer_14 : decode cX7_isNearer 14 = .ok (.iload_n 2, 1) := by decide +kernel
theorem dX7_isNearer_15 : decode cX7_isNearer 15 = .ok (.aload_n 0, 1) := by decide +kernel
theorem dX7_isNearer_16 : decode cX7_isNearer 16 = .ok (.getfield 30, 3) := by decide +kernel
theorem dX7_isNearer_19 : decode cX7_isNearer 19 = .ok (.aload_n 0, 1) := by decide +kernel
theorem dX7_isNearer_20 : decode cX7_isNearer 20 = .ok (.getfield 33, 3) := by decide +kernel
theorem dX7_isNearer_23 : decode cX7_isNearer 23 = .ok (.iadd, 1) := by decide +kernel
theorem dX7_isNearer_24 : decode cX7_isNearer 24 = .ok (.if_icmp .lt 29, 3) := by decide +kernel
theorem dX7_isNearer_27 : decode cX7_isNearer 27 = .ok (.iload_n 2, 1) := by decide +kernel
theorem dX7_isNearer_28 : decode cX7_isNearer 28 = .ok (.aload_n 0, 1) := by decide +kernel
theorem dX7_isNearer_29 : decode cX7_isNearer 29 = .ok (.getfield 30, 3) := by decide +kernel
theorem dX7_isNearer_32 : decode cX7_isNearer 32 = .ok (.aload_n 0, 1) := by decide +kernel
theorem dX7_isNearer_33 : decode cX7_isNearer 33 = .ok (.getfield 33, 3) := by decide +kernel
theorem dX7_isNearer_36 : decode cX7_isNearer 36 = .ok (.iadd, 1) := by decide +kernel
theorem dX7_isNearer_37 : decode cX7_isNearer 37 = .ok (.if_icmp .ne 20, 3) := by decide +kernel
theorem dX7_isNearer_40 : decode cX7_isNearer 40 = .ok (.aload_n 0, 1) := by decide +kernel
theorem dX7_isNearer_41 : decode cX7_isNearer 41 = .ok (.getfield 9, 3) := by decide +kernel
theorem dX7_isNearer_44 : decode cX7_isNearer 44 = .ok (.iload_n 1, 1) := by decide +kernel
theorem dX7_isNearer_45 : decode cX7_isNearer 45 = .ok (.iaload, 1) := by decide +kernel
theorem dX7_isNearer_46 : decode cX7_isNearer 46 = .ok (.aload_n 0, 1) := by decide +kernel
theorem dX7_isNearer_47 : decode cX7_isNearer 47 = .ok (.getfield 30, 3) := by decide +kernel
theorem dX7_isNearer_50 : decode cX7_isNearer 50 = .ok (.if_icmp .ge 7, 3) := by decide +kernel
theorem dX7_isNearer_53 : decode cX7_isNearer 53 = .ok (.iconst 1, 1) := by decide +kernel
theorem dX7_isNearer_54 : decode cX7_isNearer 54 = .ok (.goto 4, 3) := by decide +kernel
theorem dX7_isNearer_57 : decode cX7_isNearer 57 = .ok (.iconst 0, 1) := by decide +kernel
theorem dX7_isNearer_58 : decode cX7_isNearer 58 = .ok (.ireturn, 1) := by decide +kernel
theorem dX7_count_0 : decode cX7_count 0 = .ok (.iconst 0, 1) := by decide +kernel
theorem dX7_count_1 : decode cX7_count 1 = .ok (.istore_n 3, 1) := by decide +kernel
theorem dX7_count_2 : decode cX7_count 2 = .ok (.iload_n 3, 1) := by decide +kernel
theorem dX7_count_3 : decode cX7_count 3 = .ok (.bipush 30, 2) := by decide +kernel
theorem dX7_count_5 : decode cX7_count 5 = .ok (.if_icmp .ge 13, 3) := by decide +kernel
theorem dX7_count_8 : decode cX7_count 8 = .ok (.aload_n 2, 1) := by decide +kernel
theorem dX7_count_9 : decode cX7_count 9 = .ok (.iload_n 3, 1) := by decide +kernel
theorem dX7_count_10 : decode cX7_count 10 = .ok (.iconst (-1), 1) := by decide +kernel
theorem dX7_count_11 : decode cX7_count 11 = .ok (.iastore, 1) := by decide +kernel
theorem dX7_count_12 : decode cX7_count 12 = .ok (.iinc 3 1, 3) := by decide +kernel
theorem dX7_count_15 : decode cX7_count 15 = .ok (.goto (-13), 3) := by decide +kernel
theorem dX7_count_18 : decode cX7_count 18 = .ok (.iconst 1, 1) := by decide +kernel
theorem dX7_count_19 : decode cX7_count 19 = .ok (.iload_n 1, 1) := by decide +kernel
theorem dX7_count_20 : decode cX7_count 20 = .ok (.ishl, 1) := by decide +kernel
theorem dX7_count_21 : decode cX7_count 21 = .ok (.istore_n 3, 1) := by decide +kernel
theorem dX7_count_22 : decode cX7_count 22 = .ok (.iconst 0, 1) := by decide +kernel
theorem dX7_count_23 : decode cX7_count 23 = .ok (.istore 4, 2) := by decide +kernel
theorem dX7_count_25 : decode cX7_count 25 = .ok (.iload 4, 2) := by decide +kernel
theorem dX7_count_27 : decode cX7_count 27 = .ok (.bipush 30, 2) := by decide +kernel
theorem dX7_count_29 : decode cX7_count 29 = .ok (.if_icmp .ge 69, 3) := by decide +kernel
theorem dX7_count_32 : decode cX7_count 32 = .ok (.iload_n 3, 1) := by decide +kernel
theorem dX7_count_33 : decode cX7_count 33 = .ok (.ifCond .eq 65, 3) := by decide +kernel
theorem dX7_count_36 : decode cX7_count 36 = .ok (.iconst 0, 1) := by decide +kernel
theorem dX7_count_37 : decode cX7_count 37 = .ok (.istore 5, 2) := by decide +kernel
theorem dX7_count_39 : decode cX7_count 39 = .ok (.iconst 0, 1) := by decide +kernel
theorem dX7_count_40 : decode cX7_count 40 = .ok (.istore 6, 2) := by decide +kernel
theorem dX7_count_42 : decode cX7_count 42 = .ok (.iload 6, 2) := by decide +kernel
theorem dX7_count_44 : decode cX7_count 44 = .ok (.bipush 30, 2) := by decide +kernel
theorem dX7_count_46 : decode cX7_count 46 = .ok (.if_icmp .ge 43, 3) := by decide +kernel
theorem dX7_count_49 : decode cX7_count 49 = .ok (.iload_n 3, 1) := by decide +kernel
theorem dX7_count_50 : decode cX7_count 50 = .ok (.iload 6, 2) := by decide +kernel
theorem dX7_count_52 : decode cX7_count 52 = .ok (.invokestatic 36, 3) := by decide +kernel
theorem dX7_count_55 : decode cX7_count 55 = .ok (.ifCond .eq 28, 3) := by decide +kernel
theorem dX7_count_58 : decode cX7_count 58 = .ok (.aload_n 2, 1) := by decide +kernel
theorem dX7_count_59 : decode cX7_count 59 = .ok (.iload 6, 2) := by decide +kernel
theorem dX7_count_61 : decode cX7_count 61 = .ok (.iaload, 1) := by decide +kernel
theorem dX7_count_62 : decode cX7_count 62 = .ok (.ifCond .ge 21, 3) := by decide +kernel
theorem dX7_count_65 : decode cX7_count 65 = .ok (.aload_n 2, 1) := by decide +kernel
theorem dX7_count_66 : decode cX7_count 66 = .ok (.iload 6, 2) := by decide +kernel
theorem dX7_count_68 : decode cX7_count 68 = .ok (.iload 4, 2) := by decide +kernel
theorem dX7_count_70 : decode cX7_count 70 = .ok (.iastore, 1) := by decide +kernel
theorem dX7_count_71 : decode cX7_count 71 = .ok (.iload 5, 2) := by decide +kernel
theorem dX7_count_73 : decode cX7_count 73 = .ok (.aload_n 0, 1) := by decide +kernel
theorem dX7_count_74 : decode cX7_count 74 = .ok (.getfield 42, 3) := by decide +kernel
theorem dX7_count_77 : decode cX7_count 77 = .ok (.iload 6, 2) := by decide +kernel
theorem dX7_count_79 : decode cX7_count 79 = .ok (.iaload, 1) := by decide +kernel
theorem dX7_count_80 : decode cX7_count 80 = .ok (.ior, 1) := by decide +kernel
theorem dX7_count_81 : decode cX7_count 81 = .ok (.istore 5, 2) := by decide +kernel
theorem dX7_count_83 : decode cX7_count 83 = .ok (.iinc 6 1, 3) := by decide +kernel
theorem dX7_count_86 : decode cX7_count 86 = .ok (.goto (-44), 3) := by decide +kernel
theorem dX7_count_89 : decode cX7_count 89 = .ok (.iload 5, 2) := by decide +kernel
theorem dX7_count_91 : decode cX7_count 91 = .ok (.istore_n 3, 1) := by decide +kernel
theorem dX7_count_92 : decode cX7_count 92 = .ok (.iinc 4 1, 3) := by decide +kernel
theorem dX7_count_95 : decode cX7_count 95 = .ok (.goto (-70), 3) := by decide +kernel
theorem dX7_count_98 : decode cX7_count 98 = .ok (.return_, 1) := by decide +kernel
theorem dX7_descend_0 : decode cX7_descend 0 = .ok (.aload_n 0, 1) := by decide +kernel
theorem dX7_descend_1 : decode cX7_descend 1 = .ok (.getfield 22, 3) := by decide +kernel
theorem dX7_descend_4 : decode cX7_descend 4 = .ok (.istore 4, 2) := by decide +kernel
theorem dX7_descend_6 : decode cX7_descend 6 = .ok (.iconst 0, 1) := by decide +kernel
theorem dX7_descend_7 : decode cX7_descend 7 = .ok (.istore 5, 2) := by decide +kernel
theorem dX7_descend_9 : decode cX7_descend 9 = .ok (.iload 5, 2) := by decide +kernel
theorem dX7_descend_11 : decode cX7_descend 11 = .ok (.iload_n 3, 1) := by decide +kernel
theorem dX7_descend_12 : decode cX7_descend 12 = .ok (.if_icmp .ge 25, 3) := by decide +kernel
theorem dX7_descend_15 : decode cX7_descend 15 = .ok (.iload 5, 2) := by decide +kernel
theorem dX7_descend_17 : decode cX7_descend 17 = .ok (.bipush 30, 2) := by decide +kernel
theorem dX7_descend_19 : decode cX7_descend 19 = .ok (.if_icmp .ge 18, 3) := by decide +kernel
theorem dX7_descend_22 : decode cX7_descend 22 = .ok (.aload_n 1, 1) := by decide +kernel
theorem dX7_descend_23 : decode cX7_descend 23 = .ok (.aload_n 2, 1) := by decide +kernel
theorem dX7_descend_24 : decode cX7_descend 24 = .ok (.iload 4, 2) := by decide +kernel
theorem dX7_descend_26 : decode cX7_descend 26 = .ok (.invokestatic 45, 3) := by decide +kernel
theorem dX7_descend_29 : decode cX7_descend 29 = .ok (.istore 4, 2) := by decide +kernel
theorem dX7_descend_31 : decode cX7_descend 31 = .ok (.iinc 5 1, 3) := by decide +kernel
theorem dX7_descend_34 : decode cX7_descend 34 = .ok (.goto (-25), 3) := by decide +kernel
theorem dX7_descend_37 : decode cX7_descend 37 = .ok (.iload 4, 2) := by decide +kernel
theorem dX7_descend_39 : decode cX7_descend 39 = .ok (.ireturn, 1) := by decide +kernel
theorem dX7_stepDown_0 : decode cX7_stepDown 0 = .ok (.iconst 0, 1) := by decide +kernel
theorem dX7_stepDown_1 : decode cX7_stepDown 1 = .ok (.istore_n 3, 1) := by decide +kernel
theorem dX7_stepDown_2 : decode cX7_stepDown 2 = .ok (.iload_n 3, 1) := by decide +kernel
theorem dX7_stepDown_3 : decode cX7_stepDown 3 = .ok (.bipush 30, 2) := by decide +kernel
theorem dX7_stepDown_5 : decode cX7_stepDown 5 = .ok (.if_icmp .ge 41, 3) := by decide +kernel
theorem dX7_stepDown_8 : decode cX7_stepDown 8 = .ok (.aload_n 1, 1) := by decide +kernel
theorem dX7_stepDown_9 : decode cX7_stepDown 9 = .ok (.iload_n 3, 1) := by decide +kernel
theorem dX7_stepDown_10 : decode cX7_stepDown 10 = .ok (.iaload, 1) := by decide +kernel
theorem dX7_stepDown_11 : decode cX7_stepDown 11 = .ok (.ifCond .lt 29, 3) := by decide +kernel
theorem dX7_stepDown_14 : decode cX7_stepDown 14 = .ok (.aload_n 1, 1) := by decide +kernel
theorem dX7_stepDown_15 : decode cX7_stepDown 15 = .ok (.iload_n 3, 1) := by decide +kernel
theorem dX7_stepDown_16 : decode cX7_stepDown 16 = .ok (.iaload, 1) := by decide +kernel
theorem dX7_stepDown_17 : decode cX7_stepDown 17 = .ok (.aload_n 1, 1) := by decide +kernel
theorem dX7_stepDown_18 : decode cX7_stepDown 18 = .ok (.iload_n 2, 1) := by decide +kernel
theorem dX7_stepDown_19 : decode cX7_stepDown 19 = .ok (.iaload, 1) := by decide +kernel
theorem dX7_stepDown_20 : decode cX7_stepDown 20 = .ok (.iconst 1, 1) := by decide +kernel
theorem dX7_stepDown_21 : decode cX7_stepDown 21 = .ok (.isub, 1) := by decide +kernel
theorem dX7_stepDown_22 : decode cX7_stepDown 22 = .ok (.if_icmp .ne 18, 3) := by decide +kernel
theorem dX7_stepDown_25 : decode cX7_stepDown 25 = .ok (.aload_n 0, 1) := by decide +kernel
theorem dX7_stepDown_26 : decode cX7_stepDown 26 = .ok (.getfield 42, 3) := by decide +kernel
theorem dX7_stepDown_29 : decode cX7_stepDown 29 = .ok (.iload_n 3, 1) := by decide +kernel
theorem dX7_stepDown_30 : decode cX7_stepDown 30 = .ok (.iaload, 1) := by decide +kernel
theorem dX7_stepDown_31 : decode cX7_stepDown 31 = .ok (.iload_n 2, 1) := by decide +kernel
theorem dX7_stepDown_32 : decode cX7_stepDown 32 = .ok (.invokestatic 36, 3) := by decide +kernel
theorem dX7_stepDown_35 : decode cX7_stepDown 35 = .ok (.ifCond .eq 5, 3) := by decide +kernel
theorem dX7_stepDown_38 : decode cX7_stepDown 38 = .ok (.iload_n 3, 1) := by decide +kernel
theorem dX7_stepDown_39 : decode cX7_stepDown 39 = .ok (.ireturn, 1) := by decide +kernel
theorem dX7_stepDown_40 : decode cX7_stepDown 40 = .ok (.iinc 3 1, 3) := by decide +kernel
theorem dX7_stepDown_43 : decode cX7_stepDown 43 = .ok (.goto (-41), 3) := by decide +kernel
theorem dX7_stepDown_46 : decode cX7_stepDown 46 = .ok (.iload_n 2, 1) := by decide +kernel
theorem dX7_stepDown_47 : decode cX7_stepDown 47 = .ok (.ireturn, 1) := by decide +kernel
theorem dX7_stop_0 : decode cX7_stop 0 = .ok (.iload_n 2, 1) := by decide +kernel
theorem dX7_stop_1 : decode cX7_stop 1 = .ok (.aload_n 0, 1) := by decide +kernel
theorem dX7_stop_2 : decode cX7_stop 2 = .ok (.getfield 30, 3) := by decide +kernel
theorem dX7_stop_5 : decode cX7_stop 5 = .ok (.if_icmp .gt 21, 3) := by decide +kernel
theorem dX7_stop_8 : decode cX7_stop 8 = .ok (.aload_n 0, 1) := by decide +kernel
theorem dX7_stop_9 : decode cX7_stop 9 = .ok (.aload_n 1, 1) := by decide +kernel
theorem dX7_stop_10 : decode cX7_stop 10 = .ok (.aload_n 0, 1) := by decide +kernel
theorem dX7_stop_11 : decode cX7_stop 11 = .ok (.getfield 9, 3) := by decide +kernel
theorem dX7_stop_14 : decode cX7_stop 14 = .ok (.aload_n 0, 1) := by decide +kernel
theorem dX7_stop_15 : decode cX7_stop 15 = .ok (.getfield 30, 3) := by decide +kernel
theorem dX7_stop_18 : decode cX7_stop 18 = .ok (.iload_n 2, 1) := by decide +kernel
theorem dX7_stop_19 : decode cX7_stop 19 = .ok (.isub, 1) := by decide +kernel
theorem dX7_stop_20 : decode cX7_stop 20 = .ok (.invokevirtual 49, 3) := by decide +kernel
theorem dX7_stop_23 : decode cX7_stop 23 = .ok (.goto 18, 3) := by decide +kernel
theorem dX7_stop_26 : decode cX7_stop 26 = .ok (.aload_n 0, 1) := by decide +kernel
theorem dX7_stop_27 : decode cX7_stop 27 = .ok (.aload_n 1, 1) := by decide +kernel
theorem dX7_stop_28 : decode cX7_stop 28 = .ok (.aload_n 0, 1) := by decide +kernel
theorem dX7_stop_29 : decode cX7_stop 29 = .ok (.getfield 15, 3) := by decide +kernel
theorem dX7_stop_32 : decode cX7_stop 32 = .ok (.iload_n 2, 1) := by decide +kernel
theorem dX7_stop_33 : decode cX7_stop 33 = .ok (.aload_n 0, 1) := by decide +kernel
theorem dX7_stop_34 : decode cX7_stop 34 = .ok (.getfield 30, 3) := by decide +kernel
theorem dX7_stop_37 : decode cX7_stop 37 = .ok (.isub, 1) := by decide +kernel
theorem dX7_stop_38 : decode cX7_stop 38 = .ok (.invokevirtual 49, 3) := by decide +kernel
theorem dX7_stop_41 : decode cX7_stop 41 = .ok (.ireturn, 1) := by decide +kernel
theorem dX7_isHalf_0 : decode cX7_isHalf 0 = .ok (.aload_n 0, 1) := by decide +kernel
theorem dX7_isHalf_1 : decode cX7_isHalf 1 = .ok (.getfield 30, 3) := by decide +kernel
theorem dX7_isHalf_4 : decode cX7_isHalf 4 = .ok (.iconst 1, 1) := by decide +kernel
theorem dX7_isHalf_5 : decode cX7_isHalf 5 = .ok (.if_icmp .lt 42, 3) := by decide +kernel
theorem dX7_isHalf_8 : decode cX7_isHalf 8 = .ok (.aload_n 0, 1) := by decide +kernel
theorem dX7_isHalf_9 : decode cX7_isHalf 9 = .ok (.getfield 33, 3) := by decide +kernel
theorem dX7_isHalf_12 : decode cX7_isHalf 12 = .ok (.iconst 1, 1) := by decide +kernel
theorem dX7_isHalf_13 : decode cX7_isHalf 13 = .ok (.if_icmp .lt 34, 3) := by decide +kernel
theorem dX7_isHalf_16 : decode cX7_isHalf 16 = .ok (.aload_n 1, 1) := by decide +kernel
theorem dX7_isHalf_17 : decode cX7_isHalf 17 = .ok (.aload_n 0, 1) := by decide +kernel
theorem dX7_isHalf_18 : decode cX7_isHalf 18 = .ok (.aload_n 1, 1) := by decide +kernel
theorem dX7_isHalf_19 : decode cX7_isHalf 19 = .ok (.aload_n 0, 1) := by decide +kernel
theorem dX7_isHalf_20 : decode cX7_isHalf 20 = .ok (.getfield 9, 3) := by decide +kernel
theorem dX7_isHalf_23 : decode cX7_isHalf 23 = .ok (.iconst 1, 1) := by decide +kernel
theorem dX7_isHalf_24 : decode cX7_isHalf 24 = .ok (.invokevirtual 49, 3) := by decide +kernel
theorem dX7_isHalf_27 : decode cX7_isHalf 27 = .ok (.aload_n 0, 1) := by decide +kernel
theorem dX7_isHalf_28 : decode cX7_isHalf 28 = .ok (.aload_n 1, 1) := by decide +kernel
theorem dX7_isHalf_29 : decode cX7_isHalf 29 = .ok (.aload_n 0, 1) := by decide +kernel
theorem dX7_isHalf_30 : decode cX7_isHalf 30 = .ok (.getfield 15, 3) := by decide +kernel
theorem dX7_isHalf_33 : decode cX7_isHalf 33 = .ok (.iconst 1, 1) := by decide +kernel
theorem dX7_isHalf_34 : decode cX7_isHalf 34 = .ok (.invokevirtual 49, 3) := by decide +kernel
theorem dX7_isHalf_37 : decode cX7_isHalf 37 = .ok (.invokevirtual 52, 3) := by decide +kernel
theorem dX7_isHalf_40 : decode cX7_isHalf 40 = .ok (.ifCond .ne 7, 3) := by decide +kernel
theorem dX7_isHalf_43 : decode cX7_isHalf 43 = .ok (.iconst 1, 1) := by decide +kernel
theorem dX7_isHalf_44 : decode cX7_isHalf 44 = .ok (.goto 4, 3) := by decide +kernel
theorem dX7_isHalf_47 : decode cX7_isHalf 47 = .ok (.iconst 0, 1) := by decide +kernel
theorem dX7_isHalf_48 : decode cX7_isHalf 48 = .ok (.ireturn, 1) := by decide +kernel
theorem dX8_init_0 : decode cX8_init 0 = .ok (.aload_n 0, 1) := by decide +kernel
theorem dX8_init_1 : decode cX8_init 1 = .ok (.invokespecial 3, 3) := by decide +kernel
theorem dX8_init_4 : decode cX8_init 4 = .ok (.aload_n 0, 1) := by decide +kernel
theorem dX8_init_5 : decode cX8_init 5 = .ok (.bipush 61, 2) := by decide +kernel
theorem dX8_init_7 : decode cX8_init 7 = .ok (.newarray .int, 2) := by decide +kernel
theorem dX8_init_9 : decode cX8_init 9 = .ok (.putfield 9, 3) := by decide +kernel
theorem dX8_init_12 : decode cX8_init 12 = .ok (.aload_n 0, 1) := by decide +kernel
theorem dX8_init_13 : decode cX8_init 13 = .ok (.new 15, 3) := by decide +kernel
theorem dX8_init_16 : decode cX8_init 16 = .ok (.dup, 1) := by decide +kernel
theorem dX8_init_17 : decode cX8_init 17 = .ok (.invokespecial 17, 3) := by decide +kernel
theorem dX8_init_20 : decode cX8_init 20 = .ok (.putfield 18, 3) := by decide +kernel
theorem dX8_init_23 : decode cX8_init 23 = .ok (.aload_n 0, 1) := by decide +kernel
theorem dX8_init_24 : decode cX8_init 24 = .ok (.new 22, 3) := by decide +kernel
theorem dX8_init_27 : decode cX8_init 27 = .ok (.dup, 1) := by decide +kernel
theorem dX8_init_28 : decode cX8_init 28 = .ok (.invokespecial 24, 3) := by decide +kernel
theorem dX8_init_31 : decode cX8_init 31 = .ok (.putfield 25, 3) := by decide +kernel
theorem dX8_init_34 : decode cX8_init 34 = .ok (.aload_n 0, 1) := by decide +kernel
theorem dX8_init_35 : decode cX8_init 35 = .ok (.bipush 30, 2) := by decide +kernel
theorem dX8_init_37 : decode cX8_init 37 = .ok (.newarray .int, 2) := by decide +kernel
theorem dX8_init_39 : decode cX8_init 39 = .ok (.putfield 29, 3) := by decide +kernel
theorem dX8_init_42 : decode cX8_init 42 = .ok (.return_, 1) := by decide +kernel
theorem dX8_work_0 : decode cX8_work 0 = .ok (.aload_n 0, 1) := by decide +kernel
theorem dX8_work_1 : decode cX8_work 1 = .ok (.iconst 0, 1) := by decide +kernel
theorem dX8_work_2 : decode cX8_work 2 = .ok (.putfield 32, 3) := by decide +kernel
theorem dX8_work_5 : decode cX8_work 5 = .ok (.iconst 0, 1) := by decide +kernel
theorem dX8_work_6 : decode cX8_work 6 = .ok (.istore 5, 2) := by decide +kernel
theorem dX8_work_8 : decode cX8_work 8 = .ok (.iload 5, 2) := by decide +kernel
theorem dX8_work_10 : decode cX8_work 10 = .ok (.iload_n 2, 1) := by decide +kernel
theorem dX8_work_11 : decode cX8_work 11 = .ok (.if_icmp .ge 54, 3) := by decide +kernel
theorem dX8_work_14 : decode cX8_work 14 = .ok (.iload 5, 2) := by decide +kernel
theorem dX8_work_16 : decode cX8_work 16 = .ok (.bipush 60, 2) := by decide +kernel
theorem dX8_work_18 : decode cX8_work 18 = .ok (.if_icmp .gt 47, 3) := by decide +kernel
theorem dX8_work_21 : decode cX8_work 21 = .ok (.iload 5, 2) := by decide +kernel
theorem dX8_work_23 : decode cX8_work 23 = .ok (.iload_n 3, 1) := by decide +kernel
theorem dX8_work_24 : decode cX8_work 24 = .ok (.if_icmp .eq 35, 3) := by decide +kernel
theorem dX8_work_27 : decode cX8_work 27 = .ok (.aload_n 1, 1) := by decide +kernel
theorem dX8_work_28 : decode cX8_work 28 = .ok (.getfield 36, 3) := by decide +kernel
theorem dX8_work_31 : decode cX8_work 31 = .ok (.iload 5, 2) := by decide +kernel
theorem dX8_work_33 : decode cX8_work 33 = .ok (.iaload, 1) := by decide +kernel
theorem dX8_work_34 : decode cX8_work 34 = .ok (.iconst 1, 1) := by decide +kernel
theorem dX8_work_35 : decode cX8_work 35 = .ok (.if_icmp .ne 24, 3) := by decide +kernel
theorem dX8_work_38 : decode cX8_work 38 = .ok (.aload_n 0, 1) := by decide +kernel
theorem dX8_work_39 : decode cX8_work 39 = .ok (.getfield 9, 3) := by decide +kernel
theorem dX8_work_42 : decode cX8_work 42 = .ok (.aload_n 0, 1) := by decide +kernel
theorem dX8_work_43 : decode cX8_work 43 = .ok (.getfield 32, 3) := by decide +kernel
theorem dX8_work_46 : decode cX8_work 46 = .ok (.iload 5, 2) := by decide +kernel
theorem dX8_work_48 : decode cX8_work 48 = .ok (.iastore, 1) := by decide +kernel
theorem dX8_work_49 : decode cX8_work 49 = .ok (.aload_n 0, 1) := by decide +kernel
theorem dX8_work_50 : decode cX8_work 50 = .ok (.dup, 1) := by decide +kernel
theorem dX8_work_51 : decode cX8_work 51 = .ok (.getfield 32, 3) := by decide +kernel
theorem dX8_work_54 : decode cX8_work 54 = .ok (.iconst 1, 1) := by decide +kernel
theorem dX8_work_55 : decode cX8_work 55 = .ok (.iadd, 1) := by decide +kernel
theorem dX8_work_56 : decode cX8_work 56 = .ok (.putfield 32, 3) := by decide +kernel
theorem dX8_work_59 : decode cX8_work 59 = .ok (.iinc 5 1, 3) := by decide +kernel
theorem dX8_work_62 : decode cX8_work 62 = .ok (.goto (-54), 3) := by decide +kernel
theorem dX8_work_65 : decode cX8_work 65 = .ok (.aload_n 0, 1) := by decide +kernel
theorem dX8_work_66 : decode cX8_work 66 = .ok (.getfield 18, 3) := by decide +kernel
theorem dX8_work_69 : decode cX8_work 69 = .ok (.aload_n 1, 1) := by decide +kernel
theorem dX8_work_70 : decode cX8_work 70 = .ok (.aload_n 0, 1) := by decide +kernel
theorem dX8_work_71 : decode cX8_work 71 = .ok (.getfield 9, 3) := by decide +kernel
theorem dX8_work_74 : decode cX8_work 74 = .ok (.aload_n 0, 1) := by decide +kernel
theorem dX8_work_75 : decode cX8_work 75 = .ok (.getfield 32, 3) := by decide +kernel
theorem dX8_work_78 : decode cX8_work 78 = .ok (.invokevirtual 41, 3) := by decide +kernel
theorem dX8_work_81 : decode cX8_work 81 = .ok (.aload_n 0, 1) := by decide +kernel
theorem dX8_work_82 : decode cX8_work 82 = .ok (.getfield 25, 3) := by decide +kernel
theorem dX8_work_85 : decode cX8_work 85 = .ok (.invokevirtual 45, 3) := by decide +kernel
theorem dX8_work_88 : decode cX8_work 88 = .ok (.aload_n 0, 1) := by decide +kernel
theorem dX8_work_89 : decode cX8_work 89 = .ok (.iconst 0, 1) := by decide +kernel
theorem dX8_work_90 : decode cX8_work 90 = .ok (.putfield 48, 3) := by decide +kernel
theorem dX8_work_93 : decode cX8_work 93 = .ok (.aload_n 0, 1) := by decide +kernel
theorem dX8_work_94 : decode cX8_work 94 = .ok (.bipush (-5), 2) := by decide +kernel
theorem dX8_work_96 : decode cX8_work 96 = .ok (.putfield 51, 3) := by decide +kernel
theorem dX8_work_99 : decode cX8_work 99 = .ok (.aload_n 0, 1) := by decide +kernel
theorem dX8_work_100 : decode cX8_work 100 = .ok (.iconst 1, 1) := by decide +kernel
theorem dX8_work_101 : decode cX8_work 101 = .ok (.aload_n 0, 1) := by decide +kernel
theorem dX8_work_102 : decode cX8_work 102 = .ok (.getfield 18, 3) := by decide +kernel
theorem dX8_work_105 : decode cX8_work 105 = .ok (.invokevirtual 54, 3) := by decide +kernel
theorem dX8_work_108 : decode cX8_work 108 = .ok (.invokevirtual 58, 3) := by decide +kernel
theorem dX8_work_111 : decode cX8_work 111 = .ok (.aload_n 0, 1) := by decide +kernel
theorem dX8_work_112 : decode cX8_work 112 = .ok (.iconst 2, 1) := by decide +kernel
theorem dX8_work_113 : decode cX8_work 113 = .ok (.aload_n 0, 1) := by decide +kernel
theorem dX8_work_114 : decode cX8_work 114 = .ok (.getfield 18, 3) := by decide +kernel
theorem dX8_work_117 : decode cX8_work 117 = .ok (.invokevirtual 62, 3) := by decide +kernel
theorem dX8_work_120 : decode cX8_work 120 = .ok (.invokevirtual 58, 3) := by decide +kernel
theorem dX8_work_123 : decode cX8_work 123 = .ok (.aload_n 0, 1) := by decide +kernel
theorem dX8_work_124 : decode cX8_work 124 = .ok (.iconst 3, 1) := by decide +kernel
theorem dX8_work_125 : decode cX8_work 125 = .ok (.aload_n 0, 1) := by decide +kernel
theorem dX8_work_126 : decode cX8_work 126 = .ok (.getfield 18, 3) := by decide +kernel
theorem dX8_work_129 : decode cX8_work 129 = .ok (.invokevirtual 65, 3) := by decide +kernel
theorem dX8_work_132 : decode cX8_work 132 = .ok (.invokevirtual 58, 3) := by decide +kernel
theorem dX8_work_135 : decode cX8_work 135 = .ok (.aload_n 0, 1) := by decide +kernel
theorem dX8_work_136 : decode cX8_work 136 = .ok (.getfield 48, 3) := by decide +kernel
theorem dX8_work_139 : decode cX8_work 139 = .ok (.ifCond .ne 29, 3) := by decide +kernel
theorem dX8_work_142 : decode cX8_work 142 = .ok (.aload_n 0, 1) := by decide +kernel
theorem dX8_work_143 : decode cX8_work 143 = .ok (.aload_n 1, 1) := by decide +kernel
theorem dX8_work_144 : decode cX8_work 144 = .ok (.invokevirtual 68, 3) := by decide +kernel
theorem dX8_work_147 : decode cX8_work 147 = .ok (.aload_n 0, 1) := by decide +kernel
theorem dX8_work_148 : decode cX8_work 148 = .ok (.aload_n 0, 1) := by decide +kernel
theorem dX8_work_149 : decode cX8_work 149 = .ok (.getfield 25, 3) := by decide +kernel
theorem dX8_work_152 : decode cX8_work 152 = .ok (.iload 4, 2) := by decide +kernel
theorem dX8_work_154 : decode cX8_work 154 = .ok (.invokevirtual 72, 3) := by decide +kernel
theorem dX8_work_157 : decode cX8_work 157 = .ok (.ifCond .eq 7, 3) := by decide +kernel
theorem dX8_work_160 : decode cX8_work 160 = .ok (.iconst 0, 1) := by decide +kernel
theorem dX8_work_161 : decode cX8_work 161 = .ok (.goto 4, 3) := by decide +kernel
theorem dX8_work_164 : decode cX8_work 164 = .ok (.iconst 4, 1) := by decide +kernel
theorem dX8_work_165 : decode cX8_work 165 = .ok (.putfield 48, 3) := by decide +kernel
theorem dX8_work_168 : decode cX8_work 168 = .ok (.return_, 1) := by decide +kernel
theorem dX8_note_0 : decode cX8_note 0 = .ok (.aload_n 0, 1) := by decide +kernel
theorem dX8_note_1 : decode cX8_note 1 = .ok (.getfield 48, 3) := by decide +kernel
theorem dX8_note_4 : decode cX8_note 4 = .ok (.ifCond .ne 17, 3) := by decide +kernel
theorem dX8_note_7 : decode cX8_note 7 = .ok (.iload_n 2, 1) := by decide +kernel
theorem dX8_note_8 : decode cX8_note 8 = .ok (.ifCond .lt 13, 3) := by decide +kernel
theorem dX8_note_11 : decode cX8_note 11 = .ok (.aload_n 0, 1) := by decide +kernel
theorem dX8_note_12 : decode cX8_note 12 = .ok (.iload_n 1, 1) := by decide +kernel
theorem dX8_note_13 : decode cX8_note 13 = .ok (.putfield 48, 3) := by decide +kernel
theorem dX8_note_16 : decode cX8_note 16 = .ok (.aload_n 0, 1) := by decide +kernel
theorem dX8_note_17 : decode cX8_note 17 = .ok (.iload_n 2, 1) := by decide +kernel
theorem dX8_note_18 : decode cX8_note 18 = .ok (.putfield 51, 3) := by decide +kernel
theorem dX8_note_21 : decode cX8_note 21 = .ok (.return_, 1) := by decide +kernel
theorem dX8_takeRules_0 : decode cX8_takeRules 0 = .ok (.iconst 0, 1) := by decide +kernel
theorem dX8_takeRules_1 : decode cX8_takeRules 1 = .ok (.istore_n 2, 1) := by decide +kernel
theorem dX8_takeRules_2 : decode cX8_takeRules 2 = .ok (.iload_n 2, 1) := by decide +kernel
theorem dX8_takeRules_3 : decode cX8_takeRules 3 = .ok (.bipush 30, 2) := by decide +kernel
theorem dX8_takeRules_5 : decode cX8_takeRules 5 = .ok (.if_icmp .ge 31, 3) := by decide +kernel
theorem dX8_takeRules_8 : decode cX8_takeRules 8 = .ok (.aload_n 0, 1) := by decide +kernel
theorem dX8_takeRules_9 : decode cX8_takeRules 9 = .ok (.getfield 18, 3) := by decide +kernel
theorem dX8_takeRules_12 : decode cX8_takeRules 12 = .ok (.getfield 76, 3) := by decide +kernel
theorem dX8_takeRules_15 : decode cX8_takeRules 15 = .ok (.iload_n 2, 1) := by decide +kernel
theorem dX8_takeRules_16 : decode cX8_takeRules 16 = .ok (.invokestatic 79, 3) := by decide +kernel
theorem dX8_takeRules_19 : decode cX8_takeRules 19 = .ok (.ifCond .eq 11, 3) := by decide +kernel
theorem dX8_takeRules_22 : decode cX8_takeRules 22 = .ok (.aload_n 0, 1) := by decide +kernel
theorem dX8_takeRules_23 : decode cX8_takeRules 23 = .ok (.getfield 25, 3) := by decide +kernel
theorem dX8_takeRules_26 : decode cX8_takeRules 26 = .ok (.iload_n 2, 1) := by decide +kernel
theorem dX8_takeRules_27 : decode cX8_takeRules 27 = .ok (.invokevirtual 83, 3) := by decide +kernel
theorem dX8_takeRules_30 : decode cX8_takeRules 30 = .ok (.iinc 2 1, 3) := by decide +kernel
theorem dX8_takeRules_33 : decode cX8_takeRules 33 = .ok (.goto (-31), 3) := by decide +kernel
theorem dX8_takeRules_36 : decode cX8_takeRules 36 = .ok (.iconst 0, 1) := by decide +kernel
theorem dX8_takeRules_37 : decode cX8_takeRules 37 = .ok (.istore_n 2, 1) := by decide +kernel
theorem dX8_takeRules_38 : decode cX8_takeRules 38 = .ok (.iload_n 2, 1) := by decide +kernel
theorem dX8_takeRules_39 : decode cX8_takeRules 39 = .ok (.aload_n 0, 1) := by decide +kernel
theorem dX8_takeRules_40 : decode cX8_takeRules 40 = .ok (.getfield 32, 3) := by decide +kernel
theorem dX8_takeRules_43 : decode cX8_takeRules 43 = .ok (.if_icmp .ge 27, 3) := by decide +kernel
theorem dX8_takeRules_46 : decode cX8_takeRules 46 = .ok (.aload_n 0, 1) := by decide +kernel
theorem dX8_takeRules_47 : decode cX8_takeRules 47 = .ok (.getfield 25, 3) := by decide +kernel
theorem dX8_takeRules_50 : decode cX8_takeRules 50 = .ok (.aload_n 1, 1) := by decide +kernel
theorem dX8_takeRules_51 : decode cX8_takeRules 51 = .ok (.aload_n 0, 1) := by decide +kernel
theorem dX8_takeRules_52 : decode cX8_takeRules 52 = .ok (.getfield 18, 3) := by decide +kernel
theorem dX8_takeRules_55 : decode cX8_takeRules 55 = .ok (.aload_n 0, 1) := by decide +kernel
theorem dX8_takeRules_56 : decode cX8_takeRules 56 = .ok (.getfield 9, 3) := by decide +kernel
theorem dX8_takeRules_59 : decode cX8_takeRules 59 = .ok (.iload_n 2, 1) := by decide +kernel
theorem dX8_takeRules_60 : decode cX8_takeRules 60 = .ok (.iaload, 1) := by decide +kernel
theorem dX8_takeRules_61 : decode cX8_takeRules 61 = .ok (.invokevirtual 87, 3) := by decide +kernel
theorem dX8_takeRules_64 : decode cX8_takeRules 64 = .ok (.iinc 2 1, 3) := by decide +kernel
theorem dX8_takeRules_67 : decode cX8_takeRules 67 = .ok (.goto (-29), 3) := by decide +kernel
theorem dX8_takeRules_70 : decode cX8_takeRules 70 = .ok (.return_, 1) := by decide +kernel
theorem dX8_tellClashing_0 : decode cX8_tellClashing 0 = .ok (.aload_n 0, 1) := by decide +kernel
theorem dX8_tellClashing_1 : decode cX8_tellClashing 1 = .ok (.getfield 48, 3) := by decide +kernel
theorem dX8_tellClashing_4 : decode cX8_tellClashing 4 = .ok (.iconst 4, 1) := by decide +kernel
theorem dX8_tellClashing_5 : decode cX8_tellClashing 5 = .ok (.if_icmp .ne 16, 3) := by decide +kernel
theorem dX8_tellClashing_8 : decode cX8_tellClashing 8 = .ok (.aload_n 0, 1) := by decide +kernel
theorem dX8_tellClashing_9 : decode cX8_tellClashing 9 = .ok (.getfield 25, 3) := by decide +kernel
theorem dX8_tellClashing_12 : decode cX8_tellClashing 12 = .ok (.getfield 91, 3) := by decide +kernel
theorem dX8_tellClashing_15 : decode cX8_tellClashing 15 = .ok (.invokestatic 94, 3) := by decide +kernel
theorem dX8_tellClashing_18 : decode cX8_tellClashing 18 = .ok (.goto 7, 3) := by decide +kernel
theorem dX8_tellClashing_21 : decode cX8_tellClashing 21 = .ok (.aload_n 0, 1) := by decide +kernel
theorem dX8_tellClashing_22 : decode cX8_tellClashing 22 = .ok (.getfield 51, 3) := by decide +kernel
theorem dX8_tellClashing_25 : decode cX8_tellClashing 25 = .ok (.ireturn, 1) := by decide +kernel
theorem dX8_sortPeople_0 : decode cX8_sortPeople 0 = .ok (.iconst 0, 1) := by decide +kernel
theorem dX8_sortPeople_1 : decode cX8_sortPeople 1 = .ok (.istore_n 1, 1) := by decide +kernel
theorem dX8_sortPeople_2 : decode cX8_sortPeople 2 = .ok (.iconst 0, 1) := by decide +kernel
theorem dX8_sortPeople_3 : decode cX8_sortPeople 3 = .ok (.istore_n 2, 1) := by decide +kernel
theorem dX8_sortPeople_4 : decode cX8_sortPeople 4 = .ok (.iload_n 2, 1) := by decide +kernel
theorem dX8_sortPeople_5 : decode cX8_sortPeople 5 = .ok (.bipush 30, 2) := by decide +kernel
theorem dX8_sortPeople_7 : decode cX8_sortPeople 7 = .ok (.if_icmp .ge 87, 3) := by decide +kernel
theorem dX8_sortPeople_10 : decode cX8_sortPeople 10 = .ok (.aload_n 0, 1) := by decide +kernel
theorem dX8_sortPeople_11 : decode cX8_sortPeople 11 = .ok (.getfield 18, 3) := by decide +kernel
theorem dX8_sortPeople_14 : decode cX8_sortPeople 14 = .ok (.getfield 76, 3) := by decide +kernel
theorem dX8_sortPeople_17 : decode cX8_sortPeople 17 = .ok (.iload_n 2, 1) := by decide +kernel
theorem dX8_sortPeople_18 : decode cX8_sortPeople 18 = .ok (.invokestatic 79, 3) := by decide +kernel
theorem dX8_sortPeople_21 : decode cX8_sortPeople 21 = .ok (.ifCond .eq 67, 3) := by decide +kernel
theorem dX8_sortPeople_24 : decode cX8_sortPeople 24 = .ok (.iload_n 1, 1) := by decide +kernel
theorem dX8_sortPeople_25 : decode cX8_sortPeople 25 = .ok (.istore_n 3, 1) := by decide +kernel
theorem dX8_sortPeople_26 : decode cX8_sortPeople 26 = .ok (.iload_n 1, 1) := by decide +kernel
theorem dX8_sortPeople_27 : decode cX8_sortPeople 27 = .ok (.istore 4, 2) := by decide +kernel
theorem dX8_sortPeople_29 : decode cX8_sortPeople 29 = .ok (.iload 4, 2) := by decide +kernel
theorem dX8_sortPeople_31 : decode cX8_sortPeople 31 = .ok (.ifCond .le 47, 3) := by decide +kernel
theorem dX8_sortPeople_34 : decode cX8_sortPeople 34 = .ok (.aload_n 0, 1) := by decide +kernel
theorem dX8_sortPeople_35 : decode cX8_sortPeople 35 = .ok (.iload_n 2, 1) := by decide +kernel
theorem dX8_sortPeople_36 : decode cX8_sortPeople 36 = .ok (.aload_n 0, 1) := by decide +kernel
theorem dX8_sortPeople_37 : decode cX8_sortPeople 37 = .ok (.getfield 29, 3) := by decide +kernel
theorem dX8_sortPeople_40 : decode cX8_sortPeople 40 = .ok (.iload 4, 2) := by decide +kernel
theorem dX8_sortPeople_42 : decode cX8_sortPeople 42 = .ok (.iconst 1, 1) := by decide +kernel
theorem dX8_sortPeople_43 : decode cX8_sortPeople 43 = .ok (.isub, 1) := by decide +kernel
theorem dX8_sortPeople_44 : decode cX8_sortPeople 44 = .ok (.iaload, 1) := by decide +kernel
theorem dX8_sortPeople_45 : decode cX8_sortPeople 45 = .ok (.invokevirtual 98, 3) := by decide +kernel
theorem dX8_sortPeople_48 : decode cX8_sortPeople 48 = .ok (.ifCond .eq 30, 3) := by decide +kernel
theorem dX8_sortPeople_51 : decode cX8_sortPeople 51 = .ok (.aload_n 0, 1) := by decide +kernel
theorem dX8_sortPeople_52 : decode cX8_sortPeople 52 = .ok (.getfield 29, 3) := by decide +kernel
theorem dX8_sortPeople_55 : decode cX8_sortPeople 55 = .ok (.iload 4, 2) := by decide +kernel
theorem dX8_sortPeople_57 : decode cX8_sortPeople 57 = .ok (.aload_n 0, 1) := by decide +kernel
theorem dX8_sortPeople_58 : decode cX8_sortPeople 58 = .ok (.getfield 29, 3) := by decide +kernel
theorem dX8_sortPeople_61 : decode cX8_sortPeople 61 = .ok (.iload 4, 2) := by decide +kernel
theorem dX8_sortPeople_63 : decode cX8_sortPeople 63 = .ok (.iconst 1, 1) := by decide +kernel
theorem dX8_sortPeople_64 : decode cX8_sortPeople 64 = .ok (.isub, 1) := by decide +kernel
theorem dX8_sortPeople_65 : decode cX8_sortPeople 65 = .ok (.iaload, 1) := by decide +kernel
theorem dX8_sortPeople_66 : decode cX8_sortPeople 66 = .ok (.iastore, 1) := by decide +kernel
theorem dX8_sortPeople_67 : decode cX8_sortPeople 67 = .ok (.iload 4, 2) := by decide +kernel
theorem dX8_sortPeople_69 : decode cX8_sortPeople 69 = .ok (.iconst 1, 1) := by decide +kernel
theorem dX8_sortPeople_70 : decode cX8_sortPeople 70 = .ok (.isub, 1) := by decide +kernel
theorem dX8_sortPeople_71 : decode cX8_sortPeople 71 = .ok (.istore_n 3, 1) := by decide +kernel
theorem dX8_sortPeople_72 : decode cX8_sortPeople 72 = .ok (.iinc 4 (-1), 3) := by decide +kernel
theorem dX8_sortPeople_75 : decode cX8_sortPeople 75 = .ok (.goto (-46), 3) := by decide +kernel
theorem dX8_sortPeople_78 : decode cX8_sortPeople 78 = .ok (.aload_n 0, 1) := by decide +kernel
theorem dX8_sortPeople_79 : decode cX8_sortPeople 79 = .ok (.getfield 29, 3) := by decide +kernel
theorem dX8_sortPeople_82 : decode cX8_sortPeople 82 = .ok (.iload_n 3, 1) := by decide +kernel
theorem dX8_sortPeople_83 : decode cX8_sortPeople 83 = .ok (.iload_n 2, 1) := by decide +kernel
theorem dX8_sortPeople_84 : decode cX8_sortPeople 84 = .ok (.iastore, 1) := by decide +kernel
theorem dX8_sortPeople_85 : decode cX8_sortPeople 85 = .ok (.iinc 1 1, 3) := by decide +kernel
theorem dX8_sortPeople_88 : decode cX8_sortPeople 88 = .ok (.iinc 2 1, 3) := by decide +kernel
theorem dX8_sortPeople_91 : decode cX8_sortPeople 91 = .ok (.goto (-87), 3) := by decide +kernel
theorem dX8_sortPeople_94 : decode cX8_sortPeople 94 = .ok (.return_, 1) := by decide +kernel
theorem dX8_isBornAhead_0 : decode cX8_isBornAhead 0 = .ok (.aload_n 0, 1) := by decide +kernel
theorem dX8_isBornAhead_1 : decode cX8_isBornAhead 1 = .ok (.getfield 25, 3) := by decide +kernel
theorem dX8_isBornAhead_4 : decode cX8_isBornAhead 4 = .ok (.getfield 101, 3) := by decide +kernel
theorem dX8_isBornAhead_7 : decode cX8_isBornAhead 7 = .ok (.astore_n 3, 1) := by decide +kernel
theorem dX8_isBornAhead_8 : decode cX8_isBornAhead 8 = .ok (.aload_n 3, 1) := by decide +kernel
theorem dX8_isBornAhead_9 : decode cX8_isBornAhead 9 = .ok (.iconst 4, 1) := by decide +kernel
theorem dX8_isBornAhead_10 : decode cX8_isBornAhead 10 = .ok (.iload_n 1, 1) := by decide +kernel
theorem dX8_isBornAhead_11 : decode cX8_isBornAhead 11 = .ok (.imul, 1) := by decide +kernel
theorem dX8_isBornAhead_12 : decode cX8_isBornAhead 12 = .ok (.iaload, 1) := by decide +kernel
theorem dX8_isBornAhead_13 : decode cX8_isBornAhead 13 = .ok (.aload_n 3, 1) := by decide +kernel
theorem dX8_isBornAhead_14 : decode cX8_isBornAhead 14 = .ok (.iconst 4, 1) := by decide +kernel
theorem dX8_isBornAhead_15 : decode cX8_isBornAhead 15 = .ok (.iload_n 2, 1) := by decide +kernel
theorem dX8_isBornAhead_16 : decode cX8_isBornAhead 16 = .ok (.imul, 1) := by decide +kernel
theorem dX8_isBornAhead_17 : decode cX8_isBornAhead 17 = .ok (.iaload, 1) := by decide +kernel
theorem dX8_isBornAhead_18 : decode cX8_isBornAhead 18 = .ok (.if_icmp .eq 22, 3) := by decide +kernel
theorem dX8_isBornAhead_21 : decode cX8_isBornAhead 21 = .ok (.aload_n 3, 1) := by decide +kernel
theorem dX8_isBornAhead_22 : decode cX8_isBornAhead 22 = .ok (.iconst 4, 1) := by decide +kernel
theorem dX8_isBornAhead_23 : decode cX8_isBornAhead 23 = .ok (.iload_n 1, 1) := by decide +kernel
theorem dX8_isBornAhead_24 : decode cX8_isBornAhead 24 = .ok (.imul, 1) := by decide +kernel
theorem dX8_isBornAhead_25 : decode cX8_isBornAhead 25 = .ok (.iaload, 1) := by decide +kernel
theorem dX8_isBornAhead_26 : decode cX8_isBornAhead 26 = .ok (.aload_n 3, 1) := by decide +kernel
theorem dX8_isBornAhead_27 : decode cX8_isBornAhead 27 = .ok (.iconst 4, 1) := by decide +kernel
theorem dX8_isBornAhead_28 : decode cX8_isBornAhead 28 = .ok (.iload_n 2, 1) := by decide +kernel
theorem dX8_isBornAhead_29 : decode cX8_isBornAhead 29 = .ok (.imul, 1) := by decide +kernel
theorem dX8_isBornAhead_30 : decode cX8_isBornAhead 30 = .ok (.iaload, 1) := by decide +kernel
theorem dX8_isBornAhead_31 : decode cX8_isBornAhead 31 = .ok (.if_icmp .ge 7, 3) := by decide +kernel
theorem dX8_isBornAhead_34 : decode cX8_isBornAhead 34 = .ok (.iconst 1, 1) := by decide +kernel
theorem dX8_isBornAhead_35 : decode cX8_isBornAhead 35 = .ok (.goto 4, 3) := by decide +kernel
theorem dX8_isBornAhead_38 : decode cX8_isBornAhead 38 = .ok (.iconst 0, 1) := by decide +kernel
theorem dX8_isBornAhead_39 : decode cX8_isBornAhead 39 = .ok (.ireturn, 1) := by decide +kernel
theorem dX8_isBornAhead_40 : decode cX8_isBornAhead 40 = .ok (.aload_n 3, 1) := by decide +kernel
theorem dX8_isBornAhead_41 : decode cX8_isBornAhead 41 = .ok (.iconst 4, 1) := by decide +kernel
theorem dX8_isBornAhead_42 : decode cX8_isBornAhead 42 = .ok (.iload_n 1, 1) := by decide +kernel
theorem dX8_isBornAhead_43 : decode cX8_isBornAhead 43 = .ok (.imul, 1) := by decide +kernel
theorem dX8_isBornAhead_44 : decode cX8_isBornAhead 44 = .ok (.iconst 1, 1) := by decide +kernel
theorem dX8_isBornAhead_45 : decode cX8_isBornAhead 45 = .ok (.iadd, 1) := by decide +kernel
theorem dX8_isBornAhead_46 : decode cX8_isBornAhead 46 = .ok (.iaload, 1) := by decide +kernel
theorem dX8_isBornAhead_47 : decode cX8_isBornAhead 47 = .ok (.aload_n 3, 1) := by decide +kernel
theorem dX8_isBornAhead_48 : decode cX8_isBornAhead 48 = .ok (.iconst 4, 1) := by decide +kernel
theorem dX8_isBornAhead_49 : decode cX8_isBornAhead 49 = .ok (.iload_n 2, 1) := by decide +kernel
theorem dX8_isBornAhead_50 : decode cX8_isBornAhead 50 = .ok (.imul, 1) := by decide +kernel
theorem dX8_isBornAhead_51 : decode cX8_isBornAhead 51 = .ok (.iconst 1, 1) := by decide +kernel
theorem dX8_isBornAhead_52 : decode cX8_isBornAhead 52 = .ok (.iadd, 1) := by decide +kernel
theorem dX8_isBornAhead_53 : decode cX8_isBornAhead 53 = .ok (.iaload, 1) := by decide +kernel
theorem dX8_isBornAhead_54 : decode cX8_isBornAhead 54 = .ok (.if_icmp .ge 7, 3) := by decide +kernel
theorem dX8_isBornAhead_57 : decode cX8_isBornAhead 57 = .ok (.iconst 1, 1) := by decide +kernel
theorem dX8_isBornAhead_58 : decode cX8_isBornAhead 58 = .ok (.goto 4, 3) := by decide +kernel
theorem dX8_isBornAhead_61 : decode cX8_isBornAhead 61 = .ok (.iconst 0, 1) := by decide +kernel
theorem dX8_isBornAhead_62 : decode cX8_isBornAhead 62 = .ok (.ireturn, 1) := by decide +kernel
theorem dX9_init_0 : decode cX9_init 0 = .ok (.aload_n 0, 1) := by decide +kernel
theorem dX9_init_1 : decode cX9_init 1 = .ok (.invokespecial 5, 3) := by decide +kernel
theorem dX9_init_4 : decode cX9_init 4 = .ok (.aload_n 0, 1) := by decide +kernel
theorem dX9_init_5 : decode cX9_init 5 = .ok (.new 11, 3) := by decide +kernel
theorem dX9_init_8 : decode cX9_init 8 = .ok (.dup, 1) := by decide +kernel
theorem dX9_init_9 : decode cX9_init 9 = .ok (.invokespecial 13, 3) := by decide +kernel
theorem dX9_init_12 : decode cX9_init 12 = .ok (.putfield 14, 3) := by decide +kernel
theorem dX9_init_15 : decode cX9_init 15 = .ok (.aload_n 0, 1) := by decide +kernel
theorem dX9_init_16 : decode cX9_init 16 = .ok (.new 11, 3) := by decide +kernel
theorem dX9_init_19 : decode cX9_init 19 = .ok (.dup, 1) := by decide +kernel
theorem dX9_init_20 : decode cX9_init 20 = .ok (.invokespecial 13, 3) := by decide +kernel
theorem dX9_init_23 : decode cX9_init 23 = .ok (.putfield 18, 3) := by decide +kernel
theorem dX9_init_26 : decode cX9_init 26 = .ok (.aload_n 0, 1) := by decide +kernel
theorem dX9_init_27 : decode cX9_init 27 = .ok (.new 21, 3) := by decide +kernel
theorem dX9_init_30 : decode cX9_init 30 = .ok (.dup, 1) := by decide +kernel
theorem dX9_init_31 : decode cX9_init 31 = .ok (.bipush 60, 2) := by decide +kernel
theorem dX9_init_33 : decode cX9_init 33 = .ok (.invokespecial 23, 3) := by decide +kernel
theorem dX9_init_36 : decode cX9_init 36 = .ok (.putfield 26, 3) := by decide +kernel
theorem dX9_init_39 : decode cX9_init 39 = .ok (.aload_n 0, 1) := by decide +kernel
theorem dX9_init_40 : decode cX9_init 40 = .ok (.new 21, 3) := by decide +kernel
theorem dX9_init_43 : decode cX9_init 43 = .ok (.dup, 1) := by decide +kernel
theorem dX9_init_44 : decode cX9_init 44 = .ok (.sipush 400, 3) := by decide +kernel
theorem dX9_init_47 : decode cX9_init 47 = .ok (.invokespecial 23, 3) := by decide +kernel
theorem dX9_init_50 : decode cX9_init 50 = .ok (.putfield 30, 3) := by decide +kernel
theorem dX9_init_53 : decode cX9_init 53 = .ok (.aload_n 0, 1) := by decide +kernel
theorem dX9_init_54 : decode cX9_init 54 = .ok (.new 33, 3) := by decide +kernel
theorem dX9_init_57 : decode cX9_init 57 = .ok (.dup, 1) := by decide +kernel
theorem dX9_init_58 : decode cX9_init 58 = .ok (.invokespecial 35, 3) := by decide +kernel
theorem dX9_init_61 : decode cX9_init 61 = .ok (.putfield 36, 3) := by decide +kernel
theorem dX9_init_64 : decode cX9_init 64 = .ok (.aload_n 0, 1) := by decide +kernel
theorem dX9_init_65 : decode cX9_init 65 = .ok (.new 40, 3) := by decide +kernel
theorem dX9_init_68 : decode cX9_init 68 = .ok (.dup, 1) := by decide +kernel
theorem dX9_init_69 : decode cX9_init 69 = .ok (.invokespecial 42, 3) := by decide +kernel
theorem dX9_init_72 : decode cX9_init 72 = .ok (.putfield 43, 3) := by decide +kernel
theorem dX9_init_75 : decode cX9_init 75 = .ok (.aload_n 0, 1) := by decide +kernel
theorem dX9_init_76 : decode cX9_init 76 = .ok (.new 40, 3) := by decide +kernel
theorem dX9_init_79 : decode cX9_init 79 = .ok (.dup, 1) := by decide +kernel
theorem dX9_init_80 : decode cX9_init 80 = .ok (.invokespecial 42, 3) := by decide +kernel
theorem dX9_init_83 : decode cX9_init 83 = .ok (.putfield 47, 3) := by decide +kernel
theorem dX9_init_86 : decode cX9_init 86 = .ok (.aload_n 0, 1) := by decide +kernel
theorem dX9_init_87 : decode cX9_init 87 = .ok (.bipush 60, 2) := by decide +kernel
theorem dX9_init_89 : decode cX9_init 89 = .ok (.newarray .int, 2) := by decide +kernel
theorem dX9_init_91 : decode cX9_init 91 = .ok (.putfield 50, 3) := by decide +kernel
theorem dX9_init_94 : decode cX9_init 94 = .ok (.aload_n 0, 1) := by decide +kernel
theorem dX9_init_95 : decode cX9_init 95 = .ok (.new 54, 3) := by decide +kernel
theorem dX9_init_98 : decode cX9_init 98 = .ok (.dup, 1) := by decide +kernel
theorem dX9_init_99 : decode cX9_init 99 = .ok (.invokespecial 56, 3) := by decide +kernel
theorem dX9_init_102 : decode cX9_init 102 = .ok (.putfield 57, 3) := by decide +kernel
theorem dX9_init_105 : decode cX9_init 105 = .ok (.aload_n 0, 1) := by decide +kernel
theorem dX9_init_106 : decode cX9_init 106 = .ok (.new 61, 3) := by decide +kernel
theorem dX9_init_109 : decode cX9_init 109 = .ok (.dup, 1) := by decide +kernel
theorem dX9_init_110 : decode cX9_init 110 = .ok (.invokespecial 63, 3) := by decide +kernel
theorem dX9_init_113 : decode cX9_init 113 = .ok (.putfield 64, 3) := by decide +kernel
theorem dX9_init_116 : decode cX9_init 116 = .ok (.return_, 1) := by decide +kernel
theorem dX9_feed_0 : decode cX9_feed 0 = .ok (.iload_n 1, 1) := by decide +kernel
theorem dX9_feed_1 : decode cX9_feed 1 = .ok (.iconst 1, 1) := by decide +kernel
theorem dX9_feed_2 : decode cX9_feed 2 = .ok (.if_icmp .lt 9, 3) := by decide +kernel
theorem dX9_feed_5 : decode cX9_feed 5 = .ok (.iload_n 1, 1) := by decide +kernel
theorem dX9_feed_6 : decode cX9_feed 6 = .ok (.bipush 127, 2) := by decide +kernel
theorem dX9_feed_8 : decode cX9_feed 8 = .ok (.if_icmp .le 6, 3) := by decide +kernel
theorem dX9_feed_11 : decode cX9_feed 11 = .ok (.bipush (-2), 2) := by decide +kernel
theorem dX9_feed_13 : decode cX9_feed 13 = .ok (.ireturn, 1) := by decide +kernel
theorem dX9_feed_14 : decode cX9_feed 14 = .ok (.aload_n 0, 1) := by decide +kernel
theorem dX9_feed_15 : decode cX9_feed 15 = .ok (.getfield 26, 3) := by decide +kernel
theorem dX9_feed_18 : decode cX9_feed 18 = .ok (.getfield 68, 3) := by decide +kernel
theorem dX9_feed_21 : decode cX9_feed 21 = .ok (.bipush 60, 2) := by decide +kernel
theorem dX9_feed_23 : decode cX9_feed 23 = .ok (.if_icmp .lt 6, 3) := by decide +kernel
theorem dX9_feed_26 : decode cX9_feed 26 = .ok (.bipush (-4), 2) := by decide +kernel
theorem dX9_feed_28 : decode cX9_feed 28 = .ok (.ireturn, 1) := by decide +kernel
theorem dX9_feed_29 : decode cX9_feed 29 = .ok (.aload_n 0, 1) := by decide +kernel
theorem dX9_feed_30 : decode cX9_feed 30 = .ok (.getfield 26, 3) := by decide +kernel
theorem dX9_feed_33 : decode cX9_feed 33 = .ok (.iload_n 1, 1) := by decide +kernel
theorem dX9_feed_34 : decode cX9_feed 34 = .ok (.invokevirtual 72, 3) := by decide +kernel
theorem dX9_feed_37 : decode cX9_feed 37 = .ok (.aload_n 0, 1) := by decide +kernel
theorem dX9_feed_38 : decode cX9_feed 38 = .ok (.getfield 26, 3) := by decide +kernel
theorem dX9_feed_41 : decode cX9_feed 41 = .ok (.getfield 68, 3) := by decide +kernel
theorem dX9_feed_44 : decode cX9_feed 44 = .ok (.ireturn, 1) := by decide +kernel
theorem dX9_clear_0 : decode cX9_clear 0 = .ok (.aload_n 0, 1) := by decide +kernel
theorem dX9_clear_1 : decode cX9_clear 1 = .ok (.getfield 26, 3) := by decide +kernel
theorem dX9_clear_4 : decode cX9_clear 4 = .ok (.getfield 68, 3) := by decide +kernel
theorem dX9_clear_7 : decode cX9_clear 7 = .ok (.istore_n 1, 1) := by decide +kernel
theorem dX9_clear_8 : decode cX9_clear 8 = .ok (.aload_n 0, 1) := by decide +kernel
theorem dX9_clear_9 : decode cX9_clear 9 = .ok (.getfield 26, 3) := by decide +kernel
theorem dX9_clear_12 : decode cX9_clear 12 = .ok (.invokevirtual 75, 3) := by decide +kernel
theorem dX9_clear_15 : decode cX9_clear 15 = .ok (.iload_n 1, 1) := by decide +kernel
theorem dX9_clear_16 : decode cX9_clear 16 = .ok (.ireturn, 1) := by decide +kernel
theorem dX9_paper_0 : decode cX9_paper 0 = .ok (.aload_n 0, 1) := by decide +kernel
theorem dX9_paper_1 : decode cX9_paper 1 = .ok (.getfield 30, 3) := by decide +kernel
theorem dX9_paper_4 : decode cX9_paper 4 = .ok (.iload_n 1, 1) := by decide +kernel
theorem dX9_paper_5 : decode cX9_paper 5 = .ok (.invokevirtual 78, 3) := by decide +kernel
theorem dX9_paper_8 : decode cX9_paper 8 = .ok (.ireturn, 1) := by decide +kernel
theorem dX9_person_0 : decode cX9_person 0 = .ok (.iload_n 1, 1) := by decide +kernel
theorem dX9_person_1 : decode cX9_person 1 = .ok (.invokestatic 82, 3) := by decide +kernel
theorem dX9_person_4 : decode cX9_person 4 = .ok (.ifCond .ne 5, 3) := by decide +kernel
theorem dX9_person_7 : decode cX9_person 7 = .ok (.iconst (-1), 1) := by decide +kernel
theorem dX9_person_8 : decode cX9_person 8 = .ok (.ireturn, 1) := by decide +kernel
theorem dX9_person_9 : decode cX9_person 9 = .ok (.aload_n 0, 1) := by decide +kernel
theorem dX9_person_10 : decode cX9_person 10 = .ok (.getfield 14, 3) := by decide +kernel
theorem dX9_person_13 : decode cX9_person 13 = .ok (.getfield 86, 3) := by decide +kernel
theorem dX9_person_16 : decode cX9_person 16 = .ok (.bipush 30, 2) := by decide +kernel
theorem dX9_person_18 : decode cX9_person 18 = .ok (.if_icmp .lt 6, 3) := by decide +kernel
theorem dX9_person_21 : decode cX9_person 21 = .ok (.bipush (-4), 2) := by decide +kernel
theorem dX9_person_23 : decode cX9_person 23 = .ok (.ireturn, 1) := by decide +kernel
theorem dX9_person_24 : decode cX9_person 24 = .ok (.aload_n 0, 1) := by decide +kernel
theorem dX9_person_25 : decode cX9_person 25 = .ok (.getfield 26, 3) := by decide +kernel
theorem dX9_person_28 : decode cX9_person 28 = .ok (.invokevirtual 89, 3) := by decide +kernel
theorem dX9_person_31 : decode cX9_person 31 = .ok (.istore_n 2, 1) := by decide +kernel
theorem dX9_person_32 : decode cX9_person 32 = .ok (.aload_n 0, 1) := by decide +kernel
theorem dX9_person_33 : decode cX9_person 33 = .ok (.getfield 14, 3) := by decide +kernel
theorem dX9_person_36 : decode cX9_person 36 = .ok (.getfield 86, 3) := by decide +kernel
theorem dX9_person_39 : decode cX9_person 39 = .ok (.istore_n 3, 1) := by decide +kernel
theorem dX9_person_40 : decode cX9_person 40 = .ok (.iload_n 2, 1) := by decide +kernel
theorem dX9_person_41 : decode cX9_person 41 = .ok (.ifCond .ge 19, 3) := by decide +kernel
theorem dX9_person_44 : decode cX9_person 44 = .ok (.aload_n 0, 1) := by decide +kernel
theorem dX9_person_45 : decode cX9_person 45 = .ok (.getfield 14, 3) := by decide +kernel
theorem dX9_person_48 : decode cX9_person 48 = .ok (.aload_n 0, 1) := by decide +kernel
theorem dX9_person_49 : decode cX9_person 49 = .ok (.getfield 26, 3) := by decide +kernel
theorem dX9_person_52 : decode cX9_person 52 = .ok (.iload_n 1, 1) := by decide +kernel
theorem dX9_person_53 : decode cX9_person 53 = .ok (.invokevirtual 93, 3) := by decide +kernel
theorem dX9_person_56 : decode cX9_person 56 = .ok (.aload_n 0, 1) := by decide +kernel
theorem dX9_person_57 : decode cX9_person 57 = .ok (.invokevirtual 97, 3) := by decide +kernel
theorem dX9_person_60 : decode cX9_person 60 = .ok (.aload_n 0, 1) := by decide +kernel
theorem dX9_person_61 : decode cX9_person 61 = .ok (.getfield 26, 3) := by decide +kernel
theorem dX9_person_64 : decode cX9_person 64 = .ok (.invokevirtual 75, 3) := by decide +kernel
theorem dX9_person_67 : decode cX9_person 67 = .ok (.iload_n 2, 1) := by decide +kernel
theorem dX9_person_68 : decode cX9_person 68 = .ok (.ifCond .ge 7, 3) := by decide +kernel
theorem dX9_person_71 : decode cX9_person 71 = .ok (.iload_n 3, 1) := by decide +kernel
theorem dX9_person_72 : decode cX9_person 72 = .ok (.goto 7, 3) := by decide +kernel
theorem dX9_person_75 : decode cX9_person 75 = .ok (.bipush (-100), 2) := by decide +kernel
theorem dX9_person_77 : decode cX9_person 77 = .ok (.iload_n 2, 1) := by decide +kernel
theorem dX9_person_78 : decode cX9_person 78 = .ok (.isub, 1) := by decide +kernel
theorem dX9_person_79 : decode cX9_person 79 = .ok (.ireturn, 1) := by decide +kernel
theorem dX9_sex_0 : decode cX9_sex 0 = .ok (.aload_n 0, 1) := by decide +kernel
theorem dX9_sex_1 : decode cX9_sex 1 = .ok (.getfield 14, 3) := by decide +kernel
theorem dX9_sex_4 : decode cX9_sex 4 = .ok (.iload_n 1, 1) := by decide +kernel
theorem dX9_sex_5 : decode cX9_sex 5 = .ok (.invokevirtual 100, 3) := by decide +kernel
theorem dX9_sex_8 : decode cX9_sex 8 = .ok (.ifCond .eq 10, 3) := by decide +kernel
theorem dX9_sex_11 : decode cX9_sex 11 = .ok (.iload_n 2, 1) := by decide +kernel
theorem dX9_sex_12 : decode cX9_sex 12 = .ok (.invokestatic 82, 3) := by decide +kernel
theorem dX9_sex_15 : decode cX9_sex 15 = .ok (.ifCond .ne 5, 3) := by decide +kernel
theorem dX9_sex_18 : decode cX9_sex 18 = .ok (.iconst (-1), 1) := by decide +kernel
theorem dX9_sex_19 : decode cX9_sex 19 = .ok (.ireturn, 1) := by decide +kernel
theorem dX9_sex_20 : decode cX9_sex 20 = .ok (.aload_n 0, 1) := by decide +kernel
theorem dX9_sex_21 : decode cX9_sex 21 = .ok (.getfield 14, 3) := by decide +kernel
theorem dX9_sex_24 : decode cX9_sex 24 = .ok (.getfield 103, 3) := by decide +kernel
theorem dX9_sex_27 : decode cX9_sex 27 = .ok (.iload_n 1, 1) := by decide +kernel
theorem dX9_sex_28 : decode cX9_sex 28 = .ok (.iaload, 1) := by decide +kernel
theorem dX9_sex_29 : decode cX9_sex 29 = .ok (.istore_n 3, 1) := by decide +kernel
theorem dX9_sex_30 : decode cX9_sex 30 = .ok (.aload_n 0, 1) := by decide +kernel
theorem dX9_sex_31 : decode cX9_sex 31 = .ok (.getfield 14, 3) := by decide +kernel
theorem dX9_sex_34 : decode cX9_sex 34 = .ok (.getfield 103, 3) := by decide +kernel
theorem dX9_sex_37 : decode cX9_sex 37 = .ok (.iload_n 1, 1) := by decide +kernel
theorem dX9_sex_38 : decode cX9_sex 38 = .ok (.iload_n 2, 1) := by decide +kernel
theorem dX9_sex_39 : decode cX9_sex 39 = .ok (.iastore, 1) := by decide +kernel
theorem dX9_sex_40 : decode cX9_sex 40 = .ok (.aload_n 0, 1) := by decide +kernel
theorem dX9_sex_41 : decode cX9_sex 41 = .ok (.invokevirtual 97, 3) := by decide +kernel
theorem dX9_sex_44 : decode cX9_sex 44 = .ok (.iload_n 3, 1) := by decide +kernel
theorem dX9_sex_45 : decode cX9_sex 45 = .ok (.ireturn, 1) := by decide +kernel
theorem dX9_state_0 : decode cX9_state 0 = .ok (.iload_n 1, 1) := by decide +kernel
theorem dX9_state_1 : decode cX9_state 1 = .ok (.invokestatic 106, 3) := by decide +kernel
theorem dX9_state_4 : decode cX9_state 4 = .ok (.ifCond .ne 5, 3) := by decide +kernel
theorem dX9_state_7 : decode cX9_state 7 = .ok (.iconst (-1), 1) := by decide +kernel
theorem dX9_state_8 : decode cX9_state 8 = .ok (.ireturn, 1) := by decide +kernel
theorem dX9_state_9 : decode cX9_state 9 = .ok (.aload_n 0, 1) := by decide +kernel
theorem dX9_state_10 : decode cX9_state 10 = .ok (.getfield 14, 3) := by decide +kernel
theorem dX9_state_13 : decode cX9_state 13 = .ok (.getfield 109, 3) := by decide +kernel
theorem dX9_state_16 : decode cX9_state 16 = .ok (.bipush 60, 2) := by decide +kernel
theorem dX9_state_18 : decode cX9_state 18 = .ok (.if_icmp .lt 6, 3) := by decide +kernel
theorem dX9_state_21 : decode cX9_state 21 = .ok (.bipush (-4), 2) := by decide +kernel
theorem dX9_state_23 : decode cX9_state 23 = .ok (.ireturn, 1) := by decide +kernel
theorem dX9_state_24 : decode cX9_state 24 = .ok (.aload_n 0, 1) := by decide +kernel
theorem dX9_state_25 : decode cX9_state 25 = .ok (.getfield 14, 3) := by decide +kernel
theorem dX9_state_28 : decode cX9_state 28 = .ok (.getfield 109, 3) := by decide +kernel
theorem dX9_state_31 : decode cX9_state 31 = .ok (.istore_n 2, 1) := by decide +kernel
theorem dX9_state_32 : decode cX9_state 32 = .ok (.aload_n 0, 1) := by decide +kernel
theorem dX9_state_33 : decode cX9_state 33 = .ok (.getfield 36, 3) := by decide +kernel
theorem dX9_state_36 : decode cX9_state 36 = .ok (.aload_n 0, 1) := by decide +kernel
theorem dX9_state_37 : decode cX9_state 37 = .ok (.getfield 26, 3) := by decide +kernel
theorem dX9_state_40 : decode cX9_state 40 = .ok (.aload_n 0, 1) := by decide +kernel
theorem dX9_state_41 : decode cX9_state 41 = .ok (.getfield 14, 3) := by decide +kernel
theorem dX9_state_44 : decode cX9_state 44 = .ok (.getfield 86, 3) := by decide +kernel
theorem dX9_state_47 : decode cX9_state 47 = .ok (.invokevirtual 112, 3) := by decide +kernel
theorem dX9_state_50 : decode cX9_state 50 = .ok (.istore_n 3, 1) := by decide +kernel
theorem dX9_state_51 : decode cX9_state 51 = .ok (.aload_n 0, 1) := by decide +kernel
theorem dX9_state_52 : decode cX9_state 52 = .ok (.getfield 26, 3) := by decide +kernel
theorem dX9_state_55 : decode cX9_state 55 = .ok (.invokevirtual 75, 3) := by decide +kernel
theorem dX9_state_58 : decode cX9_state 58 = .ok (.iload_n 3, 1) := by decide +kernel
theorem dX9_state_59 : decode cX9_state 59 = .ok (.ifCond .ne 14, 3) := by decide +kernel
theorem dX9_state_62 : decode cX9_state 62 = .ok (.bipush (-100), 2) := by decide +kernel
theorem dX9_state_64 : decode cX9_state 64 = .ok (.aload_n 0, 1) := by decide +kernel
theorem dX9_state_65 : decode cX9_state 65 = .ok (.getfield 36, 3) := by decide +kernel
theorem dX9_state_68 : decode cX9_state 68 = .ok (.getfield 116, 3) := by decide +kernel
theorem dX9_state_71 : decode cX9_state 71 = .ok (.isub, 1) := by decide +kernel
theorem dX9_state_72 : decode cX9_state 72 = .ok (.ireturn, 1) := by decide +kernel
theorem dX9_state_73 : decode cX9_state 73 = .ok (.aload_n 0, 1) := by decide +kernel
theorem dX9_state_74 : decode cX9_state 74 = .ok (.getfield 14, 3) := by decide +kernel
theorem dX9_state_77 : decode cX9_state 77 = .ok (.iload_n 2, 1) := by decide +kernel
theorem dX9_state_78 : decode cX9_state 78 = .ok (.aload_n 0, 1) := by decide +kernel
theorem dX9_state_79 : decode cX9_state 79 = .ok (.getfield 36, 3) := by decide +kernel
theorem dX9_state_82 : decode cX9_state 82 = .ok (.iload_n 1, 1) := by decide +kernel
theorem dX9_state_83 : decode cX9_state 83 = .ok (.invokevirtual 119, 3) := by decide +kernel
theorem dX9_state_86 : decode cX9_state 86 = .ok (.aload_n 0, 1) := by decide +kernel
theorem dX9_state_87 : decode cX9_state 87 = .ok (.getfield 14, 3) := by decide +kernel
theorem dX9_state_90 : decode cX9_state 90 = .ok (.iload_n 2, 1) := by decide +kernel
theorem dX9_state_91 : decode cX9_state 91 = .ok (.iconst 1, 1) := by decide +kernel
theorem dX9_state_92 : decode cX9_state 92 = .ok (.iadd, 1) := by decide +kernel
theorem dX9_state_93 : decode cX9_state 93 = .ok (.putfield 109, 3) := by decide +kernel
theorem dX9_state_96 : decode cX9_state 96 = .ok (.aload_n 0, 1) := by decide +kernel
theorem dX9_state_97 : decode cX9_state 97 = .ok (.invokevirtual 97, 3) := by decide +kernel
theorem dX9_state_100 : decode cX9_state 100 = .ok (.iload_n 2, 1) := by decide +kernel
theorem dX9_state_101 : decode cX9_state 101 = .ok (.ireturn, 1) := by decide +kernel
theorem dX9_live_0 : decode cX9_live 0 = .ok (.aload_n 0, 1) := by decide +kernel
theorem dX9_live_1 : decode cX9_live 1 = .ok (.getfield 14, 3) := by decide +kernel
theorem dX9_live_4 : decode cX9_live 4 = .ok (.iload_n 1, 1) := by decide +kernel
theorem dX9_live_5 : decode cX9_live 5 = .ok (.invokevirtual 123, 3) := by decide +kernel
theorem dX9_live_8 : decode cX9_live 8 = .ok (.ifCond .eq 10, 3) := by decide +kernel
theorem dX9_live_11 : decode cX9_live 11 = .ok (.iload_n 2, 1) := by decide +kernel
theorem dX9_live_12 : decode cX9_live 12 = .ok (.invokestatic 106, 3) := by decide +kernel
theorem dX9_live_15 : decode cX9_live 15 = .ok (.ifCond .ne 5, 3) := by decide +kernel
theorem dX9_live_18 : decode cX9_live 18 = .ok (.iconst (-1), 1) := by decide +kernel
theorem dX9_live_19 : decode cX9_live 19 = .ok (.ireturn, 1) := by decide +kernel
theorem dX9_live_20 : decode cX9_live 20 = .ok (.aload_n 0, 1) := by decide +kernel
theorem dX9_live_21 : decode cX9_live 21 = .ok (.getfield 14, 3) := by decide +kernel
theorem dX9_live_24 : decode cX9_live 24 = .ok (.getfield 126, 3) := by decide +kernel
theorem dX9_live_27 : decode cX9_live 27 = .ok (.iload_n 1, 1) := by decide +kernel
theorem dX9_live_28 : decode cX9_live 28 = .ok (.iaload, 1) := by decide +kernel
theorem dX9_live_29 : decode cX9_live 29 = .ok (.istore_n 3, 1) := by decide +kernel
theorem dX9_live_30 : decode cX9_live 30 = .ok (.aload_n 0, 1) := by decide +kernel
theorem dX9_live_31 : decode cX9_live 31 = .ok (.getfield 14, 3) := by decide +kernel
theorem dX9_live_34 : decode cX9_live 34 = .ok (.getfield 126, 3) := by decide +kernel
theorem dX9_live_37 : decode cX9_live 37 = .ok (.iload_n 1, 1) := by decide +kernel
theorem dX9_live_38 : decode cX9_live 38 = .ok (.iload_n 2, 1) := by decide +kernel
theorem dX9_live_39 : decode cX9_live 39 = .ok (.iastore, 1) := by decide +kernel
theorem dX9_live_40 : decode cX9_live 40 = .ok (.aload_n 0, 1) := by decide +kernel
theorem dX9_live_41 : decode cX9_live 41 = .ok (.invokevirtual 97, 3) := by decide +kernel
theorem dX9_live_44 : decode cX9_live 44 = .ok (.iload_n 3, 1) := by decide +kernel
theorem dX9_live_45 : decode cX9_live 45 = .ok (.ireturn, 1) := by decide +kernel
theorem dX9_of_0 : decode cX9_of 0 = .ok (.aload_n 0, 1) := by decide +kernel
theorem dX9_of_1 : decode cX9_of 1 = .ok (.getfield 14, 3) := by decide +kernel
theorem dX9_of_4 : decode cX9_of 4 = .ok (.iload_n 1, 1) := by decide +kernel
theorem dX9_of_5 : decode cX9_of 5 = .ok (.invokevirtual 123, 3) := by decide +kernel
theorem dX9_of_8 : decode cX9_of 8 = .ok (.ifCond .ne 5, 3) := by decide +kernel
theorem dX9_of_11 : decode cX9_of 11 = .ok (.iconst (-1), 1) := by decide +kernel
theorem dX9_of_12 : decode cX9_of 12 = .ok (.ireturn, 1) := by decide +kernel
theorem dX9_of_13 : decode cX9_of 13 = .ok (.iload_n 2, 1) := by decide +kernel
theorem dX9_of_14 : decode cX9_of 14 = .ok (.tableswitch 98 0 5 #[38, 48, 58, 68, 78, 88], 38) := by decide +kernel
theorem dX9_of_52 : decode cX9_of 52 = .ok (.aload_n 0, 1) := by decide +kernel
theorem dX9_of_53 : decode cX9_of 53 = .ok (.getfield 14, 3) := by decide +kernel
theorem dX9_of_56 : decode cX9_of 56 = .ok (.getfield 129, 3) := by decide +kernel
theorem dX9_of_59 : decode cX9_of 59 = .ok (.iload_n 1, 1) := by decide +kernel
theorem dX9_of_60 : decode cX9_of 60 = .ok (.iaload, 1) := by decide +kernel
theorem dX9_of_61 : decode cX9_of 61 = .ok (.ireturn, 1) := by decide +kernel
theorem dX9_of_62 : decode cX9_of 62 = .ok (.aload_n 0, 1) := by decide +kernel
theorem dX9_of_63 : decode cX9_of 63 = .ok (.getfield 14, 3) := by decide +kernel
theorem dX9_of_66 : decode cX9_of 66 = .ok (.getfield 132, 3) := by decide +kernel
theorem dX9_of_69 : decode cX9_of 69 = .ok (.iload_n 1, 1) := by decide +kernel
theorem dX9_of_70 : decode cX9_of 70 = .ok (.iaload, 1) := by decide +kernel
theorem dX9_of_71 : decode cX9_of 71 = .ok (.ireturn, 1) := by decide +kernel
theorem dX9_of_72 : decode cX9_of 72 = .ok (.aload_n 0, 1) := by decide +kernel
theorem dX9_of_73 : decode cX9_of 73 = .ok (.getfield 14, 3) := by decide +kernel
theorem dX9_of_76 : decode cX9_of 76 = .ok (.getfield 135, 3) := by decide +kernel
theorem dX9_of_79 : decode cX9_of 79 = .ok (.iload_n 1, 1) := by decide +kernel
theorem dX9_of_80 : decode cX9_of 80 = .ok (.iaload, 1) := by decide +kernel
theorem dX9_of_81 : decode cX9_of 81 = .ok (.ireturn, 1) := by decide +kernel
theorem dX9_of_82 : decode cX9_of 82 = .ok (.aload_n 0, 1) := by decide +kernel
theorem dX9_of_83 : decode cX9_of 83 = .ok (.getfield 14, 3) := by decide +kernel
theorem dX9_of_86 : decode cX9_of 86 = .ok (.getfield 138, 3) := by decide +kernel
theorem dX9_of_89 : decode cX9_of 89 = .ok (.iload_n 1, 1) := by decide +kernel
theorem dX9_of_90 : decode cX9_of 90 = .ok (.iaload, 1) := by decide +kernel
theorem dX9_of_91 : decode cX9_of 91 = .ok (.ireturn, 1) := by decide +kernel
theorem dX9_of_92 : decode cX9_of 92 = .ok (.aload_n 0, 1) := by decide +kernel
theorem dX9_of_93 : decode cX9_of 93 = .ok (.getfield 14, 3) := by decide +kernel
theorem dX9_of_96 : decode cX9_of 96 = .ok (.getfield 141, 3) := by decide +kernel
theorem dX9_of_99 : decode cX9_of 99 = .ok (.iload_n 1, 1) := by decide +kernel
theorem dX9_of_100 : decode cX9_of 100 = .ok (.iaload, 1) := by decide +kernel
theorem dX9_of_101 : decode cX9_of 101 = .ok (.ireturn, 1) := by decide +kernel
theorem dX9_of_102 : decode cX9_of 102 = .ok (.aload_n 0, 1) := by decide +kernel
theorem dX9_of_103 : decode cX9_of 103 = .ok (.getfield 14, 3) := by decide +kernel
theorem dX9_of_106 : decode cX9_of 106 = .ok (.getfield 126, 3) := by decide +kernel
theorem dX9_of_109 : decode cX9_of 109 = .ok (.iload_n 1, 1) := by decide +kernel
theorem dX9_of_110 : decode cX9_of 110 = .ok (.iaload, 1) := by decide +kernel
theorem dX9_of_111 : decode cX9_of 111 = .ok (.ireturn, 1) := by decide +kernel
theorem dX9_of_112 : decode cX9_of 112 = .ok (.iconst (-1), 1) := by decide +kernel
theorem dX9_of_113 : decode cX9_of 113 = .ok (.ireturn, 1) := by decide +kernel
theorem dX9_spell_0 : decode cX9_spell 0 = .ok (.aload_n 0, 1) := by decide +kernel
theorem dX9_spell_1 : decode cX9_spell 1 = .ok (.getfield 14, 3) := by decide +kernel
theorem dX9_spell_4 : decode cX9_spell 4 = .ok (.iload_n 1, 1) := by decide +kernel
theorem dX9_spell_5 : decode cX9_spell 5 = .ok (.invokevirtual 123, 3) := by decide +kernel
theorem dX9_spell_8 : decode cX9_spell 8 = .ok (.ifCond .ne 5, 3) := by decide +kernel
theorem dX9_spell_11 : decode cX9_spell 11 = .ok (.iconst (-1), 1) := by decide +kernel
theorem dX9_spell_12 : decode cX9_spell 12 = .ok (.ireturn, 1) := by decide +kernel
theorem dX9_spell_13 : decode cX9_spell 13 = .ok (.aload_n 0, 1) := by decide +kernel
theorem dX9_spell_14 : decode cX9_spell 14 = .ok (.getfield 30, 3) := by decide +kernel
theorem dX9_spell_17 : decode cX9_spell 17 = .ok (.invokevirtual 75, 3) := by decide +kernel
theorem dX9_spell_20 : decode cX9_spell 20 = .ok (.aload_n 0, 1) := by decide +kernel
theorem dX9_spell_21 : decode cX9_spell 21 = .ok (.getfield 14, 3) := by decide +kernel
theorem dX9_spell_24 : decode cX9_spell 24 = .ok (.aload_n 0, 1) := by decide +kernel
theorem dX9_spell_25 : decode cX9_spell 25 = .ok (.getfield 30, 3) := by decide +kernel
theorem dX9_spell_28 : decode cX9_spell 28 = .ok (.iload_n 1, 1) := by decide +kernel
theorem dX9_spell_29 : decode cX9_spell 29 = .ok (.invokevirtual 144, 3) := by decide +kernel
theorem dX9_spell_32 : decode cX9_spell 32 = .ok (.aload_n 0, 1) := by decide +kernel
theorem dX9_spell_33 : decode cX9_spell 33 = .ok (.getfield 30, 3) := by decide +kernel
theorem dX9_spell_36 : decode cX9_spell 36 = .ok (.getfield 68, 3) := by decide +kernel
theorem dX9_spell_39 : decode cX9_spell 39 = .ok (.ireturn, 1) := by decide +kernel
theorem dX9_name_0 : decode cX9_name 0 = .ok (.aload_n 0, 1) := by decide +kernel
theorem dX9_name_1 : decode cX9_name 1 = .ok (.getfield 14, 3) := by decide +kernel
theorem dX9_name_4 : decode cX9_name 4 = .ok (.iload_n 1, 1) := by decide +kernel
theorem dX9_name_5 : decode cX9_name 5 = .ok (.invokevirtual 100, 3) := by decide +kernel
theorem dX9_name_8 : decode cX9_name 8 = .ok (.ifCond .ne 5, 3) := by decide +kernel
theorem dX9_name_11 : decode cX9_name 11 = .ok (.iconst (-1), 1) := by decide +kernel
theorem dX9_name_12 : decode cX9_name 12 = .ok (.ireturn, 1) := by decide +kernel
theorem dX9_name_13 : decode cX9_name 13 = .ok (.aload_n 0, 1) := by decide +kernel
theorem dX9_name_14 : decode cX9_name 14 = .ok (.getfield 14, 3) := by decide +kernel
theorem dX9_name_17 : decode cX9_name 17 = .ok (.getfield 147, 3) := by decide +kernel
theorem dX9_name_20 : decode cX9_name 20 = .ok (.iload_n 1, 1) := by decide +kernel
theorem dX9_name_21 : decode cX9_name 21 = .ok (.iaload, 1) := by decide +kernel
theorem dX9_name_22 : decode cX9_name 22 = .ok (.istore_n 3, 1) := by decide +kernel
theorem dX9_name_23 : decode cX9_name 23 = .ok (.iload_n 2, 1) := by decide +kernel
theorem dX9_name_24 : decode cX9_name 24 = .ok (.iconst (-1), 1) := by decide +kernel
theorem dX9_name_25 : decode cX9_name 25 = .ok (.if_icmp .ne 5, 3) := by decide +kernel
theorem dX9_name_28 : decode cX9_name 28 = .ok (.iload_n 3, 1) := by decide +kernel
theorem dX9_name_29 : decode cX9_name 29 = .ok (.ireturn, 1) := by decide +kernel
theorem dX9_name_30 : decode cX9_name 30 = .ok (.iload_n 2, 1) := by decide +kernel
theorem dX9_name_31 : decode cX9_name 31 = .ok (.ifCond .lt 22, 3) := by decide +kernel
theorem dX9_name_34 : decode cX9_name 34 = .ok (.iload_n 2, 1) := by decide +kernel
theorem dX9_name_35 : decode cX9_name 35 = .ok (.iload_n 3, 1) := by decide +kernel
theorem dX9_name_36 : decode cX9_name 36 = .ok (.if_icmp .ge 17, 3) := by decide +kernel
theorem dX9_name_39 : decode cX9_name 39 = .ok (.aload_n 0, 1) := by decide +kernel
theorem dX9_name_40 : decode cX9_name 40 = .ok (.getfield 14, 3) := by decide +kernel
theorem dX9_name_43 : decode cX9_name 43 = .ok (.getfield 150, 3) := by decide +kernel
theorem dX9_name_46 : decode cX9_name 46 = .ok (.iload_n 1, 1) := by decide +kernel
theorem dX9_name_47 : decode cX9_name 47 = .ok (.aaload, 1) := by decide +kernel
theorem dX9_name_48 : decode cX9_name 48 = .ok (.iload_n 2, 1) := by decide +kernel
theorem dX9_name_49 : decode cX9_name 49 = .ok (.baload, 1) := by decide +kernel
theorem dX9_name_50 : decode cX9_name 50 = .ok (.goto 4, 3) := by decide +kernel
theorem dX9_name_53 : decode cX9_name 53 = .ok (.iconst (-1), 1) := by decide +kernel
theorem dX9_name_54 : decode cX9_name 54 = .ok (.ireturn, 1) := by decide +kernel
theorem dX9_find_0 : decode cX9_find 0 = .ok (.aload_n 0, 1) := by decide +kernel
theorem dX9_find_1 : decode cX9_find 1 = .ok (.getfield 14, 3) := by decide +kernel
theorem dX9_find_4 : decode cX9_find 4 = .ok (.aload_n 0, 1) := by decide +kernel
theorem dX9_find_5 : decode cX9_find 5 = .ok (.getfield 26, 3) := by decide +kernel
theorem dX9_find_8 : decode cX9_find 8 = .ok (.iload_n 1, 1) := by decide +kernel
theorem dX9_find_9 : decode cX9_find 9 = .ok (.invokevirtual 154, 3) := by decide +kernel
theorem dX9_find_12 : decode cX9_find 12 = .ok (.istore_n 2, 1) := by decide +kernel
theorem dX9_find_13 : decode cX9_find 13 = .ok (.aload_n 0, 1) := by decide +kernel
theorem dX9_find_14 : decode cX9_find 14 = .ok (.getfield 26, 3) := by decide +kernel
theorem dX9_find_17 : decode cX9_find 17 = .ok (.invokevirtual 75, 3) := by decide +kernel
theorem dX9_find_20 : decode cX9_find 20 = .ok (.iload_n 2, 1) := by decide +kernel
theorem dX9_find_21 : decode cX9_find 21 = .ok (.ireturn, 1) := by decide +kernel
theorem dX9_byName_0 : decode cX9_byName 0 = .ok (.iconst 0, 1) := by decide +kernel
theorem dX9_byName_1 : decode cX9_byName 1 = .ok (.istore_n 2, 1) := by decide +kernel
theorem dX9_byName_2 : decode cX9_byName 2 = .ok (.iload_n 2, 1) := by decide +kernel
theorem dX9_byName_3 : decode cX9_byName 3 = .ok (.aload_n 0, 1) := by decide +kernel
theorem dX9_byName_4 : decode cX9_byName 4 = .ok (.getfield 14, 3) := by decide +kernel
theorem dX9_byName_7 : decode cX9_byName 7 = .ok (.getfield 86, 3) := by decide +kernel
theorem dX9_byName_10 : decode cX9_byName 10 = .ok (.if_icmp .ge 23, 3) := by decide +kernel
theorem dX9_byName_13 : decode cX9_byName 13 = .ok (.aload_n 0, 1) := by decide +kernel
theorem dX9_byName_14 : decode cX9_byName 14 = .ok (.getfield 14, 3) := by decide +kernel
theorem dX9_byName_17 : decode cX9_byName 17 = .ok (.iload_n 2, 1) := by decide +kernel
theorem dX9_byName_18 : decode cX9_byName 18 = .ok (.invokevirtual 158, 3) := by decide +kernel
theorem dX9_byName_21 : decode cX9_byName 21 = .ok (.iload_n 1, 1) := by decide +kernel
theorem dX9_byName_22 : decode cX9_byName 22 = .ok (.if_icmp .ne 5, 3) := by decide +kernel
theorem dX9_byName_25 : decode cX9_byName 25 = .ok (.iload_n 2, 1) := by decide +kernel
theorem dX9_byName_26 : decode cX9_byName 26 = .ok (.ireturn, 1) := by decide +kernel
theorem dX9_byName_27 : decode cX9_byName 27 = .ok (.iinc 2 1, 3) := by decide +kernel
theorem dX9_byName_30 : decode cX9_byName 30 = .ok (.goto (-28), 3) := by decide +kernel
theorem dX9_byName_33 : decode cX9_byName 33 = .ok (.iconst (-1), 1) := by decide +kernel
theorem dX9_byName_34 : decode cX9_byName 34 = .ok (.ireturn, 1) := by decide +kernel
theorem dX9_people_0 : decode cX9_people 0 = .ok (.aload_n 0, 1) := by decide +kernel
theorem dX9_people_1 : decode cX9_people 1 = .ok (.getfield 14, 3) := by decide +kernel
theorem dX9_people_4 : decode cX9_people 4 = .ok (.iload_n 1, 1) := by decide +kernel
theorem dX9_people_5 : decode cX9_people 5 = .ok (.invokevirtual 100, 3) := by decide +kernel
theorem dX9_people_8 : decode cX9_people 8 = .ok (.ifCond .ne 5, 3) := by decide +kernel
theorem dX9_people_11 : decode cX9_people 11 = .ok (.iconst (-1), 1) := by decide +kernel
theorem dX9_people_12 : decode cX9_people 12 = .ok (.ireturn, 1) := by decide +kernel
theorem dX9_people_13 : decode cX9_people 13 = .ok (.aload_n 0, 1) := by decide +kernel
theorem dX9_people_14 : decode cX9_people 14 = .ok (.invokevirtual 161, 3) := by decide +kernel
theorem dX9_people_17 : decode cX9_people 17 = .ok (.aload_n 0, 1) := by decide +kernel
theorem dX9_people_18 : decode cX9_people 18 = .ok (.getfield 43, 3) := by decide +kernel
theorem dX9_people_21 : decode cX9_people 21 = .ok (.getfield 164, 3) := by decide +kernel
theorem dX9_people_24 : decode cX9_people 24 = .ok (.aload_n 0, 1) := by decide +kernel
theorem dX9_people_25 : decode cX9_people 25 = .ok (.getfield 43, 3) := by decide +kernel
theorem dX9_people_28 : decode cX9_people 28 = .ok (.getfield 164, 3) := by decide +kernel
theorem dX9_people_31 : decode cX9_people 31 = .ok (.getfield 168, 3) := by decide +kernel
theorem dX9_people_34 : decode cX9_people 34 = .ok (.iload_n 1, 1) := by decide +kernel
theorem dX9_people_35 : decode cX9_people 35 = .ok (.iaload, 1) := by decide +kernel
theorem dX9_people_36 : decode cX9_people 36 = .ok (.iload_n 2, 1) := by decide +kernel
theorem dX9_people_37 : decode cX9_people 37 = .ok (.invokevirtual 173, 3) := by decide +kernel
theorem dX9_people_40 : decode cX9_people 40 = .ok (.ireturn, 1) := by decide +kernel
theorem dX9_end_0 : decode cX9_end 0 = .ok (.aload_n 0, 1) := by decide +kernel
theorem dX9_end_1 : decode cX9_end 1 = .ok (.iload_n 1, 1) := by decide +kernel
theorem dX9_end_2 : decode cX9_end 2 = .ok (.iload_n 2, 1) := by decide +kernel
theorem dX9_end_3 : decode cX9_end 3 = .ok (.iload_n 3, 1) := by decide +kernel
theorem dX9_end_4 : decode cX9_end 4 = .ok (.invokevirtual 177, 3) := by decide +kernel
theorem dX9_end_7 : decode cX9_end 7 = .ok (.ifCond .ne 5, 3) := by decide +kernel
theorem dX9_end_10 : decode cX9_end 10 = .ok (.iconst (-1), 1) := by decide +kernel
theorem dX9_end_11 : decode cX9_end 11 = .ok (.ireturn, 1) := by decide +kernel
theorem dX9_end_12 : decode cX9_end 12 = .ok (.aload_n 0, 1) := by decide +kernel
theorem dX9_end_13 : decode cX9_end 13 = .ok (.invokevirtual 161, 3) := by decide +kernel
theorem dX9_end_16 : decode cX9_end 16 = .ok (.aload_n 0, 1) := by decide +kernel
theorem dX9_end_17 : decode cX9_end 17 = .ok (.getfield 43, 3) := by decide +kernel
theorem dX9_end_20 : decode cX9_end 20 = .ok (.getfield 181, 3) := by decide +kernel
theorem dX9_end_23 : decode cX9_end 23 = .ok (.getfield 185, 3) := by decide +kernel
theorem dX9_end_26 : decode cX9_end 26 = .ok (.aload_n 0, 1) := by decide +kernel
theorem dX9_end_27 : decode cX9_end 27 = .ok (.getfield 43, 3) := by decide +kernel
theorem dX9_end_30 : decode cX9_end 30 = .ok (.iload_n 1, 1) := by decide +kernel
theorem dX9_end_31 : decode cX9_end 31 = .ok (.iload_n 2, 1) := by decide +kernel
theorem dX9_end_32 : decode cX9_end 32 = .ok (.iload_n 3, 1) := by decide +kernel
theorem dX9_end_33 : decode cX9_end 33 = .ok (.invokestatic 190, 3) := by decide +kernel
theorem dX9_end_36 : decode cX9_end 36 = .ok (.iaload, 1) := by decide +kernel
theorem dX9_end_37 : decode cX9_end 37 = .ok (.ireturn, 1) := by decide +kernel
theorem dX9_year_0 : decode cX9_year 0 = .ok (.aload_n 0, 1) := by decide +kernel
theorem dX9_year_1 : decode cX9_year 1 = .ok (.getfield 14, 3) := by decide +kernel
theorem dX9_year_4 : decode cX9_year 4 = .ok (.iload_n 1, 1) := by decide +kernel
theorem dX9_year_5 : decode cX9_year 5 = .ok (.invokevirtual 123, 3) := by decide +kernel
theorem dX9_year_8 : decode cX9_year 8 = .ok (.ifCond .eq 10, 3) := by decide +kernel
theorem dX9_year_11 : decode cX9_year 11 = .ok (.iload_n 2, 1) := by decide +kernel
theorem dX9_year_12 : decode cX9_year 12 = .ok (.invokestatic 106, 3) := by decide +kernel
theorem dX9_year_15 : decode cX9_year 15 = .ok (.ifCond .ne 5, 3) := by decide +kernel
theorem dX9_year_18 : decode cX9_year 18 = .ok (.iconst (-1), 1) := by decide +kernel
theorem dX9_year_19 : decode cX9_year 19 = .ok (.ireturn, 1) := by decide +kernel
theorem dX9_year_20 : decode cX9_year 20 = .ok (.aload_n 0, 1) := by decide +kernel
theorem dX9_year_21 : decode cX9_year 21 = .ok (.getfield 14, 3) := by decide +kernel
theorem dX9_year_24 : decode cX9_year 24 = .ok (.getfield 129, 3) := by decide +kernel
theorem dX9_year_27 : decode cX9_year 27 = .ok (.iload_n 1, 1) := by decide +kernel
theorem dX9_year_28 : decode cX9_year 28 = .ok (.iaload, 1) := by decide +kernel
theorem dX9_year_29 : decode cX9_year 29 = .ok (.iconst 4, 1) := by decide +kernel
theorem dX9_year_30 : decode cX9_year 30 = .ok (.if_icmp .ne 15, 3) := by decide +kernel
theorem dX9_year_33 : decode cX9_year 33 = .ok (.aload_n 0, 1) := by decide +kernel
theorem dX9_year_34 : decode cX9_year 34 = .ok (.getfield 14, 3) := by decide +kernel
theorem dX9_year_37 : decode cX9_year 37 = .ok (.getfield 126, 3) := by decide +kernel
theorem dX9_year_40 : decode cX9_year 40 = .ok (.iload_n 1, 1) := by decide +kernel
theorem dX9_year_41 : decode cX9_year 41 = .ok (.iaload, 1) := by decide +kernel
theorem dX9_year_42 : decode cX9_year 42 = .ok (.ifCond .ne 6, 3) := by decide +kernel
theorem dX9_year_45 : decode cX9_year 45 = .ok (.bipush (-3), 2) := by decide +kernel
theorem dX9_year_47 : decode cX9_year 47 = .ok (.ireturn, 1) := by decide +kernel
theorem dX9_year_48 : decode cX9_year 48 = .ok (.aload_n 0, 1) := by decide +kernel
theorem dX9_year_49 : decode cX9_year 49 = .ok (.invokevirtual 161, 3) := by decide +kernel
theorem dX9_year_52 : decode cX9_year 52 = .ok (.aload_n 0, 1) := by decide +kernel
theorem dX9_year_53 : decode cX9_year 53 = .ok (.getfield 43, 3) := by decide +kernel
theorem dX9_year_56 : decode cX9_year 56 = .ok (.getfield 181, 3) := by decide +kernel
theorem dX9_year_59 : decode cX9_year 59 = .ok (.getfield 185, 3) := by decide +kernel
theorem dX9_year_62 : decode cX9_year 62 = .ok (.iconst 2, 1) := by decide +kernel
theorem dX9_year_63 : decode cX9_year 63 = .ok (.bipush 60, 2) := by decide +kernel
theorem dX9_year_65 : decode cX9_year 65 = .ok (.iload_n 1, 1) := by decide +kernel
theorem dX9_year_66 : decode cX9_year 66 = .ok (.iadd, 1) := by decide +kernel
theorem dX9_year_67 : decode cX9_year 67 = .ok (.imul, 1) := by decide +kernel
theorem dX9_year_68 : decode cX9_year 68 = .ok (.iload_n 2, 1) := by decide +kernel
theorem dX9_year_69 : decode cX9_year 69 = .ok (.iadd, 1) := by decide +kernel
theorem dX9_year_70 : decode cX9_year 70 = .ok (.iaload, 1) := by decide +kernel
theorem dX9_year_71 : decode cX9_year 71 = .ok (.ireturn, 1) := by decide +kernel
theorem dX9_proof_0 : decode cX9_proof 0 = .ok (.aload_n 0, 1) := by decide +kernel
theorem dX9_proof_1 : decode cX9_proof 1 = .ok (.iload_n 1, 1) := by decide +kernel
theorem dX9_proof_2 : decode cX9_proof 2 = .ok (.iload_n 2, 1) := by decide +kernel
theorem dX9_proof_3 : decode cX9_proof 3 = .ok (.iload_n 3, 1) := by decide +kernel
theorem dX9_proof_4 : decode cX9_proof 4 = .ok (.invokevirtual 177, 3) := by decide +kernel
theorem dX9_proof_7 : decode cX9_proof 7 = .ok (.ifCond .eq 13, 3) := by decide +kernel
theorem dX9_proof_10 : decode cX9_proof 10 = .ok (.iload 4, 2) := by decide +kernel
theorem dX9_proof_12 : decode cX9_proof 12 = .ok (.iload 5, 2) := by decide +kernel
theorem dX9_proof_14 : decode cX9_proof 14 = .ok (.invokestatic 194, 3) := by decide +kernel
theorem dX9_proof_17 : decode cX9_proof 17 = .ok (.ifCond .ne 5, 3) := by decide +kernel
theorem dX9_proof_20 : decode cX9_proof 20 = .ok (.iconst (-1), 1) := by decide +kernel
theorem dX9_proof_21 : decode cX9_proof 21 = .ok (.ireturn, 1) := by decide +kernel
theorem dX9_proof_22 : decode cX9_proof 22 = .ok (.aload_n 0, 1) := by decide +kernel
theorem dX9_proof_23 : decode cX9_proof 23 = .ok (.invokevirtual 161, 3) := by decide +kernel
theorem dX9_proof_26 : decode cX9_proof 26 = .ok (.aload_n 0, 1) := by decide +kernel
theorem dX9_proof_27 : decode cX9_proof 27 = .ok (.getfield 43, 3) := by decide +kernel
theorem dX9_proof_30 : decode cX9_proof 30 = .ok (.getfield 181, 3) := by decide +kernel
theorem dX9_proof_33 : decode cX9_proof 33 = .ok (.aload_n 0, 1) := by decide +kernel
theorem dX9_proof_34 : decode cX9_proof 34 = .ok (.getfield 43, 3) := by decide +kernel
theorem dX9_proof_37 : decode cX9_proof 37 = .ok (.iload_n 1, 1) := by decide +kernel
theorem dX9_proof_38 : decode cX9_proof 38 = .ok (.iload_n 2, 1) := by decide +kernel
theorem dX9_proof_39 : decode cX9_proof 39 = .ok (.iload_n 3, 1) := by decide +kernel
theorem dX9_proof_40 : decode cX9_proof 40 = .ok (.invokestatic 190, 3) := by decide +kernel
theorem dX9_proof_43 : decode cX9_proof 43 = .ok (.iload 4, 2) := by decide +kernel
theorem dX9_proof_45 : decode cX9_proof 45 = .ok (.iload 5, 2) := by decide +kernel
theorem dX9_proof_47 : decode cX9_proof 47 = .ok (.invokevirtual 198, 3) := by decide +kernel
theorem dX9_proof_50 : decode cX9_proof 50 = .ok (.ireturn, 1) := by decide +kernel
theorem dX9_prove_0 : decode cX9_prove 0 = .ok (.aload_n 0, 1) := by decide +kernel
theorem dX9_prove_1 : decode cX9_prove 1 = .ok (.iload_n 1, 1) := by decide +kernel
theorem dX9_prove_2 : decode cX9_prove 2 = .ok (.iload_n 2, 1) := by decide +kernel
theorem dX9_prove_3 : decode cX9_prove 3 = .ok (.iload_n 3, 1) := by decide +kernel
theorem dX9_prove_4 : decode cX9_prove 4 = .ok (.invokevirtual 177, 3) := by decide +kernel
theorem dX9_prove_7 : decode cX9_prove 7 = .ok (.ifCond .ne 5, 3) := by decide +kernel
theorem dX9_prove_10 : decode cX9_prove 10 = .ok (.iconst (-1), 1) := by decide +kernel
theorem dX9_prove_11 : decode cX9_prove 11 = .ok (.ireturn, 1) := by decide +kernel
theorem dX9_prove_12 : decode cX9_prove 12 = .ok (.aload_n 0, 1) := by decide +kernel
theorem dX9_prove_13 : decode cX9_prove 13 = .ok (.invokevirtual 161, 3) := by decide +kernel
theorem dX9_prove_16 : decode cX9_prove 16 = .ok (.aload_n 0, 1) := by decide +kernel
theorem dX9_prove_17 : decode cX9_prove 17 = .ok (.getfield 30, 3) := by decide +kernel
theorem dX9_prove_20 : decode cX9_prove 20 = .ok (.invokevirtual 75, 3) := by decide +kernel
theorem dX9_prove_23 : decode cX9_prove 23 = .ok (.aload_n 0, 1) := by decide +kernel
theorem dX9_prove_24 : decode cX9_prove 24 = .ok (.getfield 43, 3) := by decide +kernel
theorem dX9_prove_27 : decode cX9_prove 27 = .ok (.getfield 181, 3) := by decide +kernel
theorem dX9_prove_30 : decode cX9_prove 30 = .ok (.aload_n 0, 1) := by decide +kernel
theorem dX9_prove_31 : decode cX9_prove 31 = .ok (.getfield 30, 3) := by decide +kernel
theorem dX9_prove_34 : decode cX9_prove 34 = .ok (.aload_n 0, 1) := by decide +kernel
theorem dX9_prove_35 : decode cX9_prove 35 = .ok (.getfield 43, 3) := by decide +kernel
theorem dX9_prove_38 : decode cX9_prove 38 = .ok (.iload_n 1, 1) := by decide +kernel
theorem dX9_prove_39 : decode cX9_prove 39 = .ok (.iload_n 2, 1) := by decide +kernel
theorem dX9_prove_40 : decode cX9_prove 40 = .ok (.iload_n 3, 1) := by decide +kernel
theorem dX9_prove_41 : decode cX9_prove 41 = .ok (.invokestatic 190, 3) := by decide +kernel
theorem dX9_prove_44 : decode cX9_prove 44 = .ok (.invokevirtual 202, 3) := by decide +kernel
theorem dX9_prove_47 : decode cX9_prove 47 = .ok (.aload_n 0, 1) := by decide +kernel
theorem dX9_prove_48 : decode cX9_prove 48 = .ok (.getfield 30, 3) := by decide +kernel
theorem dX9_prove_51 : decode cX9_prove 51 = .ok (.getfield 68, 3) := by decide +kernel
theorem dX9_prove_54 : decode cX9_prove 54 = .ok (.ireturn, 1) := by decide +kernel
theorem dX9_clash_0 : decode cX9_clash 0 = .ok (.iload_n 1, 1) := by decide +kernel
theorem dX9_clash_1 : decode cX9_clash 1 = .ok (.invokestatic 106, 3) := by decide +kernel
theorem dX9_clash_4 : decode cX9_clash 4 = .ok (.ifCond .ne 5, 3) := by decide +kernel
theorem dX9_clash_7 : decode cX9_clash 7 = .ok (.iconst (-1), 1) := by decide +kernel
theorem dX9_clash_8 : decode cX9_clash 8 = .ok (.ireturn, 1) := by decide +kernel
theorem dX9_clash_9 : decode cX9_clash 9 = .ok (.aload_n 0, 1) := by decide +kernel
theorem dX9_clash_10 : decode cX9_clash 10 = .ok (.invokevirtual 161, 3) := by decide +kernel
theorem dX9_clash_13 : decode cX9_clash 13 = .ok (.iload_n 1, 1) := by decide +kernel
theorem dX9_clash_14 : decode cX9_clash 14 = .ok (.ifCond .ne 13, 3) := by decide +kernel
theorem dX9_clash_17 : decode cX9_clash 17 = .ok (.aload_n 0, 1) := by decide +kernel
theorem dX9_clash_18 : decode cX9_clash 18 = .ok (.getfield 43, 3) := by decide +kernel
theorem dX9_clash_21 : decode cX9_clash 21 = .ok (.getfield 205, 3) := by decide +kernel
theorem dX9_clash_24 : decode cX9_clash 24 = .ok (.goto 10, 3) := by decide +kernel
theorem dX9_clash_27 : decode cX9_clash 27 = .ok (.aload_n 0, 1) := by decide +kernel
theorem dX9_clash_28 : decode cX9_clash 28 = .ok (.getfield 43, 3) := by decide +kernel
theorem dX9_clash_31 : decode cX9_clash 31 = .ok (.invokevirtual 208, 3) := by decide +kernel
theorem dX9_clash_34 : decode cX9_clash 34 = .ok (.ireturn, 1) := by decide +kernel
theorem dX9_why_0 : decode cX9_why 0 = .ok (.iload_n 1, 1) := by decide +kernel
theorem dX9_why_1 : decode cX9_why 1 = .ok (.invokestatic 106, 3) := by decide +kernel
theorem dX9_why_4 : decode cX9_why 4 = .ok (.ifCond .eq 11, 3) := by decide +kernel
theorem dX9_why_7 : decode cX9_why 7 = .ok (.iload_n 2, 1) := by decide +kernel
theorem dX9_why_8 : decode cX9_why 8 = .ok (.iload_n 3, 1) := by decide +kernel
theorem dX9_why_9 : decode cX9_why 9 = .ok (.invokestatic 194, 3) := by decide +kernel
theorem dX9_why_12 : decode cX9_why 12 = .ok (.ifCond .ne 5, 3) := by decide +kernel
theorem dX9_why_15 : decode cX9_why 15 = .ok (.iconst (-1), 1) := by decide +kernel
theorem dX9_why_16 : decode cX9_why 16 = .ok (.ireturn, 1) := by decide +kernel
theorem dX9_why_17 : decode cX9_why 17 = .ok (.aload_n 0, 1) := by decide +kernel
theorem dX9_why_18 : decode cX9_why 18 = .ok (.invokevirtual 161, 3) := by decide +kernel
theorem dX9_why_21 : decode cX9_why 21 = .ok (.aload_n 0, 1) := by decide +kernel
theorem dX9_why_22 : decode cX9_why 22 = .ok (.getfield 43, 3) := by decide +kernel
theorem dX9_why_25 : decode cX9_why 25 = .ok (.getfield 181, 3) := by decide +kernel
theorem dX9_why_28 : decode cX9_why 28 = .ok (.getfield 211, 3) := by decide +kernel
theorem dX9_why_31 : decode cX9_why 31 = .ok (.ifCond .ge 6, 3) := by decide +kernel
theorem dX9_why_34 : decode cX9_why 34 = .ok (.bipush (-3), 2) := by decide +kernel
theorem dX9_why_36 : decode cX9_why 36 = .ok (.ireturn, 1) := by decide +kernel
theorem dX9_why_37 : decode cX9_why 37 = .ok (.aload_n 0, 1) := by decide +kernel
theorem dX9_why_38 : decode cX9_why 38 = .ok (.getfield 43, 3) := by decide +kernel
theorem dX9_why_41 : decode cX9_why 41 = .ok (.getfield 181, 3) := by decide +kernel
theorem dX9_why_44 : decode cX9_why 44 = .ok (.iconst 2, 1) := by decide +kernel
theorem dX9_why_45 : decode cX9_why 45 = .ok (.aload_n 0, 1) := by decide +kernel
theorem dX9_why_46 : decode cX9_why 46 = .ok (.getfield 43, 3) := by decide +kernel
theorem dX9_why_49 : decode cX9_why 49 = .ok (.getfield 181, 3) := by decide +kernel
theorem dX9_why_52 : decode cX9_why 52 = .ok (.getfield 211, 3) := by decide +kernel
theorem dX9_why_55 : decode cX9_why 55 = .ok (.imul, 1) := by decide +kernel
theorem dX9_why_56 : decode cX9_why 56 = .ok (.iload_n 1, 1) := by decide +kernel
theorem dX9_why_57 : decode cX9_why 57 = .ok (.iadd, 1) := by decide +kernel
theorem dX9_why_58 : decode cX9_why 58 = .ok (.iload_n 2, 1) := by decide +kernel
theorem dX9_why_59 : decode cX9_why 59 = .ok (.iload_n 3, 1) := by decide +kernel
theorem dX9_why_60 : decode cX9_why 60 = .ok (.invokevirtual 198, 3) := by decide +kernel
theorem dX9_why_63 : decode cX9_why 63 = .ok (.ireturn, 1) := by decide +kernel
theorem dX9_culprit_0 : decode cX9_culprit 0 = .ok (.iload_n 1, 1) := by decide +kernel
theorem dX9_culprit_1 : decode cX9_culprit 1 = .ok (.iconst (-1), 1) := by decide +kernel
theorem dX9_culprit_2 : decode cX9_culprit 2 = .ok (.if_icmp .ge 5, 3) := by decide +kernel
theorem dX9_culprit_5 : decode cX9_culprit 5 = .ok (.iconst (-1), 1) := by decide +kernel
theorem dX9_culprit_6 : decode cX9_culprit 6 = .ok (.ireturn, 1) := by decide +kernel
theorem dX9_culprit_7 : decode cX9_culprit 7 = .ok (.aload_n 0, 1) := by decide +kernel
theorem dX9_culprit_8 : decode cX9_culprit 8 = .ok (.invokevirtual 161, 3) := by decide +kernel
theorem dX9_culprit_11 : decode cX9_culprit 11 = .ok (.aload_n 0, 1) := by decide +kernel
theorem dX9_culprit_12 : decode cX9_culprit 12 = .ok (.getfield 43, 3) := by decide +kernel
theorem dX9_culprit_15 : decode cX9_culprit 15 = .ok (.getfield 205, 3) := by decide +kernel
theorem dX9_culprit_18 : decode cX9_culprit 18 = .ok (.ifCond .ne 6, 3) := by decide +kernel
theorem dX9_culprit_21 : decode cX9_culprit 21 = .ok (.bipush (-3), 2) := by decide +kernel
theorem dX9_culprit_23 : decode cX9_culprit 23 = .ok (.ireturn, 1) := by decide +kernel
theorem dX9_culprit_24 : decode cX9_culprit 24 = .ok (.aload_n 0, 1) := by decide +kernel
theorem dX9_culprit_25 : decode cX9_culprit 25 = .ok (.invokevirtual 214, 3) := by decide +kernel
theorem dX9_culprit_28 : decode cX9_culprit 28 = .ok (.iload_n 1, 1) := by decide +kernel
theorem dX9_culprit_29 : decode cX9_culprit 29 = .ok (.iconst (-1), 1) := by decide +kernel
theorem dX9_culprit_30 : decode cX9_culprit 30 = .ok (.if_icmp .ne 8, 3) := by decide +kernel
theorem dX9_culprit_33 : decode cX9_culprit 33 = .ok (.aload_n 0, 1) := by decide +kernel
theorem dX9_culprit_34 : decode cX9_culprit 34 = .ok (.getfield 217, 3) := by decide +kernel
theorem dX9_culprit_37 : decode cX9_culprit 37 = .ok (.ireturn, 1) := by decide +kernel
theorem dX9_culprit_38 : decode cX9_culprit 38 = .ok (.iload_n 1, 1) := by decide +kernel
theorem dX9_culprit_39 : decode cX9_culprit 39 = .ok (.aload_n 0, 1) := by decide +kernel
theorem dX9_culprit_40 : decode cX9_culprit 40 = .ok (.getfield 217, 3) := by decide +kernel
theorem dX9_culprit_43 : decode cX9_culprit 43 = .ok (.if_icmp .ge 12, 3) := by decide +kernel
theorem dX9_culprit_46 : decode cX9_culprit 46 = .ok (.aload_n 0, 1) := by decide +kernel
theorem dX9_culprit_47 : decode cX9_culprit 47 = .ok (.getfield 50, 3) := by decide +kernel
theorem dX9_culprit_50 : decode cX9_culprit 50 = .ok (.iload_n 1, 1) := by decide +kernel
theorem dX9_culprit_51 : decode cX9_culprit 51 = .ok (.iaload, 1) := by decide +kernel
theorem dX9_culprit_52 : decode cX9_culprit 52 = .ok (.goto 4, 3) := by decide +kernel
theorem dX9_culprit_55 : decode cX9_culprit 55 = .ok (.iconst (-1), 1) := by decide +kernel
theorem dX9_culprit_56 : decode cX9_culprit 56 = .ok (.ireturn, 1) := by decide +kernel
theorem dX9_same_0 : decode cX9_same 0 = .ok (.aload_n 0, 1) := by decide +kernel
theorem dX9_same_1 : decode cX9_same 1 = .ok (.iload_n 1, 1) := by decide +kernel
theorem dX9_same_2 : decode cX9_same 2 = .ok (.iload_n 2, 1) := by decide +kernel
theorem dX9_same_3 : decode cX9_same 3 = .ok (.invokevirtual 220, 3) := by decide +kernel
theorem dX9_same_6 : decode cX9_same 6 = .ok (.ifCond .eq 8, 3) := by decide +kernel
theorem dX9_same_9 : decode cX9_same 9 = .ok (.iload_n 1, 1) := by decide +kernel
theorem dX9_same_10 : decode cX9_same 10 = .ok (.iload_n 2, 1) := by decide +kernel
theorem dX9_same_11 : decode cX9_same 11 = .ok (.if_icmp .ne 5, 3) := by decide +kernel
theorem dX9_same_14 : decode cX9_same 14 = .ok (.iconst (-1), 1) := by decide +kernel
theorem dX9_same_15 : decode cX9_same 15 = .ok (.ireturn, 1) := by decide +kernel
theorem dX9_same_16 : decode cX9_same 16 = .ok (.aload_n 0, 1) := by decide +kernel
theorem dX9_same_17 : decode cX9_same 17 = .ok (.getfield 36, 3) := by decide +kernel
theorem dX9_same_20 : decode cX9_same 20 = .ok (.iload_n 1, 1) := by decide +kernel
theorem dX9_same_21 : decode cX9_same 21 = .ok (.iload_n 2, 1) := by decide +kernel
theorem dX9_same_22 : decode cX9_same 22 = .ok (.invokevirtual 223, 3) := by decide +kernel
theorem dX9_same_25 : decode cX9_same 25 = .ok (.aload_n 0, 1) := by decide +kernel
theorem dX9_same_26 : decode cX9_same 26 = .ok (.invokevirtual 227, 3) := by decide +kernel
theorem dX9_same_29 : decode cX9_same 29 = .ok (.aload_n 0, 1) := by decide +kernel
theorem dX9_same_30 : decode cX9_same 30 = .ok (.getfield 47, 3) := by decide +kernel
theorem dX9_same_33 : decode cX9_same 33 = .ok (.getfield 205, 3) := by decide +kernel
theorem dX9_same_36 : decode cX9_same 36 = .ok (.ireturn, 1) := by decide +kernel
theorem dX9_narrows_0 : decode cX9_narrows 0 = .ok (.aload_n 0, 1) := by decide +kernel
theorem dX9_narrows_1 : decode cX9_narrows 1 = .ok (.getfield 14, 3) := by decide +kernel
theorem dX9_narrows_4 : decode cX9_narrows 4 = .ok (.iload_n 1, 1) := by decide +kernel
theorem dX9_narrows_5 : decode cX9_narrows 5 = .ok (.invokevirtual 100, 3) := by decide +kernel
theorem dX9_narrows_8 : decode cX9_narrows 8 = .ok (.ifCond .eq 10, 3) := by decide +kernel
theorem dX9_narrows_11 : decode cX9_narrows 11 = .ok (.iload_n 2, 1) := by decide +kernel
theorem dX9_narrows_12 : decode cX9_narrows 12 = .ok (.invokestatic 106, 3) := by decide +kernel
theorem dX9_narrows_15 : decode cX9_narrows 15 = .ok (.ifCond .ne 5, 3) := by decide +kernel
theorem dX9_narrows_18 : decode cX9_narrows 18 = .ok (.iconst (-1), 1) := by decide +kernel
theorem dX9_narrows_19 : decode cX9_narrows 19 = .ok (.ireturn, 1) := by decide +kernel
theorem dX9_narrows_20 : decode cX9_narrows 20 = .ok (.aload_n 0, 1) := by decide +kernel
theorem dX9_narrows_21 : decode cX9_narrows 21 = .ok (.getfield 14, 3) := by decide +kernel
theorem dX9_narrows_24 : decode cX9_narrows 24 = .ok (.getfield 109, 3) := by decide +kernel
theorem dX9_narrows_27 : decode cX9_narrows 27 = .ok (.bipush 60, 2) := by decide +kernel
theorem dX9_narrows_29 : decode cX9_narrows 29 = .ok (.if_icmp .lt 6, 3) := by decide +kernel
theorem dX9_narrows_32 : decode cX9_narrows 32 = .ok (.bipush (-4), 2) := by decide +kernel
theorem dX9_narrows_34 : decode cX9_narrows 34 = .ok (.ireturn, 1) := by decide +kernel
theorem dX9_narrows_35 : decode cX9_narrows 35 = .ok (.aload_n 0, 1) := by decide +kernel
theorem dX9_narrows_36 : decode cX9_narrows 36 = .ok (.invokevirtual 161, 3) := by decide +kernel
theorem dX9_narrows_39 : decode cX9_narrows 39 = .ok (.aload_n 0, 1) := by decide +kernel
theorem dX9_narrows_40 : decode cX9_narrows 40 = .ok (.getfield 43, 3) := by decide +kernel
theorem dX9_narrows_43 : decode cX9_narrows 43 = .ok (.getfield 205, 3) := by decide +kernel
theorem dX9_narrows_46 : decode cX9_narrows 46 = .ok (.ifCond .eq 6, 3) := by decide +kernel
theorem dX9_narrows_49 : decode cX9_narrows 49 = .ok (.bipush (-3), 2) := by decide +kernel
theorem dX9_narrows_51 : decode cX9_narrows 51 = .ok (.ireturn, 1) := by decide +kernel
theorem dX9_narrows_52 : decode cX9_narrows 52 = .ok (.aload_n 0, 1) := by decide +kernel
theorem dX9_narrows_53 : decode cX9_narrows 53 = .ok (.getfield 36, 3) := by decide +kernel
theorem dX9_narrows_56 : decode cX9_narrows 56 = .ok (.aload_n 0, 1) := by decide +kernel
theorem dX9_narrows_57 : decode cX9_narrows 57 = .ok (.getfield 26, 3) := by decide +kernel
theorem dX9_narrows_60 : decode cX9_narrows 60 = .ok (.aload_n 0, 1) := by decide +kernel
theorem dX9_narrows_61 : decode cX9_narrows 61 = .ok (.getfield 14, 3) := by decide +kernel
theorem dX9_narrows_64 : decode cX9_narrows 64 = .ok (.getfield 86, 3) := by decide +kernel
theorem dX9_narrows_67 : decode cX9_narrows 67 = .ok (.invokevirtual 112, 3) := by decide +kernel
theorem dX9_narrows_70 : decode cX9_narrows 70 = .ok (.istore_n 3, 1) := by decide +kernel
theorem dX9_narrows_71 : decode cX9_narrows 71 = .ok (.aload_n 0, 1) := by decide +kernel
theorem dX9_narrows_72 : decode cX9_narrows 72 = .ok (.getfield 26, 3) := by decide +kernel
theorem dX9_narrows_75 : decode cX9_narrows 75 = .ok (.invokevirtual 75, 3) := by decide +kernel
theorem dX9_narrows_78 : decode cX9_narrows 78 = .ok (.iload_n 3, 1) := by decide +kernel
theorem dX9_narrows_79 : decode cX9_narrows 79 = .ok (.ifCond .ne 14, 3) := by decide +kernel
theorem dX9_narrows_82 : decode cX9_narrows 82 = .ok (.bipush (-100), 2) := by decide +kernel
theorem dX9_narrows_84 : decode cX9_narrows 84 = .ok (.aload_n 0, 1) := by decide +kernel
theorem dX9_narrows_85 : decode cX9_narrows 85 = .ok (.getfield 36, 3) := by decide +kernel
theorem dX9_narrows_88 : decode cX9_narrows 88 = .ok (.getfield 116, 3) := by decide +kernel
theorem dX9_narrows_91 : decode cX9_narrows 91 = .ok (.isub, 1) := by decide +kernel
theorem dX9_narrows_92 : decode cX9_narrows 92 = .ok (.ireturn, 1) := by decide +kernel
theorem dX9_narrows_93 : decode cX9_narrows 93 = .ok (.aload_n 0, 1) := by decide +kernel
theorem dX9_narrows_94 : decode cX9_narrows 94 = .ok (.invokevirtual 227, 3) := by decide +kernel
theorem dX9_narrows_97 : decode cX9_narrows 97 = .ok (.aload_n 0, 1) := by decide +kernel
theorem dX9_narrows_98 : decode cX9_narrows 98 = .ok (.getfield 47, 3) := by decide +kernel
theorem dX9_narrows_101 : decode cX9_narrows 101 = .ok (.getfield 205, 3) := by decide +kernel
theorem dX9_narrows_104 : decode cX9_narrows 104 = .ok (.ifCond .eq 15, 3) := by decide +kernel
theorem dX9_narrows_107 : decode cX9_narrows 107 = .ok (.sipush (-1000), 3) := by decide +kernel
theorem dX9_narrows_110 : decode cX9_narrows 110 = .ok (.aload_n 0, 1) := by decide +kernel
theorem dX9_narrows_111 : decode cX9_narrows 111 = .ok (.getfield 47, 3) := by decide +kernel
theorem dX9_narrows_114 : decode cX9_narrows 114 = .ok (.getfield 205, 3) := by decide +kernel
theorem dX9_narrows_117 : decode cX9_narrows 117 = .ok (.isub, 1) := by decide +kernel
theorem dX9_narrows_118 : decode cX9_narrows 118 = .ok (.ireturn, 1) := by decide +kernel
theorem dX9_narrows_119 : decode cX9_narrows 119 = .ok (.aload_n 0, 1) := by decide +kernel
theorem dX9_narrows_120 : decode cX9_narrows 120 = .ok (.getfield 43, 3) := by decide +kernel
theorem dX9_narrows_123 : decode cX9_narrows 123 = .ok (.iload_n 1, 1) := by decide +kernel
theorem dX9_narrows_124 : decode cX9_narrows 124 = .ok (.iload_n 2, 1) := by decide +kernel
theorem dX9_narrows_125 : decode cX9_narrows 125 = .ok (.invokestatic 230, 3) := by decide +kernel
theorem dX9_narrows_128 : decode cX9_narrows 128 = .ok (.aload_n 0, 1) := by decide +kernel
theorem dX9_narrows_129 : decode cX9_narrows 129 = .ok (.getfield 47, 3) := by decide +kernel
theorem dX9_narrows_132 : decode cX9_narrows 132 = .ok (.iload_n 1, 1) := by decide +kernel
theorem dX9_narrows_133 : decode cX9_narrows 133 = .ok (.iload_n 2, 1) := by decide +kernel
theorem dX9_narrows_134 : decode cX9_narrows 134 = .ok (.invokestatic 230, 3) := by decide +kernel
theorem dX9_narrows_137 : decode cX9_narrows 137 = .ok (.isub, 1) := by decide +kernel
theorem dX9_narrows_138 : decode cX9_narrows 138 = .ok (.ireturn, 1) := by decide +kernel
theorem dX9_rounds_0 : decode cX9_rounds 0 = .ok (.aload_n 0, 1) := by decide +kernel
theorem dX9_rounds_1 : decode cX9_rounds 1 = .ok (.invokevirtual 161, 3) := by decide +kernel
theorem dX9_rounds_4 : decode cX9_rounds 4 = .ok (.aload_n 0, 1) := by decide +kernel
theorem dX9_rounds_5 : decode cX9_rounds 5 = .ok (.getfield 43, 3) := by decide +kernel
theorem dX9_rounds_8 : decode cX9_rounds 8 = .ok (.getfield 181, 3) := by decide +kernel
theorem dX9_rounds_11 : decode cX9_rounds 11 = .ok (.getfield 234, 3) := by decide +kernel
theorem dX9_rounds_14 : decode cX9_rounds 14 = .ok (.ireturn, 1) := by decide +kernel
theorem dX9_kin_0 : decode cX9_kin 0 = .ok (.aload_n 0, 1) := by decide +kernel
theorem dX9_kin_1 : decode cX9_kin 1 = .ok (.iload_n 1, 1) := by decide +kernel
theorem dX9_kin_2 : decode cX9_kin 2 = .ok (.iload_n 2, 1) := by decide +kernel
theorem dX9_kin_3 : decode cX9_kin 3 = .ok (.invokevirtual 220, 3) := by decide +kernel
theorem dX9_kin_6 : decode cX9_kin 6 = .ok (.ifCond .ne 5, 3) := by decide +kernel
theorem dX9_kin_9 : decode cX9_kin 9 = .ok (.iconst (-1), 1) := by decide +kernel
theorem dX9_kin_10 : decode cX9_kin 10 = .ok (.ireturn, 1) := by decide +kernel
theorem dX9_kin_11 : decode cX9_kin 11 = .ok (.aload_n 0, 1) := by decide +kernel
theorem dX9_kin_12 : decode cX9_kin 12 = .ok (.invokevirtual 161, 3) := by decide +kernel
theorem dX9_kin_15 : decode cX9_kin 15 = .ok (.aload_n 0, 1) := by decide +kernel
theorem dX9_kin_16 : decode cX9_kin 16 = .ok (.iload_n 1, 1) := by decide +kernel
theorem dX9_kin_17 : decode cX9_kin 17 = .ok (.iload_n 2, 1) := by decide +kernel
theorem dX9_kin_18 : decode cX9_kin 18 = .ok (.invokevirtual 237, 3) := by decide +kernel
theorem dX9_kin_21 : decode cX9_kin 21 = .ok (.aload_n 0, 1) := by decide +kernel
theorem dX9_kin_22 : decode cX9_kin 22 = .ok (.getfield 57, 3) := by decide +kernel
theorem dX9_kin_25 : decode cX9_kin 25 = .ok (.getfield 240, 3) := by decide +kernel
theorem dX9_kin_28 : decode cX9_kin 28 = .ok (.ifCond .ge 8, 3) := by decide +kernel
theorem dX9_kin_31 : decode cX9_kin 31 = .ok (.bipush (-5), 2) := by decide +kernel
theorem dX9_kin_33 : decode cX9_kin 33 = .ok (.goto 21, 3) := by decide +kernel
theorem dX9_kin_36 : decode cX9_kin 36 = .ok (.bipush 100, 2) := by decide +kernel
theorem dX9_kin_38 : decode cX9_kin 38 = .ok (.aload_n 0, 1) := by decide +kernel
theorem dX9_kin_39 : decode cX9_kin 39 = .ok (.getfield 57, 3) := by decide +kernel
theorem dX9_kin_42 : decode cX9_kin 42 = .ok (.getfield 243, 3) := by decide +kernel
theorem dX9_kin_45 : decode cX9_kin 45 = .ok (.imul, 1) := by decide +kernel
theorem dX9_kin_46 : decode cX9_kin 46 = .ok (.aload_n 0, 1) := by decide +kernel
theorem dX9_kin_47 : decode cX9_kin 47 = .ok (.getfield 57, 3) := by decide +kernel
theorem dX9_kin_50 : decode cX9_kin 50 = .ok (.getfield 246, 3) := by decide +kernel
theorem dX9_kin_53 : decode cX9_kin 53 = .ok (.iadd, 1) := by decide +kernel
theorem dX9_kin_54 : decode cX9_kin 54 = .ok (.ireturn, 1) := by decide +kernel
theorem dX9_common_0 : decode cX9_common 0 = .ok (.aload_n 0, 1) := by decide +kernel
theorem dX9_common_1 : decode cX9_common 1 = .ok (.iload_n 1, 1) := by decide +kernel
theorem dX9_common_2 : decode cX9_common 2 = .ok (.iload_n 2, 1) := by decide +kernel
theorem dX9_common_3 : decode cX9_common 3 = .ok (.invokevirtual 220, 3) := by decide +kernel
theorem dX9_common_6 : decode cX9_common 6 = .ok (.ifCond .ne 5, 3) := by decide +kernel
theorem dX9_common_9 : decode cX9_common 9 = .ok (.iconst (-1), 1) := by decide +kernel
theorem dX9_common_10 : decode cX9_common 10 = .ok (.ireturn, 1) := by decide +kernel
theorem dX9_common_11 : decode cX9_common 11 = .ok (.aload_n 0, 1) := by decide +kernel
theorem dX9_common_12 : decode cX9_common 12 = .ok (.invokevirtual 161, 3) := by decide +kernel
theorem dX9_common_15 : decode cX9_common 15 = .ok (.aload_n 0, 1) := by decide +kernel
theorem dX9_common_16 : decode cX9_common 16 = .ok (.iload_n 1, 1) := by decide +kernel
theorem dX9_common_17 : decode cX9_common 17 = .ok (.iload_n 2, 1) := by decide +kernel
theorem dX9_common_18 : decode cX9_common 18 = .ok (.invokevirtual 237, 3) := by decide +kernel
theorem dX9_common_21 : decode cX9_common 21 = .ok (.aload_n 0, 1) := by decide +kernel
theorem dX9_common_22 : decode cX9_common 22 = .ok (.getfield 57, 3) := by decide +kernel
theorem dX9_common_25 : decode cX9_common 25 = .ok (.getfield 240, 3) := by decide +kernel
theorem dX9_common_28 : decode cX9_common 28 = .ok (.ifCond .ge 8, 3) := by decide +kernel
theorem dX9_common_31 : decode cX9_common 31 = .ok (.bipush (-5), 2) := by decide +kernel
theorem dX9_common_33 : decode cX9_common 33 = .ok (.goto 10, 3) := by decide +kernel
theorem dX9_common_36 : decode cX9_common 36 = .ok (.aload_n 0, 1) := by decide +kernel
theorem dX9_common_37 : decode cX9_common 37 = .ok (.getfield 57, 3) := by decide +kernel
theorem dX9_common_40 : decode cX9_common 40 = .ok (.getfield 240, 3) := by decide +kernel
theorem dX9_common_43 : decode cX9_common 43 = .ok (.ireturn, 1) := by decide +kernel
theorem dX9_half_0 : decode cX9_half 0 = .ok (.aload_n 0, 1) := by decide +kernel
theorem dX9_half_1 : decode cX9_half 1 = .ok (.iload_n 1, 1) := by decide +kernel
theorem dX9_half_2 : decode cX9_half 2 = .ok (.iload_n 2, 1) := by decide +kernel
theorem dX9_half_3 : decode cX9_half 3 = .ok (.invokevirtual 220, 3) := by decide +kernel
theorem dX9_half_6 : decode cX9_half 6 = .ok (.ifCond .ne 5, 3) := by decide +kernel
theorem dX9_half_9 : decode cX9_half 9 = .ok (.iconst (-1), 1) := by decide +kernel
theorem dX9_half_10 : decode cX9_half 10 = .ok (.ireturn, 1) := by decide +kernel
theorem dX9_half_11 : decode cX9_half 11 = .ok (.aload_n 0, 1) := by decide +kernel
theorem dX9_half_12 : decode cX9_half 12 = .ok (.invokevirtual 161, 3) := by decide +kernel
theorem dX9_half_15 : decode cX9_half 15 = .ok (.aload_n 0, 1) := by decide +kernel
theorem dX9_half_16 : decode cX9_half 16 = .ok (.iload_n 1, 1) := by decide +kernel
theorem dX9_half_17 : decode cX9_half 17 = .ok (.iload_n 2, 1) := by decide +kernel
theorem dX9_half_18 : decode cX9_half 18 = .ok (.invokevirtual 237, 3) := by decide +kernel
theorem dX9_half_21 : decode cX9_half 21 = .ok (.aload_n 0, 1) := by decide +kernel
theorem dX9_half_22 : decode cX9_half 22 = .ok (.getfield 57, 3) := by decide +kernel
theorem dX9_half_25 : decode cX9_half 25 = .ok (.getfield 240, 3) := by decide +kernel
theorem dX9_half_28 : decode cX9_half 28 = .ok (.ifCond .ge 6, 3) := by decide +kernel
theorem dX9_half_31 : decode cX9_half 31 = .ok (.bipush (-5), 2) := by decide +kernel
theorem dX9_half_33 : decode cX9_half 33 = .ok (.ireturn, 1) := by decide +kernel
theorem dX9_half_34 : decode cX9_half 34 = .ok (.aload_n 0, 1) := by decide +kernel
theorem dX9_half_35 : decode cX9_half 35 = .ok (.getfield 57, 3) := by decide +kernel
theorem dX9_half_38 : decode cX9_half 38 = .ok (.aload_n 0, 1) := by decide +kernel
theorem dX9_half_39 : decode cX9_half 39 = .ok (.getfield 43, 3) := by decide +kernel
theorem dX9_half_42 : decode cX9_half 42 = .ok (.getfield 164, 3) := by decide +kernel
theorem dX9_half_45 : decode cX9_half 45 = .ok (.invokevirtual 249, 3) := by decide +kernel
theorem dX9_half_48 : decode cX9_half 48 = .ok (.ifCond .eq 7, 3) := by decide +kernel
theorem dX9_half_51 : decode cX9_half 51 = .ok (.iconst 1, 1) := by decide +kernel
theorem dX9_half_52 : decode cX9_half 52 = .ok (.goto 4, 3) := by decide +kernel
theorem dX9_half_55 : decode cX9_half 55 = .ok (.iconst 0, 1) := by decide +kernel
theorem dX9_half_56 : decode cX9_half 56 = .ok (.ireturn, 1) := by decide +kernel
theorem dX9_title_0 : decode cX9_title 0 = .ok (.aload_n 0, 1) := by decide +kernel
theorem dX9_title_1 : decode cX9_title 1 = .ok (.iload_n 1, 1) := by decide +kernel
theorem dX9_title_2 : decode cX9_title 2 = .ok (.iload_n 2, 1) := by decide +kernel
theorem dX9_title_3 : decode cX9_title 3 = .ok (.invokevirtual 220, 3) := by decide +kernel
theorem dX9_title_6 : decode cX9_title 6 = .ok (.ifCond .ne 5, 3) := by decide +kernel
theorem dX9_title_9 : decode cX9_title 9 = .ok (.iconst (-1), 1) := by decide +kernel
theorem dX9_title_10 : decode cX9_title 10 = .ok (.ireturn, 1) := by decide +kernel
theorem dX9_title_11 : decode cX9_title 11 = .ok (.aload_n 0, 1) := by decide +kernel
theorem dX9_title_12 : decode cX9_title 12 = .ok (.invokevirtual 161, 3) := by decide +kernel
theorem dX9_title_15 : decode cX9_title 15 = .ok (.aload_n 0, 1) := by decide +kernel
theorem dX9_title_16 : decode cX9_title 16 = .ok (.iload_n 1, 1) := by decide +kernel
theorem dX9_title_17 : decode cX9_title 17 = .ok (.iload_n 2, 1) := by decide +kernel
theorem dX9_title_18 : decode cX9_title 18 = .ok (.invokevirtual 237, 3) := by decide +kernel
theorem dX9_title_21 : decode cX9_title 21 = .ok (.aload_n 0, 1) := by decide +kernel
theorem dX9_title_22 : decode cX9_title 22 = .ok (.getfield 30, 3) := by decide +kernel
theorem dX9_title_25 : decode cX9_title 25 = .ok (.invokevirtual 75, 3) := by decide +kernel
theorem dX9_title_28 : decode cX9_title 28 = .ok (.aload_n 0, 1) := by decide +kernel
theorem dX9_title_29 : decode cX9_title 29 = .ok (.getfield 43, 3) := by decide +kernel
theorem dX9_title_32 : decode cX9_title 32 = .ok (.getfield 164, 3) := by decide +kernel
theorem dX9_title_35 : decode cX9_title 35 = .ok (.getfield 253, 3) := by decide +kernel
theorem dX9_title_38 : decode cX9_title 38 = .ok (.aload_n 0, 1) := by decide +kernel
theorem dX9_title_39 : decode cX9_title 39 = .ok (.getfield 43, 3) := by decide +kernel
theorem dX9_title_42 : decode cX9_title 42 = .ok (.getfield 164, 3) := by decide +kernel
theorem dX9_title_45 : decode cX9_title 45 = .ok (.getfield 168, 3) := by decide +kernel
theorem dX9_title_48 : decode cX9_title 48 = .ok (.iload_n 2, 1) := by decide +kernel
theorem dX9_title_49 : decode cX9_title 49 = .ok (.iaload, 1) := by decide +kernel
theorem dX9_title_50 : decode cX9_title 50 = .ok (.iaload, 1) := by decide +kernel
theorem dX9_title_51 : decode cX9_title 51 = .ok (.istore_n 3, 1) := by decide +kernel
theorem dX9_title_52 : decode cX9_title 52 = .ok (.aload_n 0, 1) := by decide +kernel
theorem dX9_title_53 : decode cX9_title 53 = .ok (.getfield 57, 3) := by decide +kernel
theorem dX9_title_56 : decode cX9_title 56 = .ok (.getfield 240, 3) := by decide +kernel
theorem dX9_title_59 : decode cX9_title 59 = .ok (.ifCond .lt 32, 3) := by decide +kernel
theorem dX9_title_62 : decode cX9_title 62 = .ok (.aload_n 0, 1) := by decide +kernel
theorem dX9_title_63 : decode cX9_title 63 = .ok (.getfield 30, 3) := by decide +kernel
theorem dX9_title_66 : decode cX9_title 66 = .ok (.aload_n 0, 1) := by decide +kernel
theorem dX9_title_67 : decode cX9_title 67 = .ok (.getfield 57, 3) := by decide +kernel
theorem dX9_title_70 : decode cX9_title 70 = .ok (.aload_n 0, 1) := by decide +kernel
theorem dX9_title_71 : decode cX9_title 71 = .ok (.getfield 57, 3) := by decide +kernel
theorem dX9_title_74 : decode cX9_title 74 = .ok (.aload_n 0, 1) := by decide +kernel
theorem dX9_title_75 : decode cX9_title 75 = .ok (.getfield 43, 3) := by decide +kernel
theorem dX9_title_78 : decode cX9_title 78 = .ok (.getfield 164, 3) := by decide +kernel
theorem dX9_title_81 : decode cX9_title 81 = .ok (.invokevirtual 249, 3) := by decide +kernel
theorem dX9_title_84 : decode cX9_title 84 = .ok (.iload_n 3, 1) := by decide +kernel
theorem dX9_title_85 : decode cX9_title 85 = .ok (.invokestatic 254, 3) := by decide +kernel
theorem dX9_title_88 : decode cX9_title 88 = .ok (.goto 70, 3) := by decide +kernel
theorem dX9_title_91 : decode cX9_title 91 = .ok (.aload_n 0, 1) := by decide +kernel
theorem dX9_title_92 : decode cX9_title 92 = .ok (.getfield 43, 3) := by decide +kernel
theorem dX9_title_95 : decode cX9_title 95 = .ok (.getfield 164, 3) := by decide +kernel
theorem dX9_title_98 : decode cX9_title 98 = .ok (.aload_n 0, 1) := by decide +kernel
theorem dX9_title_99 : decode cX9_title 99 = .ok (.getfield 43, 3) := by decide +kernel
theorem dX9_title_102 : decode cX9_title 102 = .ok (.getfield 164, 3) := by decide +kernel
theorem dX9_title_105 : decode cX9_title 105 = .ok (.getfield 168, 3) := by decide +kernel
theorem dX9_title_108 : decode cX9_title 108 = .ok (.iload_n 1, 1) := by decide +kernel
theorem dX9_title_109 : decode cX9_title 109 = .ok (.iaload, 1) := by decide +kernel
theorem dX9_title_110 : decode cX9_title 110 = .ok (.aload_n 0, 1) := by decide +kernel
theorem dX9_title_111 : decode cX9_title 111 = .ok (.getfield 43, 3) := by decide +kernel
theorem dX9_title_114 : decode cX9_title 114 = .ok (.getfield 164, 3) := by decide +kernel
theorem dX9_title_117 : decode cX9_title 117 = .ok (.getfield 168, 3) := by decide +kernel
theorem dX9_title_120 : decode cX9_title 120 = .ok (.iload_n 2, 1) := by decide +kernel
theorem dX9_title_121 : decode cX9_title 121 = .ok (.iaload, 1) := by decide +kernel
theorem dX9_title_122 : decode cX9_title 122 = .ok (.invokevirtual 260, 3) := by decide +kernel
theorem dX9_title_125 : decode cX9_title 125 = .ok (.ifCond .eq 23, 3) := by decide +kernel
theorem dX9_title_128 : decode cX9_title 128 = .ok (.aload_n 0, 1) := by decide +kernel
theorem dX9_title_129 : decode cX9_title 129 = .ok (.getfield 30, 3) := by decide +kernel
theorem dX9_title_132 : decode cX9_title 132 = .ok (.iload_n 3, 1) := by decide +kernel
theorem dX9_title_133 : decode cX9_title 133 = .ok (.ldc_w 263, 3) := by decide +kernel
theorem dX9_title_136 : decode cX9_title 136 = .ok (.ldc_w 265, 3) := by decide +kernel
theorem dX9_title_139 : decode cX9_title 139 = .ok (.ldc_w 267, 3) := by decide +kernel
theorem dX9_title_142 : decode cX9_title 142 = .ok (.invokestatic 269, 3) := by decide +kernel
theorem dX9_title_145 : decode cX9_title 145 = .ok (.goto 13, 3) := by decide +kernel
theorem dX9_title_148 : decode cX9_title 148 = .ok (.aload_n 0, 1) := by decide +kernel
theorem dX9_title_149 : decode cX9_title 149 = .ok (.getfield 30, 3) := by decide +kernel
theorem dX9_title_152 : decode cX9_title 152 = .ok (.ldc_w 273, 3) := by decide +kernel
theorem dX9_title_155 : decode cX9_title 155 = .ok (.invokevirtual 275, 3) := by decide +kernel
theorem dX9_title_158 : decode cX9_title 158 = .ok (.aload_n 0, 1) := by decide +kernel
theorem dX9_title_159 : decode cX9_title 159 = .ok (.getfield 30, 3) := by decide +kernel
theorem dX9_title_162 : decode cX9_title 162 = .ok (.getfield 68, 3) := by decide +kernel
theorem dX9_title_165 : decode cX9_title 165 = .ok (.ireturn, 1) := by decide +kernel
theorem dX9_path_0 : decode cX9_path 0 = .ok (.aload_n 0, 1) := by decide +kernel
theorem dX9_path_1 : decode cX9_path 1 = .ok (.iload_n 1, 1) := by decide +kernel
theorem dX9_path_2 : decode cX9_path 2 = .ok (.iload_n 2, 1) := by decide +kernel
theorem dX9_path_3 : decode cX9_path 3 = .ok (.invokevirtual 220, 3) := by decide +kernel
theorem dX9_path_6 : decode cX9_path 6 = .ok (.ifCond .eq 8, 3) := by decide +kernel
theorem dX9_path_9 : decode cX9_path 9 = .ok (.iload_n 3, 1) := by decide +kernel
theorem dX9_path_10 : decode cX9_path 10 = .ok (.iconst (-1), 1) := by decide +kernel
theorem dX9_path_11 : decode cX9_path 11 = .ok (.if_icmp .ge 5, 3) := by decide +kernel
theorem dX9_path_14 : decode cX9_path 14 = .ok (.iconst (-1), 1) := by decide +kernel
theorem dX9_path_15 : decode cX9_path 15 = .ok (.ireturn, 1) := by decide +kernel
theorem dX9_path_16 : decode cX9_path 16 = .ok (.aload_n 0, 1) := by decide +kernel
theorem dX9_path_17 : decode cX9_path 17 = .ok (.invokevirtual 161, 3) := by decide +kernel
theorem dX9_path_20 : decode cX9_path 20 = .ok (.aload_n 0, 1) := by decide +kernel
theorem dX9_path_21 : decode cX9_path 21 = .ok (.iload_n 1, 1) := by decide +kernel
theorem dX9_path_22 : decode cX9_path 22 = .ok (.iload_n 2, 1) := by decide +kernel
theorem dX9_path_23 : decode cX9_path 23 = .ok (.invokevirtual 237, 3) := by decide +kernel
theorem dX9_path_26 : decode cX9_path 26 = .ok (.aload_n 0, 1) := by decide +kernel
theorem dX9_path_27 : decode cX9_path 27 = .ok (.getfield 57, 3) := by decide +kernel
theorem dX9_path_30 : decode cX9_path 30 = .ok (.getfield 240, 3) := by decide +kernel
theorem dX9_path_33 : decode cX9_path 33 = .ok (.ifCond .ge 6, 3) := by decide +kernel
theorem dX9_path_36 : decode cX9_path 36 = .ok (.bipush (-5), 2) := by decide +kernel
theorem dX9_path_38 : decode cX9_path 38 = .ok (.ireturn, 1) := by decide +kernel
theorem dX9_path_39 : decode cX9_path 39 = .ok (.aload_n 0, 1) := by decide +kernel
theorem dX9_path_40 : decode cX9_path 40 = .ok (.getfield 57, 3) := by decide +kernel
theorem dX9_path_43 : decode cX9_path 43 = .ok (.getfield 243, 3) := by decide +kernel
theorem dX9_path_46 : decode cX9_path 46 = .ok (.aload_n 0, 1) := by decide +kernel
theorem dX9_path_47 : decode cX9_path 47 = .ok (.getfield 57, 3) := by decide +kernel
theorem dX9_path_50 : decode cX9_path 50 = .ok (.getfield 246, 3) := by decide +kernel
theorem dX9_path_53 : decode cX9_path 53 = .ok (.iadd, 1) := by decide +kernel
theorem dX9_path_54 : decode cX9_path 54 = .ok (.iconst 1, 1) := by decide +kernel
theorem dX9_path_55 : decode cX9_path 55 = .ok (.iadd, 1) := by decide +kernel
theorem dX9_path_56 : decode cX9_path 56 = .ok (.istore 4, 2) := by decide +kernel
theorem dX9_path_58 : decode cX9_path 58 = .ok (.iload_n 3, 1) := by decide +kernel
theorem dX9_path_59 : decode cX9_path 59 = .ok (.iconst (-1), 1) := by decide +kernel
theorem dX9_path_60 : decode cX9_path 60 = .ok (.if_icmp .ne 6, 3) := by decide +kernel
theorem dX9_path_63 : decode cX9_path 63 = .ok (.iload 4, 2) := by decide +kernel
theorem dX9_path_65 : decode cX9_path 65 = .ok (.ireturn, 1) := by decide +kernel
theorem dX9_path_66 : decode cX9_path 66 = .ok (.iload_n 3, 1) := by decide +kernel
theorem dX9_path_67 : decode cX9_path 67 = .ok (.iload 4, 2) := by decide +kernel
theorem dX9_path_69 : decode cX9_path 69 = .ok (.if_icmp .ge 21, 3) := by decide +kernel
theorem dX9_path_72 : decode cX9_path 72 = .ok (.aload_n 0, 1) := by decide +kernel
theorem dX9_path_73 : decode cX9_path 73 = .ok (.getfield 57, 3) := by decide +kernel
theorem dX9_path_76 : decode cX9_path 76 = .ok (.aload_n 0, 1) := by decide +kernel
theorem dX9_path_77 : decode cX9_path 77 = .ok (.getfield 43, 3) := by decide +kernel
theorem dX9_path_80 : decode cX9_path 80 = .ok (.getfield 164, 3) := by decide +kernel
theorem dX9_path_83 : decode cX9_path 83 = .ok (.iload_n 3, 1) := by decide +kernel
theorem dX9_path_84 : decode cX9_path 84 = .ok (.invokevirtual 279, 3) := by decide +kernel
theorem dX9_path_87 : decode cX9_path 87 = .ok (.goto 4, 3) := by decide +kernel
theorem dX9_path_90 : decode cX9_path 90 = .ok (.iconst (-1), 1) := by decide +kernel
theorem dX9_path_91 : decode cX9_path 91 = .ok (.ireturn, 1) := by decide +kernel
theorem dX9_relatives_0 : decode cX9_relatives 0 = .ok (.aload_n 0, 1) := by decide +kernel
theorem dX9_relatives_1 : decode cX9_relatives 1 = .ok (.getfield 14, 3) := by decide +kernel
theorem dX9_relatives_4 : decode cX9_relatives 4 = .ok (.iload_n 1, 1) := by decide +kernel
theorem dX9_relatives_5 : decode cX9_relatives 5 = .ok (.invokevirtual 100, 3) := by decide +kernel
theorem dX9_relatives_8 : decode cX9_relatives 8 = .ok (.ifCond .eq 12, 3) := by decide +kernel
theorem dX9_relatives_11 : decode cX9_relatives 11 = .ok (.iload_n 2, 1) := by decide +kernel
theorem dX9_relatives_12 : decode cX9_relatives 12 = .ok (.ifCond .lt 8, 3) := by decide +kernel
theorem dX9_relatives_15 : decode cX9_relatives 15 = .ok (.iload_n 2, 1) := by decide +kernel
theorem dX9_relatives_16 : decode cX9_relatives 16 = .ok (.iconst 2, 1) := by decide +kernel
theorem dX9_relatives_17 : decode cX9_relatives 17 = .ok (.if_icmp .le 7, 3) := by decide +kernel
theorem dX9_relatives_20 : decode cX9_relatives 20 = .ok (.ldc2_w 283, 3) := by decide +kernel
theorem dX9_relatives_23 : decode cX9_relatives 23 = .ok (.lreturn, 1) := by decide +kernel
theorem dX9_relatives_24 : decode cX9_relatives 24 = .ok (.aload_n 0, 1) := by decide +kernel
theorem dX9_relatives_25 : decode cX9_relatives 25 = .ok (.invokevirtual 161, 3) := by decide +kernel
theorem dX9_relatives_28 : decode cX9_relatives 28 = .ok (.aload_n 0, 1) := by decide +kernel
theorem dX9_relatives_29 : decode cX9_relatives 29 = .ok (.getfield 43, 3) := by decide +kernel
theorem dX9_relatives_32 : decode cX9_relatives 32 = .ok (.getfield 164, 3) := by decide +kernel
theorem dX9_relatives_35 : decode cX9_relatives 35 = .ok (.getfield 168, 3) := by decide +kernel
theorem dX9_relatives_38 : decode cX9_relatives 38 = .ok (.iload_n 1, 1) := by decide +kernel
theorem dX9_relatives_39 : decode cX9_relatives 39 = .ok (.iaload, 1) := by decide +kernel
theorem dX9_relatives_40 : decode cX9_relatives 40 = .ok (.istore_n 3, 1) := by decide +kernel
theorem dX9_relatives_41 : decode cX9_relatives 41 = .ok (.iload_n 2, 1) := by decide +kernel
theorem dX9_relatives_42 : decode cX9_relatives 42 = .ok (.ifCond .ne 16, 3) := by decide +kernel
theorem dX9_relatives_45 : decode cX9_relatives 45 = .ok (.aload_n 0, 1) := by decide +kernel
theorem dX9_relatives_46 : decode cX9_relatives 46 = .ok (.getfield 43, 3) := by decide +kernel
theorem dX9_relatives_49 : decode cX9_relatives 49 = .ok (.getfield 164, 3) := by decide +kernel
theorem dX9_relatives_52 : decode cX9_relatives 52 = .ok (.iload_n 3, 1) := by decide +kernel
theorem dX9_relatives_53 : decode cX9_relatives 53 = .ok (.invokevirtual 285, 3) := by decide +kernel
theorem dX9_relatives_56 : decode cX9_relatives 56 = .ok (.i2l, 1) := by decide +kernel
theorem dX9_relatives_57 : decode cX9_relatives 57 = .ok (.lreturn, 1) := by decide +kernel
theorem dX9_relatives_58 : decode cX9_relatives 58 = .ok (.iload_n 2, 1) := by decide +kernel
theorem dX9_relatives_59 : decode cX9_relatives 59 = .ok (.iconst 1, 1) := by decide +kernel
theorem dX9_relatives_60 : decode cX9_relatives 60 = .ok (.if_icmp .ne 18, 3) := by decide +kernel
theorem dX9_relatives_63 : decode cX9_relatives 63 = .ok (.aload_n 0, 1) := by decide +kernel
theorem dX9_relatives_64 : decode cX9_relatives 64 = .ok (.getfield 43, 3) := by decide +kernel
theorem dX9_relatives_67 : decode cX9_relatives 67 = .ok (.getfield 164, 3) := by decide +kernel
theorem dX9_relatives_70 : decode cX9_relatives 70 = .ok (.iload_n 3, 1) := by decide +kernel
theorem dX9_relatives_71 : decode cX9_relatives 71 = .ok (.invokevirtual 288, 3) := by decide +kernel
theorem dX9_relatives_74 : decode cX9_relatives 74 = .ok (.i2l, 1) := by decide +kernel
theorem dX9_relatives_75 : decode cX9_relatives 75 = .ok (.goto 16, 3) := by decide +kernel
theorem dX9_relatives_78 : decode cX9_relatives 78 = .ok (.aload_n 0, 1) := by decide +kernel
theorem dX9_relatives_79 : decode cX9_relatives 79 = .ok (.getfield 43, 3) := by decide +kernel
theorem dX9_relatives_82 : decode cX9_relatives 82 = .ok (.getfield 164, 3) := by decide +kernel
theorem dX9_relatives_85 : decode cX9_relatives 85 = .ok (.getfield 291, 3) := by decide +kernel
theorem dX9_relatives_88 : decode cX9_relatives 88 = .ok (.iload_n 3, 1) := by decide +kernel
theorem dX9_relatives_89 : decode cX9_relatives 89 = .ok (.iaload, 1) := by decide +kernel
theorem dX9_relatives_90 : decode cX9_relatives 90 = .ok (.i2l, 1) := by decide +kernel
theorem dX9_relatives_91 : decode cX9_relatives 91 = .ok (.lreturn, 1) := by decide +kernel
theorem dX9_ancestors_0 : decode cX9_ancestors 0 = .ok (.aload_n 0, 1) := by decide +kernel
theorem dX9_ancestors_1 : decode cX9_ancestors 1 = .ok (.getfield 14, 3) := by decide +kernel
theorem dX9_ancestors_4 : decode cX9_ancestors 4 = .ok (.iload_n 1, 1) := by decide +kernel
theorem dX9_ancestors_5 : decode cX9_ancestors 5 = .ok (.invokevirtual 100, 3) := by decide +kernel
theorem dX9_ancestors_8 : decode cX9_ancestors 8 = .ok (.ifCond .ne 7, 3) := by decide +kernel
theorem dX9_ancestors_11 : decode cX9_ancestors 11 = .ok (.ldc2_w 283, 3) := by decide +kernel
theorem dX9_ancestors_14 : decode cX9_ancestors 14 = .ok (.lreturn, 1) := by decide +kernel
theorem dX9_ancestors_15 : decode cX9_ancestors 15 = .ok (.aload_n 0, 1) := by decide +kernel
theorem dX9_ancestors_16 : decode cX9_ancestors 16 = .ok (.invokevirtual 161, 3) := by decide +kernel
theorem dX9_ancestors_19 : decode cX9_ancestors 19 = .ok (.aload_n 0, 1) := by decide +kernel
theorem dX9_ancestors_20 : decode cX9_ancestors 20 = .ok (.getfield 43, 3) := by decide +kernel
theorem dX9_ancestors_23 : decode cX9_ancestors 23 = .ok (.getfield 164, 3) := by decide +kernel
theorem dX9_ancestors_26 : decode cX9_ancestors 26 = .ok (.getfield 294, 3) := by decide +kernel
theorem dX9_ancestors_29 : decode cX9_ancestors 29 = .ok (.aload_n 0, 1) := by decide +kernel
theorem dX9_ancestors_30 : decode cX9_ancestors 30 = .ok (.getfield 43, 3) := by decide +kernel
theorem dX9_ancestors_33 : decode cX9_ancestors 33 = .ok (.getfield 164, 3) := by decide +kernel
theorem dX9_ancestors_36 : decode cX9_ancestors 36 = .ok (.getfield 168, 3) := by decide +kernel
theorem dX9_ancestors_39 : decode cX9_ancestors 39 = .ok (.iload_n 1, 1) := by decide +kernel
theorem dX9_ancestors_40 : decode cX9_ancestors 40 = .ok (.iaload, 1) := by decide +kernel
theorem dX9_ancestors_41 : decode cX9_ancestors 41 = .ok (.iaload, 1) := by decide +kernel
theorem dX9_ancestors_42 : decode cX9_ancestors 42 = .ok (.i2l, 1) := by decide +kernel
theorem dX9_ancestors_43 : decode cX9_ancestors 43 = .ok (.lreturn, 1) := by decide +kernel
theorem dX9_descendants_0 : decode cX9_descendants 0 = .ok (.aload_n 0, 1) := by decide +kernel
theorem dX9_descendants_1 : decode cX9_descendants 1 = .ok (.getfield 14, 3) := by decide +kernel
theorem dX9_descendants_4 : decode cX9_descendants 4 = .ok (.iload_n 1, 1) := by decide +kernel
theorem dX9_descendants_5 : decode cX9_descendants 5 = .ok (.invokevirtual 100, 3) := by decide +kernel
theorem dX9_descendants_8 : decode cX9_descendants 8 = .ok (.ifCond .ne 7, 3) := by decide +kernel
theorem dX9_descendants_11 : decode cX9_descendants 11 = .ok (.ldc2_w 283, 3) := by decide +kernel
theorem dX9_descendants_14 : decode cX9_descendants 14 = .ok (.lreturn, 1) := by decide +kernel
theorem dX9_descendants_15 : decode cX9_descendants 15 = .ok (.aload_n 0, 1) := by decide +kernel
theorem dX9_descendants_16 : decode cX9_descendants 16 = .ok (.invokevirtual 161, 3) := by decide +kernel
theorem dX9_descendants_19 : decode cX9_descendants 19 = .ok (.aload_n 0, 1) := by decide +kernel
theorem dX9_descendants_20 : decode cX9_descendants 20 = .ok (.getfield 43, 3) := by decide +kernel
theorem dX9_descendants_23 : decode cX9_descendants 23 = .ok (.getfield 164, 3) := by decide +kernel
theorem dX9_descendants_26 : decode cX9_descendants 26 = .ok (.aload_n 0, 1) := by decide +kernel
theorem dX9_descendants_27 : decode cX9_descendants 27 = .ok (.getfield 43, 3) := by decide +kernel
theorem dX9_descendants_30 : decode cX9_descendants 30 = .ok (.getfield 164, 3) := by decide +kernel
theorem dX9_descendants_33 : decode cX9_descendants 33 = .ok (.getfield 168, 3) := by decide +kernel
theorem dX9_descendants_36 : decode cX9_descendants 36 = .ok (.iload_n 1, 1) := by decide +kernel
theorem dX9_descendants_37 : decode cX9_descendants 37 = .ok (.iaload, 1) := by decide +kernel
theorem dX9_descendants_38 : decode cX9_descendants 38 = .ok (.invokevirtual 297, 3) := by decide +kernel
theorem dX9_descendants_41 : decode cX9_descendants 41 = .ok (.i2l, 1) := by decide +kernel
theorem dX9_descendants_42 : decode cX9_descendants 42 = .ok (.lreturn, 1) := by decide +kernel
theorem dX9_order_0 : decode cX9_order 0 = .ok (.aload_n 0, 1) := by decide +kernel
theorem dX9_order_1 : decode cX9_order 1 = .ok (.invokevirtual 161, 3) := by decide +kernel
theorem dX9_order_4 : decode cX9_order 4 = .ok (.iload_n 1, 1) := by decide +kernel
theorem dX9_order_5 : decode cX9_order 5 = .ok (.ifCond .lt 29, 3) := by decide +kernel
theorem dX9_order_8 : decode cX9_order 8 = .ok (.iload_n 1, 1) := by decide +kernel
theorem dX9_order_9 : decode cX9_order 9 = .ok (.aload_n 0, 1) := by decide +kernel
theorem dX9_order_10 : decode cX9_order 10 = .ok (.getfield 43, 3) := by decide +kernel
theorem dX9_order_13 : decode cX9_order 13 = .ok (.getfield 164, 3) := by decide +kernel
theorem dX9_order_16 : decode cX9_order 16 = .ok (.getfield 300, 3) := by decide +kernel
theorem dX9_order_19 : decode cX9_order 19 = .ok (.if_icmp .ge 15, 3) := by decide +kernel
theorem dX9_order_22 : decode cX9_order 22 = .ok (.aload_n 0, 1) := by decide +kernel
theorem dX9_order_23 : decode cX9_order 23 = .ok (.getfield 43, 3) := by decide +kernel
theorem dX9_order_26 : decode cX9_order 26 = .ok (.getfield 303, 3) := by decide +kernel
theorem dX9_order_29 : decode cX9_order 29 = .ok (.iload_n 1, 1) := by decide +kernel
theorem dX9_order_30 : decode cX9_order 30 = .ok (.iaload, 1) := by decide +kernel
theorem dX9_order_31 : decode cX9_order 31 = .ok (.goto 4, 3) := by decide +kernel
theorem dX9_order_34 : decode cX9_order 34 = .ok (.iconst (-1), 1) := by decide +kernel
theorem dX9_order_35 : decode cX9_order 35 = .ok (.ireturn, 1) := by decide +kernel
theorem dX9_ahead_0 : decode cX9_ahead 0 = .ok (.aload_n 0, 1) := by decide +kernel
theorem dX9_ahead_1 : decode cX9_ahead 1 = .ok (.iload_n 1, 1) := by decide +kernel
theorem dX9_ahead_2 : decode cX9_ahead 2 = .ok (.iload_n 2, 1) := by decide +kernel
theorem dX9_ahead_3 : decode cX9_ahead 3 = .ok (.invokevirtual 220, 3) := by decide +kernel
theorem dX9_ahead_6 : decode cX9_ahead 6 = .ok (.ifCond .ne 5, 3) := by decide +kernel
theorem dX9_ahead_9 : decode cX9_ahead 9 = .ok (.iconst (-1), 1) := by decide +kernel
theorem dX9_ahead_10 : decode cX9_ahead 10 = .ok (.ireturn, 1) := by decide +kernel
theorem dX9_ahead_11 : decode cX9_ahead 11 = .ok (.aload_n 0, 1) := by decide +kernel
theorem dX9_ahead_12 : decode cX9_ahead 12 = .ok (.invokevirtual 161, 3) := by decide +kernel
theorem dX9_ahead_15 : decode cX9_ahead 15 = .ok (.aload_n 0, 1) := by decide +kernel
theorem dX9_ahead_16 : decode cX9_ahead 16 = .ok (.getfield 43, 3) := by decide +kernel
theorem dX9_ahead_19 : decode cX9_ahead 19 = .ok (.getfield 164, 3) := by decide +kernel
theorem dX9_ahead_22 : decode cX9_ahead 22 = .ok (.getfield 168, 3) := by decide +kernel
theorem dX9_ahead_25 : decode cX9_ahead 25 = .ok (.iload_n 1, 1) := by decide +kernel
theorem dX9_ahead_26 : decode cX9_ahead 26 = .ok (.iaload, 1) := by decide +kernel
theorem dX9_ahead_27 : decode cX9_ahead 27 = .ok (.aload_n 0, 1) := by decide +kernel
theorem dX9_ahead_28 : decode cX9_ahead 28 = .ok (.getfield 43, 3) := by decide +kernel
theorem dX9_ahead_31 : decode cX9_ahead 31 = .ok (.getfield 164, 3) := by decide +kernel
theorem dX9_ahead_34 : decode cX9_ahead 34 = .ok (.getfield 168, 3) := by decide +kernel
theorem dX9_ahead_37 : decode cX9_ahead 37 = .ok (.iload_n 2, 1) := by decide +kernel
theorem dX9_ahead_38 : decode cX9_ahead 38 = .ok (.iaload, 1) := by decide +kernel
theorem dX9_ahead_39 : decode cX9_ahead 39 = .ok (.if_icmp .ne 5, 3) := by decide +kernel
theorem dX9_ahead_42 : decode cX9_ahead 42 = .ok (.iconst 0, 1) := by decide +kernel
theorem dX9_ahead_43 : decode cX9_ahead 43 = .ok (.ireturn, 1) := by decide +kernel
theorem dX9_ahead_44 : decode cX9_ahead 44 = .ok (.aload_n 0, 1) := by decide +kernel
theorem dX9_ahead_45 : decode cX9_ahead 45 = .ok (.getfield 43, 3) := by decide +kernel
theorem dX9_ahead_48 : decode cX9_ahead 48 = .ok (.getfield 181, 3) := by decide +kernel
theorem dX9_ahead_51 : decode cX9_ahead 51 = .ok (.getfield 185, 3) := by decide +kernel
theorem dX9_ahead_54 : decode cX9_ahead 54 = .ok (.astore_n 3, 1) := by decide +kernel
theorem dX9_ahead_55 : decode cX9_ahead 55 = .ok (.aload_n 3, 1) := by decide +kernel
theorem dX9_ahead_56 : decode cX9_ahead 56 = .ok (.aload_n 0, 1) := by decide +kernel
theorem dX9_ahead_57 : decode cX9_ahead 57 = .ok (.getfield 43, 3) := by decide +kernel
theorem dX9_ahead_60 : decode cX9_ahead 60 = .ok (.iload_n 1, 1) := by decide +kernel
theorem dX9_ahead_61 : decode cX9_ahead 61 = .ok (.iconst 0, 1) := by decide +kernel
theorem dX9_ahead_62 : decode cX9_ahead 62 = .ok (.iconst 1, 1) := by decide +kernel
theorem dX9_ahead_63 : decode cX9_ahead 63 = .ok (.invokestatic 190, 3) := by decide +kernel
theorem dX9_ahead_66 : decode cX9_ahead 66 = .ok (.iaload, 1) := by decide +kernel
theorem dX9_ahead_67 : decode cX9_ahead 67 = .ok (.aload_n 3, 1) := by decide +kernel
theorem dX9_ahead_68 : decode cX9_ahead 68 = .ok (.aload_n 0, 1) := by decide +kernel
theorem dX9_ahead_69 : decode cX9_ahead 69 = .ok (.getfield 43, 3) := by decide +kernel
theorem dX9_ahead_72 : decode cX9_ahead 72 = .ok (.iload_n 2, 1) := by decide +kernel
theorem dX9_ahead_73 : decode cX9_ahead 73 = .ok (.iconst 0, 1) := by decide +kernel
theorem dX9_ahead_74 : decode cX9_ahead 74 = .ok (.iconst 0, 1) := by decide +kernel
theorem dX9_ahead_75 : decode cX9_ahead 75 = .ok (.invokestatic 190, 3) := by decide +kernel
theorem dX9_ahead_78 : decode cX9_ahead 78 = .ok (.iaload, 1) := by decide +kernel
theorem dX9_ahead_79 : decode cX9_ahead 79 = .ok (.if_icmp .ge 5, 3) := by decide +kernel
theorem dX9_ahead_82 : decode cX9_ahead 82 = .ok (.iconst 1, 1) := by decide +kernel
theorem dX9_ahead_83 : decode cX9_ahead 83 = .ok (.ireturn, 1) := by decide +kernel
theorem dX9_ahead_84 : decode cX9_ahead 84 = .ok (.aload_n 3, 1) := by decide +kernel
theorem dX9_ahead_85 : decode cX9_ahead 85 = .ok (.aload_n 0, 1) := by decide +kernel
theorem dX9_ahead_86 : decode cX9_ahead 86 = .ok (.getfield 43, 3) := by decide +kernel
theorem dX9_ahead_89 : decode cX9_ahead 89 = .ok (.iload_n 1, 1) := by decide +kernel
theorem dX9_ahead_90 : decode cX9_ahead 90 = .ok (.iconst 0, 1) := by decide +kernel
theorem dX9_ahead_91 : decode cX9_ahead 91 = .ok (.iconst 0, 1) := by decide +kernel
theorem dX9_ahead_92 : decode cX9_ahead 92 = .ok (.invokestatic 190, 3) := by decide +kernel
theorem dX9_ahead_95 : decode cX9_ahead 95 = .ok (.iaload, 1) := by decide +kernel
theorem dX9_ahead_96 : decode cX9_ahead 96 = .ok (.aload_n 3, 1) := by decide +kernel
theorem dX9_ahead_97 : decode cX9_ahead 97 = .ok (.aload_n 0, 1) := by decide +kernel
theorem dX9_ahead_98 : decode cX9_ahead 98 = .ok (.getfield 43, 3) := by decide +kernel
theorem dX9_ahead_101 : decode cX9_ahead 101 = .ok (.iload_n 2, 1) := by decide +kernel
theorem dX9_ahead_102 : decode cX9_ahead 102 = .ok (.iconst 0, 1) := by decide +kernel
theorem dX9_ahead_103 : decode cX9_ahead 103 = .ok (.iconst 1, 1) := by decide +kernel
theorem dX9_ahead_104 : decode cX9_ahead 104 = .ok (.invokestatic 190, 3) := by decide +kernel
theorem dX9_ahead_107 : decode cX9_ahead 107 = .ok (.iaload, 1) := by decide +kernel
theorem dX9_ahead_108 : decode cX9_ahead 108 = .ok (.if_icmp .le 7, 3) := by decide +kernel
theorem dX9_ahead_111 : decode cX9_ahead 111 = .ok (.iconst 2, 1) := by decide +kernel
theorem dX9_ahead_112 : decode cX9_ahead 112 = .ok (.goto 4, 3) := by decide +kernel
theorem dX9_ahead_115 : decode cX9_ahead 115 = .ok (.iconst 0, 1) := by decide +kernel
theorem dX9_ahead_116 : decode cX9_ahead 116 = .ok (.ireturn, 1) := by decide +kernel
theorem dX9_told_0 : decode cX9_told 0 = .ok (.aload_n 0, 1) := by decide +kernel
theorem dX9_told_1 : decode cX9_told 1 = .ok (.invokevirtual 161, 3) := by decide +kernel
theorem dX9_told_4 : decode cX9_told 4 = .ok (.iload_n 1, 1) := by decide +kernel
theorem dX9_told_5 : decode cX9_told 5 = .ok (.tableswitch 117 0 7 #[47, 55, 66, 74, 82, 90, 98, 106], 47) := by decide +kernel
theorem dX9_told_52 : decode cX9_told 52 = .ok (.aload_n 0, 1) := by decide +kernel
theorem dX9_told_53 : decode cX9_told 53 = .ok (.getfield 14, 3) := by decide +kernel
theorem dX9_told_56 : decode cX9_told 56 = .ok (.getfield 86, 3) := by decide +kernel
theorem dX9_told_59 : decode cX9_told 59 = .ok (.ireturn, 1) := by decide +kernel
theorem dX9_told_60 : decode cX9_told 60 = .ok (.aload_n 0, 1) := by decide +kernel
theorem dX9_told_61 : decode cX9_told 61 = .ok (.getfield 43, 3) := by decide +kernel
theorem dX9_told_64 : decode cX9_told 64 = .ok (.getfield 164, 3) := by decide +kernel
theorem dX9_told_67 : decode cX9_told 67 = .ok (.getfield 300, 3) := by decide +kernel
theorem dX9_told_70 : decode cX9_told 70 = .ok (.ireturn, 1) := by decide +kernel
theorem dX9_told_71 : decode cX9_told 71 = .ok (.aload_n 0, 1) := by decide +kernel
theorem dX9_told_72 : decode cX9_told 72 = .ok (.getfield 14, 3) := by decide +kernel
theorem dX9_told_75 : decode cX9_told 75 = .ok (.getfield 109, 3) := by decide +kernel
theorem dX9_told_78 : decode cX9_told 78 = .ok (.ireturn, 1) := by decide +kernel
theorem dX9_told_79 : decode cX9_told 79 = .ok (.aload_n 0, 1) := by decide +kernel
theorem dX9_told_80 : decode cX9_told 80 = .ok (.getfield 43, 3) := by decide +kernel
theorem dX9_told_83 : decode cX9_told 83 = .ok (.getfield 306, 3) := by decide +kernel
theorem dX9_told_86 : decode cX9_told 86 = .ok (.ireturn, 1) := by decide +kernel
theorem dX9_told_87 : decode cX9_told 87 = .ok (.aload_n 0, 1) := by decide +kernel
theorem dX9_told_88 : decode cX9_told 88 = .ok (.getfield 26, 3) := by decide +kernel
theorem dX9_told_91 : decode cX9_told 91 = .ok (.getfield 68, 3) := by decide +kernel
theorem dX9_told_94 : decode cX9_told 94 = .ok (.ireturn, 1) := by decide +kernel
theorem dX9_told_95 : decode cX9_told 95 = .ok (.aload_n 0, 1) := by decide +kernel
theorem dX9_told_96 : decode cX9_told 96 = .ok (.getfield 30, 3) := by decide +kernel
theorem dX9_told_99 : decode cX9_told 99 = .ok (.getfield 68, 3) := by decide +kernel
theorem dX9_told_102 : decode cX9_told 102 = .ok (.ireturn, 1) := by decide +kernel
theorem dX9_told_103 : decode cX9_told 103 = .ok (.aload_n 0, 1) := by decide +kernel
theorem dX9_told_104 : decode cX9_told 104 = .ok (.getfield 14, 3) := by decide +kernel
theorem dX9_told_107 : decode cX9_told 107 = .ok (.invokevirtual 309, 3) := by decide +kernel
theorem dX9_told_110 : decode cX9_told 110 = .ok (.ireturn, 1) := by decide +kernel
theorem dX9_told_111 : decode cX9_told 111 = .ok (.aload_n 0, 1) := by decide +kernel
theorem dX9_told_112 : decode cX9_told 112 = .ok (.getfield 43, 3) := by decide +kernel
theorem dX9_told_115 : decode cX9_told 115 = .ok (.getfield 164, 3) := by decide +kernel
theorem dX9_told_118 : decode cX9_told 118 = .ok (.invokevirtual 312, 3) := by decide +kernel
theorem dX9_told_121 : decode cX9_told 121 = .ok (.ireturn, 1) := by decide +kernel
theorem dX9_told_122 : decode cX9_told 122 = .ok (.iconst (-1), 1) := by decide +kernel
theorem dX9_told_123 : decode cX9_told 123 = .ok (.ireturn, 1) := by decide +kernel
theorem dX9_list_0 : decode cX9_list 0 = .ok (.aload_n 0, 1) := by decide +kernel
theorem dX9_list_1 : decode cX9_list 1 = .ok (.getfield 64, 3) := by decide +kernel
theorem dX9_list_4 : decode cX9_list 4 = .ok (.iload_n 1, 1) := by decide +kernel
theorem dX9_list_5 : decode cX9_list 5 = .ok (.invokevirtual 315, 3) := by decide +kernel
theorem dX9_list_8 : decode cX9_list 8 = .ok (.ifCond .ne 5, 3) := by decide +kernel
theorem dX9_list_11 : decode cX9_list 11 = .ok (.iconst (-1), 1) := by decide +kernel
theorem dX9_list_12 : decode cX9_list 12 = .ok (.ireturn, 1) := by decide +kernel
theorem dX9_list_13 : decode cX9_list 13 = .ok (.iload_n 2, 1) := by decide +kernel
theorem dX9_list_14 : decode cX9_list 14 = .ok (.bipush 40, 2) := by decide +kernel
theorem dX9_list_16 : decode cX9_list 16 = .ok (.if_icmp .le 6, 3) := by decide +kernel
theorem dX9_list_19 : decode cX9_list 19 = .ok (.bipush (-2), 2) := by decide +kernel
theorem dX9_list_21 : decode cX9_list 21 = .ok (.ireturn, 1) := by decide +kernel
theorem dX9_list_22 : decode cX9_list 22 = .ok (.iload_n 2, 1) := by decide +kernel
theorem dX9_list_23 : decode cX9_list 23 = .ok (.ifCond .ge 6, 3) := by decide +kernel
theorem dX9_list_26 : decode cX9_list 26 = .ok (.bipush (-14), 2) := by decide +kernel
theorem dX9_list_28 : decode cX9_list 28 = .ok (.ireturn, 1) := by decide +kernel
theorem dX9_list_29 : decode cX9_list 29 = .ok (.aload_n 0, 1) := by decide +kernel
theorem dX9_list_30 : decode cX9_list 30 = .ok (.getfield 64, 3) := by decide +kernel
theorem dX9_list_33 : decode cX9_list 33 = .ok (.iload_n 1, 1) := by decide +kernel
theorem dX9_list_34 : decode cX9_list 34 = .ok (.iload_n 2, 1) := by decide +kernel
theorem dX9_list_35 : decode cX9_list 35 = .ok (.invokevirtual 318, 3) := by decide +kernel
theorem dX9_list_38 : decode cX9_list 38 = .ok (.iconst 1, 1) := by decide +kernel
theorem dX9_list_39 : decode cX9_list 39 = .ok (.ireturn, 1) := by decide +kernel
theorem dX9_set_0 : decode cX9_set 0 = .ok (.aload_n 0, 1) := by decide +kernel
theorem dX9_set_1 : decode cX9_set 1 = .ok (.getfield 64, 3) := by decide +kernel
theorem dX9_set_4 : decode cX9_set 4 = .ok (.iload_n 1, 1) := by decide +kernel
theorem dX9_set_5 : decode cX9_set 5 = .ok (.invokevirtual 315, 3) := by decide +kernel
theorem dX9_set_8 : decode cX9_set 8 = .ok (.ifCond .ne 5, 3) := by decide +kernel
theorem dX9_set_11 : decode cX9_set 11 = .ok (.iconst (-1), 1) := by decide +kernel
theorem dX9_set_12 : decode cX9_set 12 = .ok (.ireturn, 1) := by decide +kernel
theorem dX9_set_13 : decode cX9_set 13 = .ok (.aload_n 0, 1) := by decide +kernel
theorem dX9_set_14 : decode cX9_set 14 = .ok (.getfield 64, 3) := by decide +kernel
theorem dX9_set_17 : decode cX9_set 17 = .ok (.getfield 321, 3) := by decide +kernel
theorem dX9_set_20 : decode cX9_set 20 = .ok (.iload_n 1, 1) := by decide +kernel
theorem dX9_set_21 : decode cX9_set 21 = .ok (.iaload, 1) := by decide +kernel
theorem dX9_set_22 : decode cX9_set 22 = .ok (.ifCond .ge 6, 3) := by decide +kernel
theorem dX9_set_25 : decode cX9_set 25 = .ok (.bipush (-11), 2) := by decide +kernel
theorem dX9_set_27 : decode cX9_set 27 = .ok (.ireturn, 1) := by decide +kernel
theorem dX9_set_28 : decode cX9_set 28 = .ok (.aload_n 0, 1) := by decide +kernel
theorem dX9_set_29 : decode cX9_set 29 = .ok (.getfield 64, 3) := by decide +kernel
theorem dX9_set_32 : decode cX9_set 32 = .ok (.iload_n 1, 1) := by decide +kernel
theorem dX9_set_33 : decode cX9_set 33 = .ok (.iload_n 2, 1) := by decide +kernel
theorem dX9_set_34 : decode cX9_set 34 = .ok (.iconst 0, 1) := by decide +kernel
theorem dX9_set_35 : decode cX9_set 35 = .ok (.invokevirtual 324, 3) := by decide +kernel
theorem dX9_set_38 : decode cX9_set 38 = .ok (.ifCond .ne 6, 3) := by decide +kernel
theorem dX9_set_41 : decode cX9_set 41 = .ok (.bipush (-13), 2) := by decide +kernel
theorem dX9_set_43 : decode cX9_set 43 = .ok (.ireturn, 1) := by decide +kernel
theorem dX9_set_44 : decode cX9_set 44 = .ok (.aload_n 0, 1) := by decide +kernel
theorem dX9_set_45 : decode cX9_set 45 = .ok (.getfield 64, 3) := by decide +kernel
theorem dX9_set_48 : decode cX9_set 48 = .ok (.getfield 327, 3) := by decide +kernel
theorem dX9_set_51 : decode cX9_set 51 = .ok (.iload_n 1, 1) := by decide +kernel
theorem dX9_set_52 : decode cX9_set 52 = .ok (.aaload, 1) := by decide +kernel
theorem dX9_set_53 : decode cX9_set 53 = .ok (.iload_n 2, 1) := by decide +kernel
theorem dX9_set_54 : decode cX9_set 54 = .ok (.iload_n 3, 1) := by decide +kernel
theorem dX9_set_55 : decode cX9_set 55 = .ok (.iastore, 1) := by decide +kernel
theorem dX9_set_56 : decode cX9_set 56 = .ok (.iconst 1, 1) := by decide +kernel
theorem dX9_set_57 : decode cX9_set 57 = .ok (.ireturn, 1) := by decide +kernel
theorem dX9_get_0 : decode cX9_get 0 = .ok (.aload_n 0, 1) := by decide +kernel
theorem dX9_get_1 : decode cX9_get 1 = .ok (.getfield 64, 3) := by decide +kernel
theorem dX9_get_4 : decode cX9_get 4 = .ok (.iload_n 1, 1) := by decide +kernel
theorem dX9_get_5 : decode cX9_get 5 = .ok (.invokevirtual 315, 3) := by decide +kernel
theorem dX9_get_8 : decode cX9_get 8 = .ok (.ifCond .eq 31, 3) := by decide +kernel
theorem dX9_get_11 : decode cX9_get 11 = .ok (.aload_n 0, 1) := by decide +kernel
theorem dX9_get_12 : decode cX9_get 12 = .ok (.getfield 64, 3) := by decide +kernel
theorem dX9_get_15 : decode cX9_get 15 = .ok (.iload_n 1, 1) := by decide +kernel
theorem dX9_get_16 : decode cX9_get 16 = .ok (.iload_n 2, 1) := by decide +kernel
theorem dX9_get_17 : decode cX9_get 17 = .ok (.iconst 0, 1) := by decide +kernel
theorem dX9_get_18 : decode cX9_get 18 = .ok (.invokevirtual 324, 3) := by decide +kernel
theorem dX9_get_21 : decode cX9_get 21 = .ok (.ifCond .eq 18, 3) := by decide +kernel
theorem dX9_get_24 : decode cX9_get 24 = .ok (.aload_n 0, 1) := by decide +kernel
theorem dX9_get_25 : decode cX9_get 25 = .ok (.getfield 64, 3) := by decide +kernel
theorem dX9_get_28 : decode cX9_get 28 = .ok (.getfield 327, 3) := by decide +kernel
theorem dX9_get_31 : decode cX9_get 31 = .ok (.iload_n 1, 1) := by decide +kernel
theorem dX9_get_32 : decode cX9_get 32 = .ok (.aaload, 1) := by decide +kernel
theorem dX9_get_33 : decode cX9_get 33 = .ok (.iload_n 2, 1) := by decide +kernel
theorem dX9_get_34 : decode cX9_get 34 = .ok (.iaload, 1) := by decide +kernel
theorem dX9_get_35 : decode cX9_get 35 = .ok (.i2l, 1) := by decide +kernel
theorem dX9_get_36 : decode cX9_get 36 = .ok (.goto 6, 3) := by decide +kernel
theorem dX9_get_39 : decode cX9_get 39 = .ok (.ldc2_w 283, 3) := by decide +kernel
theorem dX9_get_42 : decode cX9_get 42 = .ok (.lreturn, 1) := by decide +kernel
theorem dX9_lay_0 : decode cX9_lay 0 = .ok (.aload_n 0, 1) := by decide +kernel
theorem dX9_lay_1 : decode cX9_lay 1 = .ok (.getfield 64, 3) := by decide +kernel
theorem dX9_lay_4 : decode cX9_lay 4 = .ok (.iload_n 1, 1) := by decide +kernel
theorem dX9_lay_5 : decode cX9_lay 5 = .ok (.invokevirtual 315, 3) := by decide +kernel
theorem dX9_lay_8 : decode cX9_lay 8 = .ok (.ifCond .ne 5, 3) := by decide +kernel
theorem dX9_lay_11 : decode cX9_lay 11 = .ok (.iconst (-1), 1) := by decide +kernel
theorem dX9_lay_12 : decode cX9_lay 12 = .ok (.ireturn, 1) := by decide +kernel
theorem dX9_lay_13 : decode cX9_lay 13 = .ok (.aload_n 0, 1) := by decide +kernel
theorem dX9_lay_14 : decode cX9_lay 14 = .ok (.getfield 64, 3) := by decide +kernel
theorem dX9_lay_17 : decode cX9_lay 17 = .ok (.getfield 321, 3) := by decide +kernel
theorem dX9_lay_20 : decode cX9_lay 20 = .ok (.iload_n 1, 1) := by decide +kernel
theorem dX9_lay_21 : decode cX9_lay 21 = .ok (.iaload, 1) := by decide +kernel
theorem dX9_lay_22 : decode cX9_lay 22 = .ok (.ifCond .ge 6, 3) := by decide +kernel
theorem dX9_lay_25 : decode cX9_lay 25 = .ok (.bipush (-11), 2) := by decide +kernel
theorem dX9_lay_27 : decode cX9_lay 27 = .ok (.ireturn, 1) := by decide +kernel
theorem dX9_lay_28 : decode cX9_lay 28 = .ok (.aload_n 0, 1) := by decide +kernel
theorem dX9_lay_29 : decode cX9_lay 29 = .ok (.invokevirtual 161, 3) := by decide +kernel
theorem dX9_lay_32 : decode cX9_lay 32 = .ok (.iconst 0, 1) := by decide +kernel
theorem dX9_lay_33 : decode cX9_lay 33 = .ok (.istore_n 3, 1) := by decide +kernel
theorem dX9_lay_34 : decode cX9_lay 34 = .ok (.iload_n 3, 1) := by decide +kernel
theorem dX9_lay_35 : decode cX9_lay 35 = .ok (.aload_n 0, 1) := by decide +kernel
theorem dX9_lay_36 : decode cX9_lay 36 = .ok (.getfield 43, 3) := by decide +kernel
theorem dX9_lay_39 : decode cX9_lay 39 = .ok (.getfield 164, 3) := by decide +kernel
theorem dX9_lay_42 : decode cX9_lay 42 = .ok (.getfield 300, 3) := by decide +kernel
theorem dX9_lay_45 : decode cX9_lay 45 = .ok (.if_icmp .ge 47, 3) := by decide +kernel
theorem dX9_lay_48 : decode cX9_lay 48 = .ok (.aload_n 0, 1) := by decide +kernel
theorem dX9_lay_49 : decode cX9_lay 49 = .ok (.getfield 64, 3) := by decide +kernel
theorem dX9_lay_52 : decode cX9_lay 52 = .ok (.iload_n 1, 1) := by decide +kernel
theorem dX9_lay_53 : decode cX9_lay 53 = .ok (.iload_n 2, 1) := by decide +kernel
theorem dX9_lay_54 : decode cX9_lay 54 = .ok (.iload_n 3, 1) := by decide +kernel
theorem dX9_lay_55 : decode cX9_lay 55 = .ok (.invokevirtual 324, 3) := by decide +kernel
theorem dX9_lay_58 : decode cX9_lay 58 = .ok (.ifCond .ne 6, 3) := by decide +kernel
theorem dX9_lay_61 : decode cX9_lay 61 = .ok (.bipush (-13), 2) := by decide +kernel
theorem dX9_lay_63 : decode cX9_lay 63 = .ok (.ireturn, 1) := by decide +kernel
theorem dX9_lay_64 : decode cX9_lay 64 = .ok (.aload_n 0, 1) := by decide +kernel
theorem dX9_lay_65 : decode cX9_lay 65 = .ok (.getfield 64, 3) := by decide +kernel
theorem dX9_lay_68 : decode cX9_lay 68 = .ok (.getfield 327, 3) := by decide +kernel
theorem dX9_lay_71 : decode cX9_lay 71 = .ok (.iload_n 1, 1) := by decide +kernel
theorem dX9_lay_72 : decode cX9_lay 72 = .ok (.aaload, 1) := by decide +kernel
theorem dX9_lay_73 : decode cX9_lay 73 = .ok (.iload_n 2, 1) := by decide +kernel
theorem dX9_lay_74 : decode cX9_lay 74 = .ok (.iload_n 3, 1) := by decide +kernel
theorem dX9_lay_75 : decode cX9_lay 75 = .ok (.iadd, 1) := by decide +kernel
theorem dX9_lay_76 : decode cX9_lay 76 = .ok (.aload_n 0, 1) := by decide +kernel
theorem dX9_lay_77 : decode cX9_lay 77 = .ok (.getfield 43, 3) := by decide +kernel
theorem dX9_lay_80 : decode cX9_lay 80 = .ok (.getfield 303, 3) := by decide +kernel
theorem dX9_lay_83 : decode cX9_lay 83 = .ok (.iload_n 3, 1) := by decide +kernel
theorem dX9_lay_84 : decode cX9_lay 84 = .ok (.iaload, 1) := by decide +kernel
theorem dX9_lay_85 : decode cX9_lay 85 = .ok (.iastore, 1) := by decide +kernel
theorem dX9_lay_86 : decode cX9_lay 86 = .ok (.iinc 3 1, 3) := by decide +kernel
theorem dX9_lay_89 : decode cX9_lay 89 = .ok (.goto (-55), 3) := by decide +kernel
theorem dX9_lay_92 : decode cX9_lay 92 = .ok (.aload_n 0, 1) := by decide +kernel
theorem dX9_lay_93 : decode cX9_lay 93 = .ok (.getfield 43, 3) := by decide +kernel
theorem dX9_lay_96 : decode cX9_lay 96 = .ok (.getfield 164, 3) := by decide +kernel
theorem dX9_lay_99 : decode cX9_lay 99 = .ok (.getfield 300, 3) := by decide +kernel
theorem dX9_lay_102 : decode cX9_lay 102 = .ok (.ireturn, 1) := by decide +kernel
theorem dX9_judge_0 : decode cX9_judge 0 = .ok (.aload_n 0, 1) := by decide +kernel
theorem dX9_judge_1 : decode cX9_judge 1 = .ok (.getfield 64, 3) := by decide +kernel
theorem dX9_judge_4 : decode cX9_judge 4 = .ok (.iload_n 1, 1) := by decide +kernel
theorem dX9_judge_5 : decode cX9_judge 5 = .ok (.invokevirtual 315, 3) := by decide +kernel
theorem dX9_judge_8 : decode cX9_judge 8 = .ok (.ifCond .ne 5, 3) := by decide +kernel
theorem dX9_judge_11 : decode cX9_judge 11 = .ok (.iconst (-1), 1) := by decide +kernel
theorem dX9_judge_12 : decode cX9_judge 12 = .ok (.ireturn, 1) := by decide +kernel
theorem dX9_judge_13 : decode cX9_judge 13 = .ok (.aload_n 0, 1) := by decide +kernel
theorem dX9_judge_14 : decode cX9_judge 14 = .ok (.getfield 64, 3) := by decide +kernel
theorem dX9_judge_17 : decode cX9_judge 17 = .ok (.getfield 321, 3) := by decide +kernel
theorem dX9_judge_20 : decode cX9_judge 20 = .ok (.iload_n 1, 1) := by decide +kernel
theorem dX9_judge_21 : decode cX9_judge 21 = .ok (.iaload, 1) := by decide +kernel
theorem dX9_judge_22 : decode cX9_judge 22 = .ok (.ifCond .ge 6, 3) := by decide +kernel
theorem dX9_judge_25 : decode cX9_judge 25 = .ok (.bipush (-11), 2) := by decide +kernel
theorem dX9_judge_27 : decode cX9_judge 27 = .ok (.ireturn, 1) := by decide +kernel
theorem dX9_judge_28 : decode cX9_judge 28 = .ok (.aload_n 0, 1) := by decide +kernel
theorem dX9_judge_29 : decode cX9_judge 29 = .ok (.invokevirtual 161, 3) := by decide +kernel
theorem dX9_judge_32 : decode cX9_judge 32 = .ok (.iconst 0, 1) := by decide +kernel
theorem dX9_judge_33 : decode cX9_judge 33 = .ok (.istore_n 3, 1) := by decide +kernel
theorem dX9_judge_34 : decode cX9_judge 34 = .ok (.iload_n 3, 1) := by decide +kernel
theorem dX9_judge_35 : decode cX9_judge 35 = .ok (.aload_n 0, 1) := by decide +kernel
theorem dX9_judge_36 : decode cX9_judge 36 = .ok (.getfield 43, 3) := by decide +kernel
theorem dX9_judge_39 : decode cX9_judge 39 = .ok (.getfield 164, 3) := by decide +kernel
theorem dX9_judge_42 : decode cX9_judge 42 = .ok (.getfield 300, 3) := by decide +kernel
theorem dX9_judge_45 : decode cX9_judge 45 = .ok (.if_icmp .ge 54, 3) := by decide +kernel
theorem dX9_judge_48 : decode cX9_judge 48 = .ok (.aload_n 0, 1) := by decide +kernel
theorem dX9_judge_49 : decode cX9_judge 49 = .ok (.getfield 64, 3) := by decide +kernel
theorem dX9_judge_52 : decode cX9_judge 52 = .ok (.iload_n 1, 1) := by decide +kernel
theorem dX9_judge_53 : decode cX9_judge 53 = .ok (.iload_n 2, 1) := by decide +kernel
theorem dX9_judge_54 : decode cX9_judge 54 = .ok (.iload_n 3, 1) := by decide +kernel
theorem dX9_judge_55 : decode cX9_judge 55 = .ok (.invokevirtual 324, 3) := by decide +kernel
theorem dX9_judge_58 : decode cX9_judge 58 = .ok (.ifCond .ne 8, 3) := by decide +kernel
theorem dX9_judge_61 : decode cX9_judge 61 = .ok (.bipush 100, 2) := by decide +kernel
theorem dX9_judge_63 : decode cX9_judge 63 = .ok (.iload_n 3, 1) := by decide +kernel
theorem dX9_judge_64 : decode cX9_judge 64 = .ok (.iadd, 1) := by decide +kernel
theorem dX9_judge_65 : decode cX9_judge 65 = .ok (.ireturn, 1) := by decide +kernel
theorem dX9_judge_66 : decode cX9_judge 66 = .ok (.aload_n 0, 1) := by decide +kernel
theorem dX9_judge_67 : decode cX9_judge 67 = .ok (.getfield 64, 3) := by decide +kernel
theorem dX9_judge_70 : decode cX9_judge 70 = .ok (.getfield 327, 3) := by decide +kernel
theorem dX9_judge_73 : decode cX9_judge 73 = .ok (.iload_n 1, 1) := by decide +kernel
theorem dX9_judge_74 : decode cX9_judge 74 = .ok (.aaload, 1) := by decide +kernel
theorem dX9_judge_75 : decode cX9_judge 75 = .ok (.iload_n 2, 1) := by decide +kernel
theorem dX9_judge_76 : decode cX9_judge 76 = .ok (.iload_n 3, 1) := by decide +kernel
theorem dX9_judge_77 : decode cX9_judge 77 = .ok (.iadd, 1) := by decide +kernel
theorem dX9_judge_78 : decode cX9_judge 78 = .ok (.iaload, 1) := by decide +kernel
theorem dX9_judge_79 : decode cX9_judge 79 = .ok (.aload_n 0, 1) := by decide +kernel
theorem dX9_judge_80 : decode cX9_judge 80 = .ok (.getfield 43, 3) := by decide +kernel
theorem dX9_judge_83 : decode cX9_judge 83 = .ok (.getfield 303, 3) := by decide +kernel
theorem dX9_judge_86 : decode cX9_judge 86 = .ok (.iload_n 3, 1) := by decide +kernel
theorem dX9_judge_87 : decode cX9_judge 87 = .ok (.iaload, 1) := by decide +kernel
theorem dX9_judge_88 : decode cX9_judge 88 = .ok (.if_icmp .eq 5, 3) := by decide +kernel
theorem dX9_judge_91 : decode cX9_judge 91 = .ok (.iload_n 3, 1) := by decide +kernel
theorem dX9_judge_92 : decode cX9_judge 92 = .ok (.ireturn, 1) := by decide +kernel
theorem dX9_judge_93 : decode cX9_judge 93 = .ok (.iinc 3 1, 3) := by decide +kernel
theorem dX9_judge_96 : decode cX9_judge 96 = .ok (.goto (-62), 3) := by decide +kernel
theorem dX9_judge_99 : decode cX9_judge 99 = .ok (.bipush (-5), 2) := by decide +kernel
theorem dX9_judge_101 : decode cX9_judge 101 = .ok (.ireturn, 1) := by decide +kernel
theorem dX9_image_0 : decode cX9_image 0 = .ok (.aload_n 0, 1) := by decide +kernel
theorem dX9_image_1 : decode cX9_image 1 = .ok (.getfield 18, 3) := by decide +kernel
theorem dX9_image_4 : decode cX9_image 4 = .ok (.aload_n 0, 1) := by decide +kernel
theorem dX9_image_5 : decode cX9_image 5 = .ok (.getfield 14, 3) := by decide +kernel
theorem dX9_image_8 : decode cX9_image 8 = .ok (.invokevirtual 331, 3) := by decide +kernel
theorem dX9_image_11 : decode cX9_image 11 = .ok (.aload_n 0, 1) := by decide +kernel
theorem dX9_image_12 : decode cX9_image 12 = .ok (.iconst 1, 1) := by decide +kernel
theorem dX9_image_13 : decode cX9_image 13 = .ok (.putfield 335, 3) := by decide +kernel
theorem dX9_image_16 : decode cX9_image 16 = .ok (.aload_n 0, 1) := by decide +kernel
theorem dX9_image_17 : decode cX9_image 17 = .ok (.getfield 14, 3) := by decide +kernel
theorem dX9_image_20 : decode cX9_image 20 = .ok (.getfield 109, 3) := by decide +kernel
theorem dX9_image_23 : decode cX9_image 23 = .ok (.ireturn, 1) := by decide +kernel
theorem dX9_undo_0 : decode cX9_undo 0 = .ok (.aload_n 0, 1) := by decide +kernel
theorem dX9_undo_1 : decode cX9_undo 1 = .ok (.getfield 335, 3) := by decide +kernel
theorem dX9_undo_4 : decode cX9_undo 4 = .ok (.ifCond .ne 6, 3) := by decide +kernel
theorem dX9_undo_7 : decode cX9_undo 7 = .ok (.bipush (-3), 2) := by decide +kernel
theorem dX9_undo_9 : decode cX9_undo 9 = .ok (.ireturn, 1) := by decide +kernel
theorem dX9_undo_10 : decode cX9_undo 10 = .ok (.aload_n 0, 1) := by decide +kernel
theorem dX9_undo_11 : decode cX9_undo 11 = .ok (.getfield 14, 3) := by decide +kernel
theorem dX9_undo_14 : decode cX9_undo 14 = .ok (.aload_n 0, 1) := by decide +kernel
theorem dX9_undo_15 : decode cX9_undo 15 = .ok (.getfield 18, 3) := by decide +kernel
theorem dX9_undo_18 : decode cX9_undo 18 = .ok (.invokevirtual 331, 3) := by decide +kernel
theorem dX9_undo_21 : decode cX9_undo 21 = .ok (.aload_n 0, 1) := by decide +kernel
theorem dX9_undo_22 : decode cX9_undo 22 = .ok (.invokevirtual 97, 3) := by decide +kernel
theorem dX9_undo_25 : decode cX9_undo 25 = .ok (.aload_n 0, 1) := by decide +kernel
theorem dX9_undo_26 : decode cX9_undo 26 = .ok (.getfield 14, 3) := by decide +kernel
theorem dX9_undo_29 : decode cX9_undo 29 = .ok (.getfield 109, 3) := by decide +kernel
theorem dX9_undo_32 : decode cX9_undo 32 = .ok (.ireturn, 1) := by decide +kernel
theorem dX9_isFlag_0 : decode cX9_isFlag 0 = .ok (.iload_n 0, 1) := by decide +kernel
theorem dX9_isFlag_1 : decode cX9_isFlag 1 = .ok (.ifCond .eq 8, 3) := by decide +kernel
theorem dX9_isFlag_4 : decode cX9_isFlag 4 = .ok (.iload_n 0, 1) := by decide +kernel
theorem dX9_isFlag_5 : decode cX9_isFlag 5 = .ok (.iconst 1, 1) := by decide +kernel
theorem dX9_isFlag_6 : decode cX9_isFlag 6 = .ok (.if_icmp .ne 7, 3) := by decide +kernel
theorem dX9_isFlag_9 : decode cX9_isFlag 9 = .ok (.iconst 1, 1) := by decide +kernel
theorem dX9_isFlag_10 : decode cX9_isFlag 10 = .ok (.goto 4, 3) := by decide +kernel
theorem dX9_isFlag_13 : decode cX9_isFlag 13 = .ok (.iconst 0, 1) := by decide +kernel
theorem dX9_isFlag_14 : decode cX9_isFlag 14 = .ok (.ireturn, 1) := by decide +kernel
theorem dX9_isSex_0 : decode cX9_isSex 0 = .ok (.iload_n 0, 1) := by decide +kernel
theorem dX9_isSex_1 : decode cX9_isSex 1 = .ok (.ifCond .lt 12, 3) := by decide +kernel
theorem dX9_isSex_4 : decode cX9_isSex 4 = .ok (.iload_n 0, 1) := by decide +kernel
theorem dX9_isSex_5 : decode cX9_isSex 5 = .ok (.iconst 2, 1) := by decide +kernel
theorem dX9_isSex_6 : decode cX9_isSex 6 = .ok (.if_icmp .gt 7, 3) := by decide +kernel
theorem dX9_isSex_9 : decode cX9_isSex 9 = .ok (.iconst 1, 1) := by decide +kernel
theorem dX9_isSex_10 : decode cX9_isSex 10 = .ok (.goto 4, 3) := by decide +kernel
theorem dX9_isSex_13 : decode cX9_isSex 13 = .ok (.iconst 0, 1) := by decide +kernel
theorem dX9_isSex_14 : decode cX9_isSex 14 = .ok (.ireturn, 1) := by decide +kernel
theorem dX9_isLinkPart_0 : decode cX9_isLinkPart 0 = .ok (.iload_n 0, 1) := by decide +kernel
theorem dX9_isLinkPart_1 : decode cX9_isLinkPart 1 = .ok (.ifCond .lt 22, 3) := by decide +kernel
theorem dX9_isLinkPart_4 : decode cX9_isLinkPart 4 = .ok (.iload_n 0, 1) := by decide +kernel
theorem dX9_isLinkPart_5 : decode cX9_isLinkPart 5 = .ok (.bipush 100, 2) := by decide +kernel
theorem dX9_isLinkPart_7 : decode cX9_isLinkPart 7 = .ok (.if_icmp .ge 16, 3) := by decide +kernel
theorem dX9_isLinkPart_10 : decode cX9_isLinkPart 10 = .ok (.iload_n 1, 1) := by decide +kernel
theorem dX9_isLinkPart_11 : decode cX9_isLinkPart 11 = .ok (.ifCond .lt 12, 3) := by decide +kernel
theorem dX9_isLinkPart_14 : decode cX9_isLinkPart 14 = .ok (.iload_n 1, 1) := by decide +kernel
theorem dX9_isLinkPart_15 : decode cX9_isLinkPart 15 = .ok (.iconst 2, 1) := by decide +kernel
theorem dX9_isLinkPart_16 : decode cX9_isLinkPart 16 = .ok (.if_icmp .gt 7, 3) := by decide +kernel
theorem dX9_isLinkPart_19 : decode cX9_isLinkPart 19 = .ok (.iconst 1, 1) := by decide +kernel
theorem dX9_isLinkPart_20 : decode cX9_isLinkPart 20 = .ok (.goto 4, 3) := by decide +kernel
theorem dX9_isLinkPart_23 : decode cX9_isLinkPart 23 = .ok (.iconst 0, 1) := by decide +kernel
theorem dX9_isLinkPart_24 : decode cX9_isLinkPart 24 = .ok (.ireturn, 1) := by decide +kernel
theorem dX9_arePersons_0 : decode cX9_arePersons 0 = .ok (.aload_n 0, 1) := by decide +kernel
theorem dX9_arePersons_1 : decode cX9_arePersons 1 = .ok (.getfield 14, 3) := by decide +kernel
theorem dX9_arePersons_4 : decode cX9_arePersons 4 = .ok (.iload_n 1, 1) := by decide +kernel
theorem dX9_arePersons_5 : decode cX9_arePersons 5 = .ok (.invokevirtual 100, 3) := by decide +kernel
theorem dX9_arePersons_8 : decode cX9_arePersons 8 = .ok (.ifCond .eq 18, 3) := by decide +kernel
theorem dX9_arePersons_11 : decode cX9_arePersons 11 = .ok (.aload_n 0, 1) := by decide +kernel
theorem dX9_arePersons_12 : decode cX9_arePersons 12 = .ok (.getfield 14, 3) := by decide +kernel
theorem dX9_arePersons_15 : decode cX9_arePersons 15 = .ok (.iload_n 2, 1) := by decide +kernel
theorem dX9_arePersons_16 : decode cX9_arePersons 16 = .ok (.invokevirtual 100, 3) := by decide +kernel
theorem dX9_arePersons_19 : decode cX9_arePersons 19 = .ok (.ifCond .eq 7, 3) := by decide +kernel
theorem dX9_arePersons_22 : decode cX9_arePersons 22 = .ok (.iconst 1, 1) := by decide +kernel
theorem dX9_arePersons_23 : decode cX9_arePersons 23 = .ok (.goto 4, 3) := by decide +kernel
theorem dX9_arePersons_26 : decode cX9_arePersons 26 = .ok (.iconst 0, 1) := by decide +kernel
theorem dX9_arePersons_27 : decode cX9_arePersons 27 = .ok (.ireturn, 1) := by decide +kernel
theorem dX9_isEnd_0 : decode cX9_isEnd 0 = .ok (.aload_n 0, 1) := by decide +kernel
theorem dX9_isEnd_1 : decode cX9_isEnd 1 = .ok (.getfield 14, 3) := by decide +kernel
theorem dX9_isEnd_4 : decode cX9_isEnd 4 = .ok (.iload_n 1, 1) := by decide +kernel
theorem dX9_isEnd_5 : decode cX9_isEnd 5 = .ok (.invokevirtual 100, 3) := by decide +kernel
theorem dX9_isEnd_8 : decode cX9_isEnd 8 = .ok (.ifCond .eq 21, 3) := by decide +kernel
theorem dX9_isEnd_11 : decode cX9_isEnd 11 = .ok (.iload_n 2, 1) := by decide +kernel
theorem dX9_isEnd_12 : decode cX9_isEnd 12 = .ok (.invokestatic 106, 3) := by decide +kernel
theorem dX9_isEnd_15 : decode cX9_isEnd 15 = .ok (.ifCond .eq 14, 3) := by decide +kernel
theorem dX9_isEnd_18 : decode cX9_isEnd 18 = .ok (.iload_n 3, 1) := by decide +kernel
theorem dX9_isEnd_19 : decode cX9_isEnd 19 = .ok (.invokestatic 106, 3) := by decide +kernel
theorem dX9_isEnd_22 : decode cX9_isEnd 22 = .ok (.ifCond .eq 7, 3) := by decide +kernel
theorem dX9_isEnd_25 : decode cX9_isEnd 25 = .ok (.iconst 1, 1) := by decide +kernel
theorem dX9_isEnd_26 : decode cX9_isEnd 26 = .ok (.goto 4, 3) := by decide +kernel
theorem dX9_isEnd_29 : decode cX9_isEnd 29 = .ok (.iconst 0, 1) := by decide +kernel
theorem dX9_isEnd_30 : decode cX9_isEnd 30 = .ok (.ireturn, 1) := by decide +kernel
theorem dX9_personEnd_0 : decode cX9_personEnd 0 = .ok (.iconst 2, 1) := by decide +kernel
theorem dX9_personEnd_1 : decode cX9_personEnd 1 = .ok (.iconst 2, 1) := by decide +kernel
theorem dX9_personEnd_2 : decode cX9_personEnd 2 = .ok (.aload_n 0, 1) := by decide +kernel
theorem dX9_personEnd_3 : decode cX9_personEnd 3 = .ok (.getfield 164, 3) := by decide +kernel
theorem dX9_personEnd_6 : decode cX9_personEnd 6 = .ok (.getfield 168, 3) := by decide +kernel
theorem dX9_personEnd_9 : decode cX9_personEnd 9 = .ok (.iload_n 1, 1) := by decide +kernel
theorem dX9_personEnd_10 : decode cX9_personEnd 10 = .ok (.iaload, 1) := by decide +kernel
theorem dX9_personEnd_11 : decode cX9_personEnd 11 = .ok (.imul, 1) := by decide +kernel
theorem dX9_personEnd_12 : decode cX9_personEnd 12 = .ok (.iload_n 2, 1) := by decide +kernel
theorem dX9_personEnd_13 : decode cX9_personEnd 13 = .ok (.iadd, 1) := by decide +kernel
theorem dX9_personEnd_14 : decode cX9_personEnd 14 = .ok (.imul, 1) := by decide +kernel
theorem dX9_personEnd_15 : decode cX9_personEnd 15 = .ok (.iload_n 3, 1) := by decide +kernel
theorem dX9_personEnd_16 : decode cX9_personEnd 16 = .ok (.iadd, 1) := by decide +kernel
theorem dX9_personEnd_17 : decode cX9_personEnd 17 = .ok (.ireturn, 1) := by decide +kernel
theorem dX9_yearsBetween_0 : decode cX9_yearsBetween 0 = .ok (.aload_n 0, 1) := by decide +kernel
theorem dX9_yearsBetween_1 : decode cX9_yearsBetween 1 = .ok (.iload_n 1, 1) := by decide +kernel
theorem dX9_yearsBetween_2 : decode cX9_yearsBetween 2 = .ok (.iload_n 2, 1) := by decide +kernel
theorem dX9_yearsBetween_3 : decode cX9_yearsBetween 3 = .ok (.iconst 0, 1) := by decide +kernel
theorem dX9_yearsBetween_4 : decode cX9_yearsBetween 4 = .ok (.invokestatic 190, 3) := by decide +kernel
theorem dX9_yearsBetween_7 : decode cX9_yearsBetween 7 = .ok (.istore_n 3, 1) := by decide +kernel
theorem dX9_yearsBetween_8 : decode cX9_yearsBetween 8 = .ok (.aload_n 0, 1) := by decide +kernel
theorem dX9_yearsBetween_9 : decode cX9_yearsBetween 9 = .ok (.getfield 181, 3) := by decide +kernel
theorem dX9_yearsBetween_12 : decode cX9_yearsBetween 12 = .ok (.getfield 185, 3) := by decide +kernel
theorem dX9_yearsBetween_15 : decode cX9_yearsBetween 15 = .ok (.iload_n 3, 1) := by decide +kernel
theorem dX9_yearsBetween_16 : decode cX9_yearsBetween 16 = .ok (.iconst 1, 1) := by decide +kernel
theorem dX9_yearsBetween_17 : decode cX9_yearsBetween 17 = .ok (.iadd, 1) := by decide +kernel
theorem dX9_yearsBetween_18 : decode cX9_yearsBetween 18 = .ok (.iaload, 1) := by decide +kernel
theorem dX9_yearsBetween_19 : decode cX9_yearsBetween 19 = .ok (.aload_n 0, 1) := by decide +kernel
theorem dX9_yearsBetween_20 : decode cX9_yearsBetween 20 = .ok (.getfield 181, 3) := by decide +kernel
theorem dX9_yearsBetween_23 : decode cX9_yearsBetween 23 = .ok (.getfield 185, 3) := by decide +kernel
theorem dX9_yearsBetween_26 : decode cX9_yearsBetween 26 = .ok (.iload_n 3, 1) := by decide +kernel
theorem dX9_yearsBetween_27 : decode cX9_yearsBetween 27 = .ok (.iaload, 1) := by decide +kernel
theorem dX9_yearsBetween_28 : decode cX9_yearsBetween 28 = .ok (.isub, 1) := by decide +kernel
theorem dX9_yearsBetween_29 : decode cX9_yearsBetween 29 = .ok (.ireturn, 1) := by decide +kernel
theorem dX9_unsettle_0 : decode cX9_unsettle 0 = .ok (.aload_n 0, 1) := by decide +kernel
theorem dX9_unsettle_1 : decode cX9_unsettle 1 = .ok (.iconst 0, 1) := by decide +kernel
theorem dX9_unsettle_2 : decode cX9_unsettle 2 = .ok (.putfield 339, 3) := by decide +kernel
theorem dX9_unsettle_5 : decode cX9_unsettle 5 = .ok (.aload_n 0, 1) := by decide +kernel
theorem dX9_unsettle_6 : decode cX9_unsettle 6 = .ok (.iconst 0, 1) := by decide +kernel
theorem dX9_unsettle_7 : decode cX9_unsettle 7 = .ok (.putfield 342, 3) := by decide +kernel
theorem dX9_unsettle_10 : decode cX9_unsettle 10 = .ok (.return_, 1) := by decide +kernel
theorem dX9_settle_0 : decode cX9_settle 0 = .ok (.aload_n 0, 1) := by decide +kernel
theorem dX9_settle_1 : decode cX9_settle 1 = .ok (.getfield 339, 3) := by decide +kernel
theorem dX9_settle_4 : decode cX9_settle 4 = .ok (.ifCond .ne 37, 3) := by decide +kernel
theorem dX9_settle_7 : decode cX9_settle 7 = .ok (.aload_n 0, 1) := by decide +kernel
theorem dX9_settle_8 : decode cX9_settle 8 = .ok (.getfield 43, 3) := by decide +kernel
theorem dX9_settle_11 : decode cX9_settle 11 = .ok (.aload_n 0, 1) := by decide +kernel
theorem dX9_settle_12 : decode cX9_settle 12 = .ok (.getfield 14, 3) := by decide +kernel
theorem dX9_settle_15 : decode cX9_settle 15 = .ok (.aload_n 0, 1) := by decide +kernel
theorem dX9_settle_16 : decode cX9_settle 16 = .ok (.getfield 14, 3) := by decide +kernel
theorem dX9_settle_19 : decode cX9_settle 19 = .ok (.getfield 109, 3) := by decide +kernel
theorem dX9_settle_22 : decode cX9_settle 22 = .ok (.iconst (-1), 1) := by decide +kernel
theorem dX9_settle_23 : decode cX9_settle 23 = .ok (.ldc_w 345, 3) := by decide +kernel
theorem dX9_settle_26 : decode cX9_settle 26 = .ok (.invokevirtual 346, 3) := by decide +kernel
theorem dX9_settle_29 : decode cX9_settle 29 = .ok (.aload_n 0, 1) := by decide +kernel
theorem dX9_settle_30 : decode cX9_settle 30 = .ok (.getfield 43, 3) := by decide +kernel
theorem dX9_settle_33 : decode cX9_settle 33 = .ok (.invokevirtual 350, 3) := by decide +kernel
theorem dX9_settle_36 : decode cX9_settle 36 = .ok (.aload_n 0, 1) := by decide +kernel
theorem dX9_settle_37 : decode cX9_settle 37 = .ok (.iconst 1, 1) := by decide +kernel
theorem dX9_settle_38 : decode cX9_settle 38 = .ok (.putfield 339, 3) := by decide +kernel
theorem dX9_settle_41 : decode cX9_settle 41 = .ok (.return_, 1) := by decide +kernel
theorem dX9_settleCulprits_0 : decode cX9_settleCulprits 0 = .ok (.aload_n 0, 1) := by decide +kernel
theorem dX9_settleCulprits_1 : decode cX9_settleCulprits 1 = .ok (.getfield 342, 3) := by decide +kernel
theorem dX9_settleCulprits_4 : decode cX9_settleCulprits 4 = .ok (.ifCond .eq 4, 3) := by decide +kernel
theorem dX9_settleCulprits_7 : decode cX9_settleCulprits 7 = .ok (.return_, 1) := by decide +kernel
theorem dX9_settleCulprits_8 : decode cX9_settleCulprits 8 = .ok (.aload_n 0, 1) := by decide +kernel
theorem dX9_settleCulprits_9 : decode cX9_settleCulprits 9 = .ok (.iconst 0, 1) := by decide +kernel
theorem dX9_settleCulprits_10 : decode cX9_settleCulprits 10 = .ok (.putfield 217, 3) := by decide +kernel
theorem dX9_settleCulprits_13 : decode cX9_settleCulprits 13 = .ok (.iconst 0, 1) := by decide +kernel
theorem dX9_settleCulprits_14 : decode cX9_settleCulprits 14 = .ok (.istore_n 1, 1) := by decide +kernel
theorem dX9_settleCulprits_15 : decode cX9_settleCulprits 15 = .ok (.iload_n 1, 1) := by decide +kernel
theorem dX9_settleCulprits_16 : decode cX9_settleCulprits 16 = .ok (.aload_n 0, 1) := by decide +kernel
theorem dX9_settleCulprits_17 : decode cX9_settleCulprits 17 = .ok (.getfield 43, 3) := by decide +kernel
theorem dX9_settleCulprits_20 : decode cX9_settleCulprits 20 = .ok (.getfield 306, 3) := by decide +kernel
theorem dX9_settleCulprits_23 : decode cX9_settleCulprits 23 = .ok (.if_icmp .ge 85, 3) := by decide +kernel
theorem dX9_settleCulprits_26 : decode cX9_settleCulprits 26 = .ok (.aload_n 0, 1) := by decide +kernel
theorem dX9_settleCulprits_27 : decode cX9_settleCulprits 27 = .ok (.getfield 47, 3) := by decide +kernel
theorem dX9_settleCulprits_30 : decode cX9_settleCulprits 30 = .ok (.aload_n 0, 1) := by decide +kernel
theorem dX9_settleCulprits_31 : decode cX9_settleCulprits 31 = .ok (.getfield 14, 3) := by decide +kernel
theorem dX9_settleCulprits_34 : decode cX9_settleCulprits 34 = .ok (.aload_n 0, 1) := by decide +kernel
theorem dX9_settleCulprits_35 : decode cX9_settleCulprits 35 = .ok (.getfield 14, 3) := by decide +kernel
theorem dX9_settleCulprits_38 : decode cX9_settleCulprits 38 = .ok (.getfield 109, 3) := by decide +kernel
theorem dX9_settleCulprits_41 : decode cX9_settleCulprits 41 = .ok (.aload_n 0, 1) := by decide +kernel
theorem dX9_settleCulprits_42 : decode cX9_settleCulprits 42 = .ok (.getfield 43, 3) := by decide +kernel
theorem dX9_settleCulprits_45 : decode cX9_settleCulprits 45 = .ok (.getfield 353, 3) := by decide +kernel
theorem dX9_settleCulprits_48 : decode cX9_settleCulprits 48 = .ok (.iload_n 1, 1) := by decide +kernel
theorem dX9_settleCulprits_49 : decode cX9_settleCulprits 49 = .ok (.iaload, 1) := by decide +kernel
theorem dX9_settleCulprits_50 : decode cX9_settleCulprits 50 = .ok (.bipush 125, 2) := by decide +kernel
theorem dX9_settleCulprits_52 : decode cX9_settleCulprits 52 = .ok (.invokevirtual 346, 3) := by decide +kernel
theorem dX9_settleCulprits_55 : decode cX9_settleCulprits 55 = .ok (.aload_n 0, 1) := by decide +kernel
theorem dX9_settleCulprits_56 : decode cX9_settleCulprits 56 = .ok (.getfield 47, 3) := by decide +kernel
theorem dX9_settleCulprits_59 : decode cX9_settleCulprits 59 = .ok (.getfield 205, 3) := by decide +kernel
theorem dX9_settleCulprits_62 : decode cX9_settleCulprits 62 = .ok (.ifCond .ne 40, 3) := by decide +kernel
theorem dX9_settleCulprits_65 : decode cX9_settleCulprits 65 = .ok (.aload_n 0, 1) := by decide +kernel
theorem dX9_settleCulprits_66 : decode cX9_settleCulprits 66 = .ok (.getfield 217, 3) := by decide +kernel
theorem dX9_settleCulprits_69 : decode cX9_settleCulprits 69 = .ok (.bipush 60, 2) := by decide +kernel
theorem dX9_settleCulprits_71 : decode cX9_settleCulprits 71 = .ok (.if_icmp .ge 31, 3) := by decide +kernel
theorem dX9_settleCulprits_74 : decode cX9_settleCulprits 74 = .ok (.aload_n 0, 1) := by decide +kernel
theorem dX9_settleCulprits_75 : decode cX9_settleCulprits 75 = .ok (.getfield 50, 3) := by decide +kernel
theorem dX9_settleCulprits_78 : decode cX9_settleCulprits 78 = .ok (.aload_n 0, 1) := by decide +kernel
theorem dX9_settleCulprits_79 : decode cX9_settleCulprits 79 = .ok (.getfield 217, 3) := by decide +kernel
theorem dX9_settleCulprits_82 : decode cX9_settleCulprits 82 = .ok (.aload_n 0, 1) := by decide +kernel
theorem dX9_settleCulprits_83 : decode cX9_settleCulprits 83 = .ok (.getfield 43, 3) := by decide +kernel
theorem dX9_settleCulprits_86 : decode cX9_settleCulprits 86 = .ok (.getfield 353, 3) := by decide +kernel
theorem dX9_settleCulprits_89 : decode cX9_settleCulprits 89 = .ok (.iload_n 1, 1) := by decide +kernel
theorem dX9_settleCulprits_90 : decode cX9_settleCulprits 90 = .ok (.iaload, 1) := by decide +kernel
theorem dX9_settleCulprits_91 : decode cX9_settleCulprits 91 = .ok (.iastore, 1) := by decide +kernel
theorem dX9_settleCulprits_92 : decode cX9_settleCulprits 92 = .ok (.aload_n 0, 1) := by decide +kernel
theorem dX9_settleCulprits_93 : decode cX9_settleCulprits 93 = .ok (.dup, 1) := by decide +kernel
theorem dX9_settleCulprits_94 : decode cX9_settleCulprits 94 = .ok (.getfield 217, 3) := by decide +kernel
theorem dX9_settleCulprits_97 : decode cX9_settleCulprits 97 = .ok (.iconst 1, 1) := by decide +kernel
theorem dX9_settleCulprits_98 : decode cX9_settleCulprits 98 = .ok (.iadd, 1) := by decide +kernel
theorem dX9_settleCulprits_99 : decode cX9_settleCulprits 99 = .ok (.putfield 217, 3) := by decide +kernel
theorem dX9_settleCulprits_102 : decode cX9_settleCulprits 102 = .ok (.iinc 1 1, 3) := by decide +kernel
theorem dX9_settleCulprits_105 : decode cX9_settleCulprits 105 = .ok (.goto (-90), 3) := by decide +kernel
theorem dX9_settleCulprits_108 : decode cX9_settleCulprits 108 = .ok (.aload_n 0, 1) := by decide +kernel
theorem dX9_settleCulprits_109 : decode cX9_settleCulprits 109 = .ok (.iconst 1, 1) := by decide +kernel
theorem dX9_settleCulprits_110 : decode cX9_settleCulprits 110 = .ok (.putfield 342, 3) := by decide +kernel
theorem dX9_settleCulprits_113 : decode cX9_settleCulprits 113 = .ok (.return_, 1) := by decide +kernel
theorem dX9_workOneMore_0 : decode cX9_workOneMore 0 = .ok (.aload_n 0, 1) := by decide +kernel
theorem dX9_workOneMore_1 : decode cX9_workOneMore 1 = .ok (.getfield 14, 3) := by decide +kernel
theorem dX9_workOneMore_4 : decode cX9_workOneMore 4 = .ok (.aload_n 0, 1) := by decide +kernel
theorem dX9_workOneMore_5 : decode cX9_workOneMore 5 = .ok (.getfield 14, 3) := by decide +kernel
theorem dX9_workOneMore_8 : decode cX9_workOneMore 8 = .ok (.getfield 109, 3) := by decide +kernel
theorem dX9_workOneMore_11 : decode cX9_workOneMore 11 = .ok (.aload_n 0, 1) := by decide +kernel
theorem dX9_workOneMore_12 : decode cX9_workOneMore 12 = .ok (.getfield 36, 3) := by decide +kernel
theorem dX9_workOneMore_15 : decode cX9_workOneMore 15 = .ok (.iconst 1, 1) := by decide +kernel
theorem dX9_workOneMore_16 : decode cX9_workOneMore 16 = .ok (.invokevirtual 119, 3) := by decide +kernel
theorem dX9_workOneMore_19 : decode cX9_workOneMore 19 = .ok (.aload_n 0, 1) := by decide +kernel
theorem dX9_workOneMore_20 : decode cX9_workOneMore 20 = .ok (.getfield 47, 3) := by decide +kernel
theorem dX9_workOneMore_23 : decode cX9_workOneMore 23 = .ok (.aload_n 0, 1) := by decide +kernel
theorem dX9_workOneMore_24 : decode cX9_workOneMore 24 = .ok (.getfield 14, 3) := by decide +kernel
theorem dX9_workOneMore_27 : decode cX9_workOneMore 27 = .ok (.aload_n 0, 1) := by decide +kernel
theorem dX9_workOneMore_28 : decode cX9_workOneMore 28 = .ok (.getfield 14, 3) := by decide +kernel
theorem dX9_workOneMore_31 : decode cX9_workOneMore 31 = .ok (.getfield 109, 3) := by decide +kernel
theorem dX9_workOneMore_34 : decode cX9_workOneMore 34 = .ok (.iconst 1, 1) := by decide +kernel
theorem dX9_workOneMore_35 : decode cX9_workOneMore 35 = .ok (.iadd, 1) := by decide +kernel
theorem dX9_workOneMore_36 : decode cX9_workOneMore 36 = .ok (.iconst (-1), 1) := by decide +kernel
theorem dX9_workOneMore_37 : decode cX9_workOneMore 37 = .ok (.bipush 125, 2) := by decide +kernel
theorem dX9_workOneMore_39 : decode cX9_workOneMore 39 = .ok (.invokevirtual 346, 3) := by decide +kernel
theorem dX9_workOneMore_42 : decode cX9_workOneMore 42 = .ok (.return_, 1) := by decide +kernel
theorem dX9_seekWays_0 : decode cX9_seekWays 0 = .ok (.aload_n 0, 1) := by decide +kernel
theorem dX9_seekWays_1 : decode cX9_seekWays 1 = .ok (.getfield 57, 3) := by decide +kernel
theorem dX9_seekWays_4 : decode cX9_seekWays 4 = .ok (.aload_n 0, 1) := by decide +kernel
theorem dX9_seekWays_5 : decode cX9_seekWays 5 = .ok (.getfield 43, 3) := by decide +kernel
theorem dX9_seekWays_8 : decode cX9_seekWays 8 = .ok (.getfield 164, 3) := by decide +kernel
theorem dX9_seekWays_11 : decode cX9_seekWays 11 = .ok (.aload_n 0, 1) := by decide +kernel
theorem dX9_seekWays_12 : decode cX9_seekWays 12 = .ok (.getfield 43, 3) := by decide +kernel
theorem dX9_seekWays_15 : decode cX9_seekWays 15 = .ok (.getfield 164, 3) := by decide +kernel
theorem dX9_seekWays_18 : decode cX9_seekWays 18 = .ok (.getfield 168, 3) := by decide +kernel
theorem dX9_seekWays_21 : decode cX9_seekWays 21 = .ok (.iload_n 1, 1) := by decide +kernel
theorem dX9_seekWays_22 : decode cX9_seekWays 22 = .ok (.iaload, 1) := by decide +kernel
theorem dX9_seekWays_23 : decode cX9_seekWays 23 = .ok (.aload_n 0, 1) := by decide +kernel
theorem dX9_seekWays_24 : decode cX9_seekWays 24 = .ok (.getfield 43, 3) := by decide +kernel
theorem dX9_seekWays_27 : decode cX9_seekWays 27 = .ok (.getfield 164, 3) := by decide +kernel
theorem dX9_seekWays_30 : decode cX9_seekWays 30 = .ok (.getfield 168, 3) := by decide +kernel
theorem dX9_seekWays_33 : decode cX9_seekWays 33 = .ok (.iload_n 2, 1) := by decide +kernel
theorem dX9_seekWays_34 : decode cX9_seekWays 34 = .ok (.iaload, 1) := by decide +kernel
theorem dX9_seekWays_35 : decode cX9_seekWays 35 = .ok (.invokevirtual 356, 3) := by decide +kernel
theorem dX9_seekWays_38 : decode cX9_seekWays 38 = .ok (.return_, 1) := by decide +kernel
theorem dX10_init_0 : decode cX10_init 0 = .ok (.aload_n 0, 1) := by decide +kernel
theorem dX10_init_1 : decode cX10_init 1 = .ok (.invokespecial 5, 3) := by decide +kernel
theorem dX10_init_4 : decode cX10_init 4 = .ok (.aload_n 0, 1) := by decide +kernel
theorem dX10_init_5 : decode cX10_init 5 = .ok (.sipush 608, 3) := by decide +kernel
theorem dX10_init_8 : decode cX10_init 8 = .ok (.newarray .int, 2) := by decide +kernel
theorem dX10_init_10 : decode cX10_init 10 = .ok (.putfield 11, 3) := by decide +kernel
theorem dX10_init_13 : decode cX10_init 13 = .ok (.aload_n 0, 1) := by decide +kernel
theorem dX10_init_14 : decode cX10_init 14 = .ok (.sipush 608, 3) := by decide +kernel
theorem dX10_init_17 : decode cX10_init 17 = .ok (.newarray .int, 2) := by decide +kernel
theorem dX10_init_19 : decode cX10_init 19 = .ok (.putfield 15, 3) := by decide +kernel
theorem dX10_init_22 : decode cX10_init 22 = .ok (.aload_n 0, 1) := by decide +kernel
theorem dX10_init_23 : decode cX10_init 23 = .ok (.bipush 60, 2) := by decide +kernel
theorem dX10_init_25 : decode cX10_init 25 = .ok (.newarray .int, 2) := by decide +kernel
theorem dX10_init_27 : decode cX10_init 27 = .ok (.putfield 18, 3) := by decide +kernel
theorem dX10_init_30 : decode cX10_init 30 = .ok (.aload_n 0, 1) := by decide +kernel
theorem dX10_init_31 : decode cX10_init 31 = .ok (.sipush 640, 3) := by decide +kernel
theorem dX10_init_34 : decode cX10_init 34 = .ok (.newarray .int, 2) := by decide +kernel
theorem dX10_init_36 : decode cX10_init 36 = .ok (.putfield 21, 3) := by decide +kernel
theorem dX10_init_39 : decode cX10_init 39 = .ok (.aload_n 0, 1) := by decide +kernel
theorem dX10_init_40 : decode cX10_init 40 = .ok (.bipush 6, 2) := by decide +kernel
theorem dX10_init_42 : decode cX10_init 42 = .ok (.newarray .int, 2) := by decide +kernel
theorem dX10_init_44 : decode cX10_init 44 = .ok (.putfield 24, 3) := by decide +kernel
theorem dX10_init_47 : decode cX10_init 47 = .ok (.aload_n 0, 1) := by decide +kernel
theorem dX10_init_48 : decode cX10_init 48 = .ok (.bipush 30, 2) := by decide +kernel
theorem dX10_init_50 : decode cX10_init 50 = .ok (.newarray .int, 2) := by decide +kernel
theorem dX10_init_52 : decode cX10_init 52 = .ok (.putfield 27, 3) := by decide +kernel
theorem dX10_init_55 : decode cX10_init 55 = .ok (.aload_n 0, 1) := by decide +kernel
theorem dX10_init_56 : decode cX10_init 56 = .ok (.bipush 30, 2) := by decide +kernel
theorem dX10_init_58 : decode cX10_init 58 = .ok (.newarray .int, 2) := by decide +kernel
theorem dX10_init_60 : decode cX10_init 60 = .ok (.putfield 30, 3) := by decide +kernel
theorem dX10_init_63 : decode cX10_init 63 = .ok (.aload_n 0, 1) := by decide +kernel
theorem dX10_init_64 : decode cX10_init 64 = .ok (.bipush 30, 2) := by decide +kernel
theorem dX10_init_66 : decode cX10_init 66 = .ok (.newarray .int, 2) := by decide +kernel
theorem dX10_init_68 : decode cX10_init 68 = .ok (.putfield 33, 3) := by decide +kernel
theorem dX10_init_71 : decode cX10_init 71 = .ok (.aload_n 0, 1) := by decide +kernel
theorem dX10_init_72 : decode cX10_init 72 = .ok (.bipush 30, 2) := by decide +kernel
theorem dX10_init_74 : decode cX10_init 74 = .ok (.newarray .int, 2) := by decide +kernel
theorem dX10_init_76 : decode cX10_init 76 = .ok (.putfield 36, 3) := by decide +kernel
theorem dX10_init_79 : decode cX10_init 79 = .ok (.aload_n 0, 1) := by decide +kernel
theorem dX10_init_80 : decode cX10_init 80 = .ok (.sipush 240, 3) := by decide +kernel
theorem dX10_init_83 : decode cX10_init 83 = .ok (.newarray .int, 2) := by decide +kernel
theorem dX10_init_85 : decode cX10_init 85 = .ok (.putfield 39, 3) := by decide +kernel
theorem dX10_init_88 : decode cX10_init 88 = .ok (.aload_n 0, 1) := by decide +kernel
theorem dX10_init_89 : decode cX10_init 89 = .ok (.sipush 240, 3) := by decide +kernel
theorem dX10_init_92 : decode cX10_init 92 = .ok (.newarray .int, 2) := by decide +kernel
theorem dX10_init_94 : decode cX10_init 94 = .ok (.putfield 42, 3) := by decide +kernel
theorem dX10_init_97 : decode cX10_init 97 = .ok (.aload_n 0, 1) := by decide +kernel
theorem dX10_init_98 : decode cX10_init 98 = .ok (.sipush 240, 3) := by decide +kernel
theorem dX10_init_101 : decode cX10_init 101 = .ok (.newarray .int, 2) := by decide +kernel
theorem dX10_init_103 : decode cX10_init 103 = .ok (.putfield 45, 3) := by decide +kernel
theorem dX10_init_106 : decode cX10_init 106 = .ok (.aload_n 0, 1) := by decide +kernel
theorem dX10_init_107 : decode cX10_init 107 = .ok (.bipush 30, 2) := by decide +kernel
theorem dX10_init_109 : decode cX10_init 109 = .ok (.newarray .int, 2) := by decide +kernel
theorem dX10_init_111 : decode cX10_init 111 = .ok (.putfield 48, 3) := by decide +kernel
theorem dX10_init_114 : decode cX10_init 114 = .ok (.aload_n 0, 1) := by decide +kernel
theorem dX10_init_115 : decode cX10_init 115 = .ok (.bipush 30, 2) := by decide +kernel
theorem dX10_init_117 : decode cX10_init 117 = .ok (.newarray .int, 2) := by decide +kernel
theorem dX10_init_119 : decode cX10_init 119 = .ok (.putfield 51, 3) := by decide +kernel
theorem dX10_init_122 : decode cX10_init 122 = .ok (.aload_n 0, 1) := by decide +kernel
theorem dX10_init_123 : decode cX10_init 123 = .ok (.bipush 60, 2) := by decide +kernel
theorem dX10_init_125 : decode cX10_init 125 = .ok (.newarray .int, 2) := by decide +kernel
theorem dX10_init_127 : decode cX10_init 127 = .ok (.putfield 54, 3) := by decide +kernel
theorem dX10_init_130 : decode cX10_init 130 = .ok (.aload_n 0, 1) := by decide +kernel
theorem dX10_init_131 : decode cX10_init 131 = .ok (.bipush 30, 2) := by decide +kernel
theorem dX10_init_133 : decode cX10_init 133 = .ok (.newarray .int, 2) := by decide +kernel
theorem dX10_init_135 : decode cX10_init 135 = .ok (.putfield 57, 3) := by decide +kernel
theorem dX10_init_138 : decode cX10_init 138 = .ok (.aload_n 0, 1) := by decide +kernel
theorem dX10_init_139 : decode cX10_init 139 = .ok (.bipush 30, 2) := by decide +kernel
theorem dX10_init_141 : decode cX10_init 141 = .ok (.newarray .int, 2) := by decide +kernel
theorem dX10_init_143 : decode cX10_init 143 = .ok (.putfield 60, 3) := by decide +kernel
theorem dX10_init_146 : decode cX10_init 146 = .ok (.aload_n 0, 1) := by decide +kernel
theorem dX10_init_147 : decode cX10_init 147 = .ok (.iconst 4, 1) := by decide +kernel
theorem dX10_init_148 : decode cX10_init 148 = .ok (.newarray .int, 2) := by decide +kernel
theorem dX10_init_150 : decode cX10_init 150 = .ok (.putfield 63, 3) := by decide +kernel
theorem dX10_init_153 : decode cX10_init 153 = .ok (.aload_n 0, 1) := by decide +kernel
theorem dX10_init_154 : decode cX10_init 154 = .ok (.sipush 160, 3) := by decide +kernel
theorem dX10_init_157 : decode cX10_init 157 = .ok (.newarray .int, 2) := by decide +kernel
theorem dX10_init_159 : decode cX10_init 159 = .ok (.putfield 66, 3) := by decide +kernel
theorem dX10_init_162 : decode cX10_init 162 = .ok (.iconst 0, 1) := by decide +kernel
theorem dX10_init_163 : decode cX10_init 163 = .ok (.istore_n 1, 1) := by decide +kernel
theorem dX10_init_164 : decode cX10_init 164 = .ok (.iload_n 1, 1) := by decide +kernel
theorem dX10_init_165 : decode cX10_init 165 = .ok (.iconst 4, 1) := by decide +kernel
theorem dX10_init_166 : decode cX10_init 166 = .ok (.if_icmp .ge 16, 3) := by decide +kernel
theorem dX10_init_169 : decode cX10_init 169 = .ok (.aload_n 0, 1) := by decide +kernel
theorem dX10_init_170 : decode cX10_init 170 = .ok (.getfield 63, 3) := by decide +kernel
theorem dX10_init_173 : decode cX10_init 173 = .ok (.iload_n 1, 1) := by decide +kernel
theorem dX10_init_174 : decode cX10_init 174 = .ok (.iconst (-1), 1) := by decide +kernel
theorem dX10_init_175 : decode cX10_init 175 = .ok (.iastore, 1) := by decide +kernel
theorem dX10_init_176 : decode cX10_init 176 = .ok (.iinc 1 1, 3) := by decide +kernel
theorem dX10_init_179 : decode cX10_init 179 = .ok (.goto (-15), 3) := by decide +kernel
theorem dX10_init_182 : decode cX10_init 182 = .ok (.aload_n 0, 1) := by decide +kernel
theorem dX10_init_183 : decode cX10_init 183 = .ok (.invokevirtual 69, 3) := by decide +kernel
theorem dX10_init_186 : decode cX10_init 186 = .ok (.return_, 1) := by decide +kernel
theorem dX10_isIn_0 : decode cX10_isIn 0 = .ok (.iload_n 0, 1) := by decide +kernel
theorem dX10_isIn_1 : decode cX10_isIn 1 = .ok (.iload_n 1, 1) := by decide +kernel
theorem dX10_isIn_2 : decode cX10_isIn 2 = .ok (.if_icmp .lt 12, 3) := by decide +kernel
theorem dX10_isIn_5 : decode cX10_isIn 5 = .ok (.iload_n 0, 1) := by decide +kernel
theorem dX10_isIn_6 : decode cX10_isIn 6 = .ok (.iload_n 2, 1) := by decide +kernel
theorem dX10_isIn_7 : decode cX10_isIn 7 = .ok (.if_icmp .gt 7, 3) := by decide +kernel
theorem dX10_isIn_10 : decode cX10_isIn 10 = .ok (.iconst 1, 1) := by decide +kernel
theorem dX10_isIn_11 : decode cX10_isIn 11 = .ok (.goto 4, 3) := by decide +kernel
theorem dX10_isIn_14 : decode cX10_isIn 14 = .ok (.iconst 0, 1) := by decide +kernel
theorem dX10_isIn_15 : decode cX10_isIn 15 = .ok (.ireturn, 1) := by decide +kernel
theorem dX10_isPerson_0 : decode cX10_isPerson 0 = .ok (.iload_n 1, 1) := by decide +kernel
theorem dX10_isPerson_1 : decode cX10_isPerson 1 = .ok (.iconst 0, 1) := by decide +kernel
theorem dX10_isPerson_2 : decode cX10_isPerson 2 = .ok (.aload_n 0, 1) := by decide +kernel
theorem dX10_isPerson_3 : decode cX10_isPerson 3 = .ok (.getfield 11, 3) := by decide +kernel
theorem dX10_isPerson_6 : decode cX10_isPerson 6 = .ok (.iconst 0, 1) := by decide +kernel
theorem dX10_isPerson_7 : decode cX10_isPerson 7 = .ok (.iaload, 1) := by decide +kernel
theorem dX10_isPerson_8 : decode cX10_isPerson 8 = .ok (.iconst 1, 1) := by decide +kernel
theorem dX10_isPerson_9 : decode cX10_isPerson 9 = .ok (.isub, 1) := by decide +kernel
theorem dX10_isPerson_10 : decode cX10_isPerson 10 = .ok (.invokestatic 72, 3) := by decide +kernel
theorem dX10_isPerson_13 : decode cX10_isPerson 13 = .ok (.ireturn, 1) := by decide +kernel
theorem dX10_isStatement_0 : decode cX10_isStatement 0 = .ok (.iload_n 1, 1) := by decide +kernel
theorem dX10_isStatement_1 : decode cX10_isStatement 1 = .ok (.iconst 0, 1) := by decide +kernel
theorem dX10_isStatement_2 : decode cX10_isStatement 2 = .ok (.aload_n 0, 1) := by decide +kernel
theorem dX10_isStatement_3 : decode cX10_isStatement 3 = .ok (.getfield 11, 3) := by decide +kernel
theorem dX10_isStatement_6 : decode cX10_isStatement 6 = .ok (.iconst 1, 1) := by decide +kernel
theorem dX10_isStatement_7 : decode cX10_isStatement 7 = .ok (.iaload, 1) := by decide +kernel
theorem dX10_isStatement_8 : decode cX10_isStatement 8 = .ok (.iconst 1, 1) := by decide +kernel
theorem dX10_isStatement_9 : decode cX10_isStatement 9 = .ok (.isub, 1) := by decide +kernel
theorem dX10_isStatement_10 : decode cX10_isStatement 10 = .ok (.invokestatic 72, 3) := by decide +kernel
theorem dX10_isStatement_13 : decode cX10_isStatement 13 = .ok (.ireturn, 1) := by decide +kernel
theorem dX10_told_0 : decode cX10_told 0 = .ok (.aload_n 0, 1) := by decide +kernel
theorem dX10_told_1 : decode cX10_told 1 = .ok (.getfield 11, 3) := by decide +kernel
theorem dX10_told_4 : decode cX10_told 4 = .ok (.sipush 242, 3) := by decide +kernel
theorem dX10_told_7 : decode cX10_told 7 = .ok (.bipush 6, 2) := by decide +kernel
theorem dX10_told_9 : decode cX10_told 9 = .ok (.iload_n 1, 1) := by decide +kernel
theorem dX10_told_10 : decode cX10_told 10 = .ok (.imul, 1) := by decide +kernel
theorem dX10_told_11 : decode cX10_told 11 = .ok (.iadd, 1) := by decide +kernel
theorem dX10_told_12 : decode cX10_told 12 = .ok (.iload_n 2, 1) := by decide +kernel
theorem dX10_told_13 : decode cX10_told 13 = .ok (.iadd, 1) := by decide +kernel
theorem dX10_told_14 : decode cX10_told 14 = .ok (.iaload, 1) := by decide +kernel
theorem dX10_told_15 : decode cX10_told 15 = .ok (.ireturn, 1) := by decide +kernel
theorem dX10_isLive_0 : decode cX10_isLive 0 = .ok (.aload_n 0, 1) := by decide +kernel
theorem dX10_isLive_1 : decode cX10_isLive 1 = .ok (.iload_n 1, 1) := by decide +kernel
theorem dX10_isLive_2 : decode cX10_isLive 2 = .ok (.iconst 5, 1) := by decide +kernel
theorem dX10_isLive_3 : decode cX10_isLive 3 = .ok (.invokevirtual 76, 3) := by decide +kernel
theorem dX10_isLive_6 : decode cX10_isLive 6 = .ok (.iconst 1, 1) := by decide +kernel
theorem dX10_isLive_7 : decode cX10_isLive 7 = .ok (.if_icmp .ne 17, 3) := by decide +kernel
theorem dX10_isLive_10 : decode cX10_isLive 10 = .ok (.aload_n 0, 1) := by decide +kernel
theorem dX10_isLive_11 : decode cX10_isLive 11 = .ok (.iload_n 1, 1) := by decide +kernel
theorem dX10_isLive_12 : decode cX10_isLive 12 = .ok (.iconst 0, 1) := by decide +kernel
theorem dX10_isLive_13 : decode cX10_isLive 13 = .ok (.invokevirtual 76, 3) := by decide +kernel
theorem dX10_isLive_16 : decode cX10_isLive 16 = .ok (.iload_n 2, 1) := by decide +kernel
theorem dX10_isLive_17 : decode cX10_isLive 17 = .ok (.if_icmp .ne 7, 3) := by decide +kernel
theorem dX10_isLive_20 : decode cX10_isLive 20 = .ok (.iconst 1, 1) := by decide +kernel
theorem dX10_isLive_21 : decode cX10_isLive 21 = .ok (.goto 4, 3) := by decide +kernel
theorem dX10_isLive_24 : decode cX10_isLive 24 = .ok (.iconst 0, 1) := by decide +kernel
theorem dX10_isLive_25 : decode cX10_isLive 25 = .ok (.ireturn, 1) := by decide +kernel
theorem dX10_sexOf_0 : decode cX10_sexOf 0 = .ok (.aload_n 0, 1) := by decide +kernel
theorem dX10_sexOf_1 : decode cX10_sexOf 1 = .ok (.getfield 11, 3) := by decide +kernel
theorem dX10_sexOf_4 : decode cX10_sexOf 4 = .ok (.iconst 2, 1) := by decide +kernel
theorem dX10_sexOf_5 : decode cX10_sexOf 5 = .ok (.bipush 8, 2) := by decide +kernel
theorem dX10_sexOf_7 : decode cX10_sexOf 7 = .ok (.iload_n 1, 1) := by decide +kernel
theorem dX10_sexOf_8 : decode cX10_sexOf 8 = .ok (.imul, 1) := by decide +kernel
theorem dX10_sexOf_9 : decode cX10_sexOf 9 = .ok (.iadd, 1) := by decide +kernel
theorem dX10_sexOf_10 : decode cX10_sexOf 10 = .ok (.bipush 7, 2) := by decide +kernel
theorem dX10_sexOf_12 : decode cX10_sexOf 12 = .ok (.iadd, 1) := by decide +kernel
theorem dX10_sexOf_13 : decode cX10_sexOf 13 = .ok (.iaload, 1) := by decide +kernel
theorem dX10_sexOf_14 : decode cX10_sexOf 14 = .ok (.ireturn, 1) := by decide +kernel
theorem dX10_letterOf_0 : decode cX10_letterOf 0 = .ok (.aload_n 0, 1) := by decide +kernel
theorem dX10_letterOf_1 : decode cX10_letterOf 1 = .ok (.getfield 11, 3) := by decide +kernel
theorem dX10_letterOf_4 : decode cX10_letterOf 4 = .ok (.iconst 2, 1) := by decide +kernel
theorem dX10_letterOf_5 : decode cX10_letterOf 5 = .ok (.bipush 8, 2) := by decide +kernel
theorem dX10_letterOf_7 : decode cX10_letterOf 7 = .ok (.iload_n 1, 1) := by decide +kernel
theorem dX10_letterOf_8 : decode cX10_letterOf 8 = .ok (.imul, 1) := by decide +kernel
theorem dX10_letterOf_9 : decode cX10_letterOf 9 = .ok (.iadd, 1) := by decide +kernel
theorem dX10_letterOf_10 : decode cX10_letterOf 10 = .ok (.iload_n 2, 1) := by decide +kernel
theorem dX10_letterOf_11 : decode cX10_letterOf 11 = .ok (.iadd, 1) := by decide +kernel
theorem dX10_letterOf_12 : decode cX10_letterOf 12 = .ok (.iaload, 1) := by decide +kernel
theorem dX10_letterOf_13 : decode cX10_letterOf 13 = .ok (.ireturn, 1) := by decide +kernel
theorem dX10_has_0 : decode cX10_has 0 = .ok (.iload_n 0, 1) := by decide +kernel
theorem dX10_has_1 : decode cX10_has 1 = .ok (.iload_n 1, 1) := by decide +kernel
theorem dX10_has_2 : decode cX10_has 2 = .ok (.ishr, 1) := by decide +kernel
theorem dX10_has_3 : decode cX10_has 3 = .ok (.iconst 1, 1) := by decide +kernel
theorem dX10_has_4 : decode cX10_has 4 = .ok (.iand, 1) := by decide +kernel
theorem dX10_has_5 : decode cX10_has 5 = .ok (.iconst 1, 1) := by decide +kernel
theorem dX10_has_6 : decode cX10_has 6 = .ok (.if_icmp .ne 7, 3) := by decide +kernel
theorem dX10_has_9 : decode cX10_has 9 = .ok (.iconst 1, 1) := by decide +kernel
theorem dX10_has_10 : decode cX10_has 10 = .ok (.goto 4, 3) := by decide +kernel
theorem dX10_has_13 : decode cX10_has 13 = .ok (.iconst 0, 1) := by decide +kernel
theorem dX10_has_14 : decode cX10_has 14 = .ok (.ireturn, 1) := by decide +kernel
theorem dX10_ones_0 : decode cX10_ones 0 = .ok (.iconst 0, 1) := by decide +kernel
theorem dX10_ones_1 : decode cX10_ones 1 = .ok (.istore_n 1, 1) := by decide +kernel
theorem dX10_ones_2 : decode cX10_ones 2 = .ok (.iconst 0, 1) := by decide +kernel
theorem dX10_ones_3 : decode cX10_ones 3 = .ok (.istore_n 2, 1) := by decide +kernel
theorem dX10_ones_4 : decode cX10_ones 4 = .ok (.iload_n 2, 1) := by decide +kernel
theorem dX10_ones_5 : decode cX10_ones 5 = .ok (.bipush 30, 2) := by decide +kernel
theorem dX10_ones_7 : decode cX10_ones 7 = .ok (.if_icmp .ge 17, 3) := by decide +kernel
theorem dX10_ones_10 : decode cX10_ones 10 = .ok (.iload_n 1, 1) := by decide +kernel
theorem dX10_ones_11 : decode cX10_ones 11 = .ok (.iload_n 0, 1) := by decide +kernel
theorem dX10_ones_12 : decode cX10_ones 12 = .ok (.iload_n 2, 1) := by decide +kernel
theorem dX10_ones_13 : decode cX10_ones 13 = .ok (.ishr, 1) := by decide +kernel
theorem dX10_ones_14 : decode cX10_ones 14 = .ok (.iconst 1, 1) := by decide +kernel
theorem dX10_ones_15 : decode cX10_ones 15 = .ok (.iand, 1) := by decide +kernel
theorem dX10_ones_16 : decode cX10_ones 16 = .ok (.iadd, 1) := by decide +kernel
theorem dX10_ones_17 : decode cX10_ones 17 = .ok (.istore_n 1, 1) := by decide +kernel
theorem dX10_ones_18 : decode cX10_ones 18 = .ok (.iinc 2 1, 3) := by decide +kernel
theorem dX10_ones_21 : decode cX10_ones 21 = .ok (.goto (-17), 3) := by decide +kernel
theorem dX10_ones_24 : decode cX10_ones 24 = .ok (.iload_n 1, 1) := by decide +kernel
theorem dX10_ones_25 : decode cX10_ones 25 = .ok (.ireturn, 1) := by decide +kernel
theorem dX10_joins_0 : decode cX10_joins 0 = .ok (.iconst 0, 1) := by decide +kernel
theorem dX10_joins_1 : decode cX10_joins 1 = .ok (.istore_n 1, 1) := by decide +kernel
theorem dX10_joins_2 : decode cX10_joins 2 = .ok (.iload_n 1, 1) := by decide +kernel
theorem dX10_joins_3 : decode cX10_joins 3 = .ok (.bipush 30, 2) := by decide +kernel
theorem dX10_joins_5 : decode cX10_joins 5 = .ok (.if_icmp .ge 16, 3) := by decide +kernel
theorem dX10_joins_8 : decode cX10_joins 8 = .ok (.aload_n 0, 1) := by decide +kernel
theorem dX10_joins_9 : decode cX10_joins 9 = .ok (.getfield 27, 3) := by decide +kernel
theorem dX10_joins_12 : decode cX10_joins 12 = .ok (.iload_n 1, 1) := by decide +kernel
theorem dX10_joins_13 : decode cX10_joins 13 = .ok (.iload_n 1, 1) := by decide +kernel
theorem dX10_joins_14 : decode cX10_joins 14 = .ok (.iastore, 1) := by decide +kernel
theorem dX10_joins_15 : decode cX10_joins 15 = .ok (.iinc 1 1, 3) := by decide +kernel
theorem dX10_joins_18 : decode cX10_joins 18 = .ok (.goto (-16), 3) := by decide +kernel
theorem dX10_joins_21 : decode cX10_joins 21 = .ok (.iconst 0, 1) := by decide +kernel
theorem dX10_joins_22 : decode cX10_joins 22 = .ok (.istore_n 1, 1) := by decide +kernel
theorem dX10_joins_23 : decode cX10_joins 23 = .ok (.iload_n 1, 1) := by decide +kernel
theorem dX10_joins_24 : decode cX10_joins 24 = .ok (.aload_n 0, 1) := by decide +kernel
theorem dX10_joins_25 : decode cX10_joins 25 = .ok (.getfield 11, 3) := by decide +kernel
theorem dX10_joins_28 : decode cX10_joins 28 = .ok (.iconst 1, 1) := by decide +kernel
theorem dX10_joins_29 : decode cX10_joins 29 = .ok (.iaload, 1) := by decide +kernel
theorem dX10_joins_30 : decode cX10_joins 30 = .ok (.if_icmp .ge 113, 3) := by decide +kernel
theorem dX10_joins_33 : decode cX10_joins 33 = .ok (.aload_n 0, 1) := by decide +kernel
theorem dX10_joins_34 : decode cX10_joins 34 = .ok (.iload_n 1, 1) := by decide +kernel
theorem dX10_joins_35 : decode cX10_joins 35 = .ok (.iconst 5, 1) := by decide +kernel
theorem dX10_joins_36 : decode cX10_joins 36 = .ok (.invokevirtual 80, 3) := by decide +kernel
theorem dX10_joins_39 : decode cX10_joins 39 = .ok (.ifCond .ne 6, 3) := by decide +kernel
theorem dX10_joins_42 : decode cX10_joins 42 = .ok (.goto 95, 3) := by decide +kernel
theorem dX10_joins_45 : decode cX10_joins 45 = .ok (.aload_n 0, 1) := by decide +kernel
theorem dX10_joins_46 : decode cX10_joins 46 = .ok (.getfield 27, 3) := by decide +kernel
theorem dX10_joins_49 : decode cX10_joins 49 = .ok (.aload_n 0, 1) := by decide +kernel
theorem dX10_joins_50 : decode cX10_joins 50 = .ok (.iload_n 1, 1) := by decide +kernel
theorem dX10_joins_51 : decode cX10_joins 51 = .ok (.iconst 1, 1) := by decide +kernel
theorem dX10_joins_52 : decode cX10_joins 52 = .ok (.invokevirtual 76, 3) := by decide +kernel
theorem dX10_joins_55 : decode cX10_joins 55 = .ok (.iaload, 1) := by decide +kernel
theorem dX10_joins_56 : decode cX10_joins 56 = .ok (.istore_n 2, 1) := by decide +kernel
theorem dX10_joins_57 : decode cX10_joins 57 = .ok (.aload_n 0, 1) := by decide +kernel
theorem dX10_joins_58 : decode cX10_joins 58 = .ok (.getfield 27, 3) := by decide +kernel
theorem dX10_joins_61 : decode cX10_joins 61 = .ok (.aload_n 0, 1) := by decide +kernel
theorem dX10_joins_62 : decode cX10_joins 62 = .ok (.iload_n 1, 1) := by decide +kernel
theorem dX10_joins_63 : decode cX10_joins 63 = .ok (.iconst 2, 1) := by decide +kernel
theorem dX10_joins_64 : decode cX10_joins 64 = .ok (.invokevirtual 76, 3) := by decide +kernel
theorem dX10_joins_67 : decode cX10_joins 67 = .ok (.iaload, 1) := by decide +kernel
theorem dX10_joins_68 : decode cX10_joins 68 = .ok (.istore_n 3, 1) := by decide +kernel
theorem dX10_joins_69 : decode cX10_joins 69 = .ok (.iload_n 2, 1) := by decide +kernel
theorem dX10_joins_70 : decode cX10_joins 70 = .ok (.iload_n 3, 1) := by decide +kernel
theorem dX10_joins_71 : decode cX10_joins 71 = .ok (.invokestatic 84, 3) := by decide +kernel
theorem dX10_joins_74 : decode cX10_joins 74 = .ok (.istore 4, 2) := by decide +kernel
theorem dX10_joins_76 : decode cX10_joins 76 = .ok (.iconst 0, 1) := by decide +kernel
theorem dX10_joins_77 : decode cX10_joins 77 = .ok (.istore 5, 2) := by decide +kernel
theorem dX10_joins_79 : decode cX10_joins 79 = .ok (.iload 5, 2) := by decide +kernel
theorem dX10_joins_81 : decode cX10_joins 81 = .ok (.aload_n 0, 1) := by decide +kernel
theorem dX10_joins_82 : decode cX10_joins 82 = .ok (.getfield 11, 3) := by decide +kernel
theorem dX10_joins_85 : decode cX10_joins 85 = .ok (.iconst 0, 1) := by decide +kernel
theorem dX10_joins_86 : decode cX10_joins 86 = .ok (.iaload, 1) := by decide +kernel
theorem dX10_joins_87 : decode cX10_joins 87 = .ok (.if_icmp .ge 50, 3) := by decide +kernel
theorem dX10_joins_90 : decode cX10_joins 90 = .ok (.aload_n 0, 1) := by decide +kernel
theorem dX10_joins_91 : decode cX10_joins 91 = .ok (.getfield 27, 3) := by decide +kernel
theorem dX10_joins_94 : decode cX10_joins 94 = .ok (.iload 5, 2) := by decide +kernel
theorem dX10_joins_96 : decode cX10_joins 96 = .ok (.aload_n 0, 1) := by decide +kernel
theorem dX10_joins_97 : decode cX10_joins 97 = .ok (.getfield 27, 3) := by decide +kernel
theorem dX10_joins_100 : decode cX10_joins 100 = .ok (.iload 5, 2) := by decide +kernel
theorem dX10_joins_102 : decode cX10_joins 102 = .ok (.iaload, 1) := by decide +kernel
theorem dX10_joins_103 : decode cX10_joins 103 = .ok (.iload_n 2, 1) := by decide +kernel
theorem dX10_joins_104 : decode cX10_joins 104 = .ok (.if_icmp .eq 14, 3) := by decide +kernel
theorem dX10_joins_107 : decode cX10_joins 107 = .ok (.aload_n 0, 1) := by decide +kernel
theorem dX10_joins_108 : decode cX10_joins 108 = .ok (.getfield 27, 3) := by decide +kernel
theorem dX10_joins_111 : decode cX10_joins 111 = .ok (.iload 5, 2) := by decide +kernel
theorem dX10_joins_113 : decode cX10_joins 113 = .ok (.iaload, 1) := by decide +kernel
theorem dX10_joins_114 : decode cX10_joins 114 = .ok (.iload_n 3, 1) := by decide +kernel
theorem dX10_joins_115 : decode cX10_joins 115 = .ok (.if_icmp .ne 8, 3) := by decide +kernel
theorem dX10_joins_118 : decode cX10_joins 118 = .ok (.iload 4, 2) := by decide +kernel
theorem dX10_joins_120 : decode cX10_joins 120 = .ok (.goto 10, 3) := by decide +kernel
theorem dX10_joins_123 : decode cX10_joins 123 = .ok (.aload_n 0, 1) := by decide +kernel
theorem dX10_joins_124 : decode cX10_joins 124 = .ok (.getfield 27, 3) := by decide +kernel
theorem dX10_joins_127 : decode cX10_joins 127 = .ok (.iload 5, 2) := by decide +kernel
theorem dX10_joins_129 : decode cX10_joins 129 = .ok (.iaload, 1) := by decide +kernel
theorem dX10_joins_130 : decode cX10_joins 130 = .ok (.iastore, 1) := by decide +kernel
theorem dX10_joins_131 : decode cX10_joins 131 = .ok (.iinc 5 1, 3) := by decide +kernel
theorem dX10_joins_134 : decode cX10_joins 134 = .ok (.goto (-55), 3) := by decide +kernel
theorem dX10_joins_137 : decode cX10_joins 137 = .ok (.iinc 1 1, 3) := by decide +kernel
theorem dX10_joins_140 : decode cX10_joins 140 = .ok (.goto (-117), 3) := by decide +kernel
theorem dX10_joins_143 : decode cX10_joins 143 = .ok (.return_, 1) := by decide +kernel
theorem dX10_isOne_0 : decode cX10_isOne 0 = .ok (.aload_n 0, 1) := by decide +kernel
theorem dX10_isOne_1 : decode cX10_isOne 1 = .ok (.getfield 27, 3) := by decide +kernel
theorem dX10_isOne_4 : decode cX10_isOne 4 = .ok (.iload_n 1, 1) := by decide +kernel
theorem dX10_isOne_5 : decode cX10_isOne 5 = .ok (.iaload, 1) := by decide +kernel
theorem dX10_isOne_6 : decode cX10_isOne 6 = .ok (.iload_n 1, 1) := by decide +kernel
theorem dX10_isOne_7 : decode cX10_isOne 7 = .ok (.if_icmp .ne 7, 3) := by decide +kernel
theorem dX10_isOne_10 : decode cX10_isOne 10 = .ok (.iconst 1, 1) := by decide +kernel
theorem dX10_isOne_11 : decode cX10_isOne 11 = .ok (.goto 4, 3) := by decide +kernel
theorem dX10_isOne_14 : decode cX10_isOne 14 = .ok (.iconst 0, 1) := by decide +kernel
theorem dX10_isOne_15 : decode cX10_isOne 15 = .ok (.ireturn, 1) := by decide +kernel
theorem dX10_parents_0 : decode cX10_parents 0 = .ok (.iconst 0, 1) := by decide +kernel
theorem dX10_parents_1 : decode cX10_parents 1 = .ok (.istore_n 1, 1) := by decide +kernel
theorem dX10_parents_2 : decode cX10_parents 2 = .ok (.iload_n 1, 1) := by decide +kernel
theorem dX10_parents_3 : decode cX10_parents 3 = .ok (.bipush 30, 2) := by decide +kernel
theorem dX10_parents_5 : decode cX10_parents 5 = .ok (.if_icmp .ge 23, 3) := by decide +kernel
theorem dX10_parents_8 : decode cX10_parents 8 = .ok (.aload_n 0, 1) := by decide +kernel
theorem dX10_parents_9 : decode cX10_parents 9 = .ok (.getfield 30, 3) := by decide +kernel
theorem dX10_parents_12 : decode cX10_parents 12 = .ok (.iload_n 1, 1) := by decide +kernel
theorem dX10_parents_13 : decode cX10_parents 13 = .ok (.iconst 0, 1) := by decide +kernel
theorem dX10_parents_14 : decode cX10_parents 14 = .ok (.iastore, 1) := by decide +kernel
theorem dX10_parents_15 : decode cX10_parents 15 = .ok (.aload_n 0, 1) := by decide +kernel
theorem dX10_parents_16 : decode cX10_parents 16 = .ok (.getfield 33, 3) := by decide +kernel
theorem dX10_parents_19 : decode cX10_parents 19 = .ok (.iload_n 1, 1) := by decide +kernel
theorem dX10_parents_20 : decode cX10_parents 20 = .ok (.iconst 0, 1) := by decide +kernel
theorem dX10_parents_21 : decode cX10_parents 21 = .ok (.iastore, 1) := by decide +kernel
theorem dX10_parents_22 : decode cX10_parents 22 = .ok (.iinc 1 1, 3) := by decide +kernel
theorem dX10_parents_25 : decode cX10_parents 25 = .ok (.goto (-23), 3) := by decide +kernel
theorem dX10_parents_28 : decode cX10_parents 28 = .ok (.iconst 0, 1) := by decide +kernel
theorem dX10_parents_29 : decode cX10_parents 29 = .ok (.istore_n 1, 1) := by decide +kernel
theorem dX10_parents_30 : decode cX10_parents 30 = .ok (.iload_n 1, 1) := by decide +kernel
theorem dX10_parents_31 : decode cX10_parents 31 = .ok (.aload_n 0, 1) := by decide +kernel
theorem dX10_parents_32 : decode cX10_parents 32 = .ok (.getfield 11, 3) := by decide +kernel
theorem dX10_parents_35 : decode cX10_parents 35 = .ok (.iconst 1, 1) := by decide +kernel
theorem dX10_parents_36 : decode cX10_parents 36 = .ok (.iaload, 1) := by decide +kernel
theorem dX10_parents_37 : decode cX10_parents 37 = .ok (.if_icmp .ge 91, 3) := by decide +kernel
theorem dX10_parents_40 : decode cX10_parents 40 = .ok (.aload_n 0, 1) := by decide +kernel
theorem dX10_parents_41 : decode cX10_parents 41 = .ok (.iload_n 1, 1) := by decide +kernel
theorem dX10_parents_42 : decode cX10_parents 42 = .ok (.iconst 2, 1) := by decide +kernel
theorem dX10_parents_43 : decode cX10_parents 43 = .ok (.invokevirtual 80, 3) := by decide +kernel
theorem dX10_parents_46 : decode cX10_parents 46 = .ok (.ifCond .eq 35, 3) := by decide +kernel
theorem dX10_parents_49 : decode cX10_parents 49 = .ok (.aload_n 0, 1) := by decide +kernel
theorem dX10_parents_50 : decode cX10_parents 50 = .ok (.getfield 30, 3) := by decide +kernel
theorem dX10_parents_53 : decode cX10_parents 53 = .ok (.aload_n 0, 1) := by decide +kernel
theorem dX10_parents_54 : decode cX10_parents 54 = .ok (.getfield 27, 3) := by decide +kernel
theorem dX10_parents_57 : decode cX10_parents 57 = .ok (.aload_n 0, 1) := by decide +kernel
theorem dX10_parents_58 : decode cX10_parents 58 = .ok (.iload_n 1, 1) := by decide +kernel
theorem dX10_parents_59 : decode cX10_parents 59 = .ok (.iconst 1, 1) := by decide +kernel
theorem dX10_parents_60 : decode cX10_parents 60 = .ok (.invokevirtual 76, 3) := by decide +kernel
theorem dX10_parents_63 : decode cX10_parents 63 = .ok (.iaload, 1) := by decide +kernel
theorem dX10_parents_64 : decode cX10_parents 64 = .ok (.dup2, 1) := by decide +kernel
theorem dX10_parents_65 : decode cX10_parents 65 = .ok (.iaload, 1) := by decide +kernel
theorem dX10_parents_66 : decode cX10_parents 66 = .ok (.iconst 1, 1) := by decide +kernel
theorem dX10_parents_67 : decode cX10_parents 67 = .ok (.aload_n 0, 1) := by decide +kernel
theorem dX10_parents_68 : decode cX10_parents 68 = .ok (.getfield 27, 3) := by decide +kernel
theorem dX10_parents_71 : decode cX10_parents 71 = .ok (.aload_n 0, 1) := by decide +kernel
theorem dX10_parents_72 : decode cX10_parents 72 = .ok (.iload_n 1, 1) := by decide +kernel
theorem dX10_parents_73 : decode cX10_parents 73 = .ok (.iconst 2, 1) := by decide +kernel
theorem dX10_parents_74 : decode cX10_parents 74 = .ok (.invokevirtual 76, 3) := by decide +kernel
theorem dX10_parents_77 : decode cX10_parents 77 = .ok (.iaload, 1) := by decide +kernel
theorem dX10_parents_78 : decode cX10_parents 78 = .ok (.ishl, 1) := by decide +kernel
theorem dX10_parents_79 : decode cX10_parents 79 = .ok (.ior, 1) := by decide +kernel
theorem dX10_parents_80 : decode cX10_parents 80 = .ok (.iastore, 1) := by decide +kernel
theorem dX10_parents_81 : decode cX10_parents 81 = .ok (.aload_n 0, 1) := by decide +kernel
theorem dX10_parents_82 : decode cX10_parents 82 = .ok (.iload_n 1, 1) := by decide +kernel
theorem dX10_parents_83 : decode cX10_parents 83 = .ok (.iconst 3, 1) := by decide +kernel
theorem dX10_parents_84 : decode cX10_parents 84 = .ok (.invokevirtual 80, 3) := by decide +kernel
theorem dX10_parents_87 : decode cX10_parents 87 = .ok (.ifCond .eq 35, 3) := by decide +kernel
theorem dX10_parents_90 : decode cX10_parents 90 = .ok (.aload_n 0, 1) := by decide +kernel
theorem dX10_parents_91 : decode cX10_parents 91 = .ok (.getfield 33, 3) := by decide +kernel
theorem dX10_parents_94 : decode cX10_parents 94 = .ok (.aload_n 0, 1) := by decide +kernel
theorem dX10_parents_95 : decode cX10_parents 95 = .ok (.getfield 27, 3) := by decide +kernel
theorem dX10_parents_98 : decode cX10_parents 98 = .ok (.aload_n 0, 1) := by decide +kernel
theorem dX10_parents_99 : decode cX10_parents 99 = .ok (.iload_n 1, 1) := by decide +kernel
theorem dX10_parents_100 : decode cX10_parents 100 = .ok (.iconst 1, 1) := by decide +kernel
theorem dX10_parents_101 : decode cX10_parents 101 = .ok (.invokevirtual 76, 3) := by decide +kernel
theorem dX10_parents_104 : decode cX10_parents 104 = .ok (.iaload, 1) := by decide +kernel
theorem dX10_parents_105 : decode cX10_parents 105 = .ok (.dup2, 1) := by decide +kernel
theorem dX10_parents_106 : decode cX10_parents 106 = .ok (.iaload, 1) := by decide +kernel
theorem dX10_parents_107 : decode cX10_parents 107 = .ok (.iconst 1, 1) := by decide +kernel
theorem dX10_parents_108 : decode cX10_parents 108 = .ok (.aload_n 0, 1) := by decide +kernel
theorem dX10_parents_109 : decode cX10_parents 109 = .ok (.getfield 27, 3) := by decide +kernel
theorem dX10_parents_112 : decode cX10_parents 112 = .ok (.aload_n 0, 1) := by decide +kernel
theorem dX10_parents_113 : decode cX10_parents 113 = .ok (.iload_n 1, 1) := by decide +kernel
theorem dX10_parents_114 : decode cX10_parents 114 = .ok (.iconst 2, 1) := by decide +kernel
theorem dX10_parents_115 : decode cX10_parents 115 = .ok (.invokevirtual 76, 3) := by decide +kernel
theorem dX10_parents_118 : decode cX10_parents 118 = .ok (.iaload, 1) := by decide +kernel
theorem dX10_parents_119 : decode cX10_parents 119 = .ok (.ishl, 1) := by decide +kernel
theorem dX10_parents_120 : decode cX10_parents 120 = .ok (.ior, 1) := by decide +kernel
theorem dX10_parents_121 : decode cX10_parents 121 = .ok (.iastore, 1) := by decide +kernel
theorem dX10_parents_122 : decode cX10_parents 122 = .ok (.iinc 1 1, 3) := by decide +kernel
theorem dX10_parents_125 : decode cX10_parents 125 = .ok (.goto (-95), 3) := by decide +kernel
theorem dX10_parents_128 : decode cX10_parents 128 = .ok (.iconst 0, 1) := by decide +kernel
theorem dX10_parents_129 : decode cX10_parents 129 = .ok (.istore_n 1, 1) := by decide +kernel
theorem dX10_parents_130 : decode cX10_parents 130 = .ok (.iload_n 1, 1) := by decide +kernel
theorem dX10_parents_131 : decode cX10_parents 131 = .ok (.bipush 30, 2) := by decide +kernel
theorem dX10_parents_133 : decode cX10_parents 133 = .ok (.if_icmp .ge 28, 3) := by decide +kernel
theorem dX10_parents_136 : decode cX10_parents 136 = .ok (.aload_n 0, 1) := by decide +kernel
theorem dX10_parents_137 : decode cX10_parents 137 = .ok (.getfield 36, 3) := by decide +kernel
theorem dX10_parents_140 : decode cX10_parents 140 = .ok (.iload_n 1, 1) := by decide +kernel
theorem dX10_parents_141 : decode cX10_parents 141 = .ok (.aload_n 0, 1) := by decide +kernel
theorem dX10_parents_142 : decode cX10_parents 142 = .ok (.getfield 30, 3) := by decide +kernel
theorem dX10_parents_145 : decode cX10_parents 145 = .ok (.iload_n 1, 1) := by decide +kernel
theorem dX10_parents_146 : decode cX10_parents 146 = .ok (.iaload, 1) := by decide +kernel
theorem dX10_parents_147 : decode cX10_parents 147 = .ok (.aload_n 0, 1) := by decide +kernel
theorem dX10_parents_148 : decode cX10_parents 148 = .ok (.getfield 33, 3) := by decide +kernel
theorem dX10_parents_151 : decode cX10_parents 151 = .ok (.iload_n 1, 1) := by decide +kernel
theorem dX10_parents_152 : decode cX10_parents 152 = .ok (.iaload, 1) := by decide +kernel
theorem dX10_parents_153 : decode cX10_parents 153 = .ok (.ior, 1) := by decide +kernel
theorem dX10_parents_154 : decode cX10_parents 154 = .ok (.iastore, 1) := by decide +kernel
theorem dX10_parents_155 : decode cX10_parents 155 = .ok (.iinc 1 1, 3) := by decide +kernel
