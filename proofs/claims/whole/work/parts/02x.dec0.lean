theorem dX0_init_0 : decode cX0_init 0 = .ok (.aload_n 0, 1) := by decide +kernel
theorem dX0_init_1 : decode cX0_init 1 = .ok (.invokespecial 3, 3) := by decide +kernel
theorem dX0_init_4 : decode cX0_init 4 = .ok (.aload_n 0, 1) := by decide +kernel
theorem dX0_init_5 : decode cX0_init 5 = .ok (.bipush 30, 2) := by decide +kernel
theorem dX0_init_7 : decode cX0_init 7 = .ok (.bipush 7, 2) := by decide +kernel
theorem dX0_init_9 : decode cX0_init 9 = .ok (.multianewarray 9 2, 4) := by decide +kernel
theorem dX0_init_13 : decode cX0_init 13 = .ok (.putfield 11, 3) := by decide +kernel
theorem dX0_init_16 : decode cX0_init 16 = .ok (.aload_n 0, 1) := by decide +kernel
theorem dX0_init_17 : decode cX0_init 17 = .ok (.bipush 30, 2) := by decide +kernel
theorem dX0_init_19 : decode cX0_init 19 = .ok (.newarray .int, 2) := by decide +kernel
theorem dX0_init_21 : decode cX0_init 21 = .ok (.putfield 16, 3) := by decide +kernel
theorem dX0_init_24 : decode cX0_init 24 = .ok (.aload_n 0, 1) := by decide +kernel
theorem dX0_init_25 : decode cX0_init 25 = .ok (.bipush 30, 2) := by decide +kernel
theorem dX0_init_27 : decode cX0_init 27 = .ok (.newarray .int, 2) := by decide +kernel
theorem dX0_init_29 : decode cX0_init 29 = .ok (.putfield 20, 3) := by decide +kernel
theorem dX0_init_32 : decode cX0_init 32 = .ok (.aload_n 0, 1) := by decide +kernel
theorem dX0_init_33 : decode cX0_init 33 = .ok (.bipush 61, 2) := by decide +kernel
theorem dX0_init_35 : decode cX0_init 35 = .ok (.newarray .int, 2) := by decide +kernel
theorem dX0_init_37 : decode cX0_init 37 = .ok (.putfield 23, 3) := by decide +kernel
theorem dX0_init_40 : decode cX0_init 40 = .ok (.aload_n 0, 1) := by decide +kernel
theorem dX0_init_41 : decode cX0_init 41 = .ok (.bipush 61, 2) := by decide +kernel
theorem dX0_init_43 : decode cX0_init 43 = .ok (.newarray .int, 2) := by decide +kernel
theorem dX0_init_45 : decode cX0_init 45 = .ok (.putfield 26, 3) := by decide +kernel
theorem dX0_init_48 : decode cX0_init 48 = .ok (.aload_n 0, 1) := by decide +kernel
theorem dX0_init_49 : decode cX0_init 49 = .ok (.bipush 61, 2) := by decide +kernel
theorem dX0_init_51 : decode cX0_init 51 = .ok (.newarray .int, 2) := by decide +kernel
theorem dX0_init_53 : decode cX0_init 53 = .ok (.putfield 29, 3) := by decide +kernel
theorem dX0_init_56 : decode cX0_init 56 = .ok (.aload_n 0, 1) := by decide +kernel
theorem dX0_init_57 : decode cX0_init 57 = .ok (.bipush 61, 2) := by decide +kernel
theorem dX0_init_59 : decode cX0_init 59 = .ok (.newarray .int, 2) := by decide +kernel
theorem dX0_init_61 : decode cX0_init 61 = .ok (.putfield 32, 3) := by decide +kernel
theorem dX0_init_64 : decode cX0_init 64 = .ok (.aload_n 0, 1) := by decide +kernel
theorem dX0_init_65 : decode cX0_init 65 = .ok (.bipush 61, 2) := by decide +kernel
theorem dX0_init_67 : decode cX0_init 67 = .ok (.newarray .int, 2) := by decide +kernel
theorem dX0_init_69 : decode cX0_init 69 = .ok (.putfield 35, 3) := by decide +kernel
theorem dX0_init_72 : decode cX0_init 72 = .ok (.aload_n 0, 1) := by decide +kernel
theorem dX0_init_73 : decode cX0_init 73 = .ok (.bipush 61, 2) := by decide +kernel
theorem dX0_init_75 : decode cX0_init 75 = .ok (.newarray .int, 2) := by decide +kernel
theorem dX0_init_77 : decode cX0_init 77 = .ok (.putfield 38, 3) := by decide +kernel
theorem dX0_init_80 : decode cX0_init 80 = .ok (.return_, 1) := by decide +kernel
theorem dX0_isPerson_0 : decode cX0_isPerson 0 = .ok (.iload_n 1, 1) := by decide +kernel
theorem dX0_isPerson_1 : decode cX0_isPerson 1 = .ok (.ifCond .lt 15, 3) := by decide +kernel
theorem dX0_isPerson_4 : decode cX0_isPerson 4 = .ok (.iload_n 1, 1) := by decide +kernel
theorem dX0_isPerson_5 : decode cX0_isPerson 5 = .ok (.aload_n 0, 1) := by decide +kernel
theorem dX0_isPerson_6 : decode cX0_isPerson 6 = .ok (.getfield 41, 3) := by decide +kernel
theorem dX0_isPerson_9 : decode cX0_isPerson 9 = .ok (.if_icmp .ge 7, 3) := by decide +kernel
theorem dX0_isPerson_12 : decode cX0_isPerson 12 = .ok (.iconst 1, 1) := by decide +kernel
theorem dX0_isPerson_13 : decode cX0_isPerson 13 = .ok (.goto 4, 3) := by decide +kernel
theorem dX0_isPerson_16 : decode cX0_isPerson 16 = .ok (.iconst 0, 1) := by decide +kernel
theorem dX0_isPerson_17 : decode cX0_isPerson 17 = .ok (.ireturn, 1) := by decide +kernel
theorem dX0_isStatement_0 : decode cX0_isStatement 0 = .ok (.iload_n 1, 1) := by decide +kernel
theorem dX0_isStatement_1 : decode cX0_isStatement 1 = .ok (.ifCond .lt 15, 3) := by decide +kernel
theorem dX0_isStatement_4 : decode cX0_isStatement 4 = .ok (.iload_n 1, 1) := by decide +kernel
theorem dX0_isStatement_5 : decode cX0_isStatement 5 = .ok (.aload_n 0, 1) := by decide +kernel
theorem dX0_isStatement_6 : decode cX0_isStatement 6 = .ok (.getfield 45, 3) := by decide +kernel
theorem dX0_isStatement_9 : decode cX0_isStatement 9 = .ok (.if_icmp .ge 7, 3) := by decide +kernel
theorem dX0_isStatement_12 : decode cX0_isStatement 12 = .ok (.iconst 1, 1) := by decide +kernel
theorem dX0_isStatement_13 : decode cX0_isStatement 13 = .ok (.goto 4, 3) := by decide +kernel
theorem dX0_isStatement_16 : decode cX0_isStatement 16 = .ok (.iconst 0, 1) := by decide +kernel
theorem dX0_isStatement_17 : decode cX0_isStatement 17 = .ok (.ireturn, 1) := by decide +kernel
theorem dX0_addPerson_0 : decode cX0_addPerson 0 = .ok (.iconst 0, 1) := by decide +kernel
theorem dX0_addPerson_1 : decode cX0_addPerson 1 = .ok (.istore_n 3, 1) := by decide +kernel
theorem dX0_addPerson_2 : decode cX0_addPerson 2 = .ok (.iload_n 3, 1) := by decide +kernel
theorem dX0_addPerson_3 : decode cX0_addPerson 3 = .ok (.aload_n 1, 1) := by decide +kernel
theorem dX0_addPerson_4 : decode cX0_addPerson 4 = .ok (.getfield 48, 3) := by decide +kernel
theorem dX0_addPerson_7 : decode cX0_addPerson 7 = .ok (.if_icmp .ge 32, 3) := by decide +kernel
theorem dX0_addPerson_10 : decode cX0_addPerson 10 = .ok (.iload_n 3, 1) := by decide +kernel
theorem dX0_addPerson_11 : decode cX0_addPerson 11 = .ok (.bipush 7, 2) := by decide +kernel
theorem dX0_addPerson_13 : decode cX0_addPerson 13 = .ok (.if_icmp .ge 26, 3) := by decide +kernel
theorem dX0_addPerson_16 : decode cX0_addPerson 16 = .ok (.aload_n 0, 1) := by decide +kernel
theorem dX0_addPerson_17 : decode cX0_addPerson 17 = .ok (.getfield 11, 3) := by decide +kernel
theorem dX0_addPerson_20 : decode cX0_addPerson 20 = .ok (.aload_n 0, 1) := by decide +kernel
theorem dX0_addPerson_21 : decode cX0_addPerson 21 = .ok (.getfield 41, 3) := by decide +kernel
theorem dX0_addPerson_24 : decode cX0_addPerson 24 = .ok (.aaload, 1) := by decide +kernel
theorem dX0_addPerson_25 : decode cX0_addPerson 25 = .ok (.iload_n 3, 1) := by decide +kernel
theorem dX0_addPerson_26 : decode cX0_addPerson 26 = .ok (.aload_n 1, 1) := by decide +kernel
theorem dX0_addPerson_27 : decode cX0_addPerson 27 = .ok (.getfield 53, 3) := by decide +kernel
theorem dX0_addPerson_30 : decode cX0_addPerson 30 = .ok (.iload_n 3, 1) := by decide +kernel
theorem dX0_addPerson_31 : decode cX0_addPerson 31 = .ok (.baload, 1) := by decide +kernel
theorem dX0_addPerson_32 : decode cX0_addPerson 32 = .ok (.bastore, 1) := by decide +kernel
theorem dX0_addPerson_33 : decode cX0_addPerson 33 = .ok (.iinc 3 1, 3) := by decide +kernel
theorem dX0_addPerson_36 : decode cX0_addPerson 36 = .ok (.goto (-34), 3) := by decide +kernel
theorem dX0_addPerson_39 : decode cX0_addPerson 39 = .ok (.aload_n 0, 1) := by decide +kernel
theorem dX0_addPerson_40 : decode cX0_addPerson 40 = .ok (.getfield 16, 3) := by decide +kernel
theorem dX0_addPerson_43 : decode cX0_addPerson 43 = .ok (.aload_n 0, 1) := by decide +kernel
theorem dX0_addPerson_44 : decode cX0_addPerson 44 = .ok (.getfield 41, 3) := by decide +kernel
theorem dX0_addPerson_47 : decode cX0_addPerson 47 = .ok (.aload_n 1, 1) := by decide +kernel
theorem dX0_addPerson_48 : decode cX0_addPerson 48 = .ok (.getfield 48, 3) := by decide +kernel
theorem dX0_addPerson_51 : decode cX0_addPerson 51 = .ok (.iastore, 1) := by decide +kernel
theorem dX0_addPerson_52 : decode cX0_addPerson 52 = .ok (.aload_n 0, 1) := by decide +kernel
theorem dX0_addPerson_53 : decode cX0_addPerson 53 = .ok (.getfield 20, 3) := by decide +kernel
theorem dX0_addPerson_56 : decode cX0_addPerson 56 = .ok (.aload_n 0, 1) := by decide +kernel
theorem dX0_addPerson_57 : decode cX0_addPerson 57 = .ok (.getfield 41, 3) := by decide +kernel
theorem dX0_addPerson_60 : decode cX0_addPerson 60 = .ok (.iload_n 2, 1) := by decide +kernel
theorem dX0_addPerson_61 : decode cX0_addPerson 61 = .ok (.iastore, 1) := by decide +kernel
theorem dX0_addPerson_62 : decode cX0_addPerson 62 = .ok (.aload_n 0, 1) := by decide +kernel
theorem dX0_addPerson_63 : decode cX0_addPerson 63 = .ok (.dup, 1) := by decide +kernel
theorem dX0_addPerson_64 : decode cX0_addPerson 64 = .ok (.getfield 41, 3) := by decide +kernel
theorem dX0_addPerson_67 : decode cX0_addPerson 67 = .ok (.iconst 1, 1) := by decide +kernel
theorem dX0_addPerson_68 : decode cX0_addPerson 68 = .ok (.iadd, 1) := by decide +kernel
theorem dX0_addPerson_69 : decode cX0_addPerson 69 = .ok (.putfield 41, 3) := by decide +kernel
theorem dX0_addPerson_72 : decode cX0_addPerson 72 = .ok (.return_, 1) := by decide +kernel
theorem dX0_write_0 : decode cX0_write 0 = .ok (.aload_n 0, 1) := by decide +kernel
theorem dX0_write_1 : decode cX0_write 1 = .ok (.getfield 23, 3) := by decide +kernel
theorem dX0_write_4 : decode cX0_write 4 = .ok (.iload_n 1, 1) := by decide +kernel
theorem dX0_write_5 : decode cX0_write 5 = .ok (.aload_n 2, 1) := by decide +kernel
theorem dX0_write_6 : decode cX0_write 6 = .ok (.getfield 57, 3) := by decide +kernel
theorem dX0_write_9 : decode cX0_write 9 = .ok (.iastore, 1) := by decide +kernel
theorem dX0_write_10 : decode cX0_write 10 = .ok (.aload_n 0, 1) := by decide +kernel
theorem dX0_write_11 : decode cX0_write 11 = .ok (.getfield 26, 3) := by decide +kernel
theorem dX0_write_14 : decode cX0_write 14 = .ok (.iload_n 1, 1) := by decide +kernel
theorem dX0_write_15 : decode cX0_write 15 = .ok (.aload_n 2, 1) := by decide +kernel
theorem dX0_write_16 : decode cX0_write 16 = .ok (.getfield 62, 3) := by decide +kernel
theorem dX0_write_19 : decode cX0_write 19 = .ok (.iastore, 1) := by decide +kernel
theorem dX0_write_20 : decode cX0_write 20 = .ok (.aload_n 0, 1) := by decide +kernel
theorem dX0_write_21 : decode cX0_write 21 = .ok (.getfield 29, 3) := by decide +kernel
theorem dX0_write_24 : decode cX0_write 24 = .ok (.iload_n 1, 1) := by decide +kernel
theorem dX0_write_25 : decode cX0_write 25 = .ok (.aload_n 2, 1) := by decide +kernel
theorem dX0_write_26 : decode cX0_write 26 = .ok (.getfield 65, 3) := by decide +kernel
theorem dX0_write_29 : decode cX0_write 29 = .ok (.iastore, 1) := by decide +kernel
theorem dX0_write_30 : decode cX0_write 30 = .ok (.aload_n 0, 1) := by decide +kernel
theorem dX0_write_31 : decode cX0_write 31 = .ok (.getfield 32, 3) := by decide +kernel
theorem dX0_write_34 : decode cX0_write 34 = .ok (.iload_n 1, 1) := by decide +kernel
theorem dX0_write_35 : decode cX0_write 35 = .ok (.aload_n 2, 1) := by decide +kernel
theorem dX0_write_36 : decode cX0_write 36 = .ok (.getfield 68, 3) := by decide +kernel
theorem dX0_write_39 : decode cX0_write 39 = .ok (.iastore, 1) := by decide +kernel
theorem dX0_write_40 : decode cX0_write 40 = .ok (.aload_n 0, 1) := by decide +kernel
theorem dX0_write_41 : decode cX0_write 41 = .ok (.getfield 35, 3) := by decide +kernel
theorem dX0_write_44 : decode cX0_write 44 = .ok (.iload_n 1, 1) := by decide +kernel
theorem dX0_write_45 : decode cX0_write 45 = .ok (.aload_n 2, 1) := by decide +kernel
theorem dX0_write_46 : decode cX0_write 46 = .ok (.getfield 71, 3) := by decide +kernel
theorem dX0_write_49 : decode cX0_write 49 = .ok (.iastore, 1) := by decide +kernel
theorem dX0_write_50 : decode cX0_write 50 = .ok (.aload_n 0, 1) := by decide +kernel
theorem dX0_write_51 : decode cX0_write 51 = .ok (.getfield 38, 3) := by decide +kernel
theorem dX0_write_54 : decode cX0_write 54 = .ok (.iload_n 1, 1) := by decide +kernel
theorem dX0_write_55 : decode cX0_write 55 = .ok (.iload_n 3, 1) := by decide +kernel
theorem dX0_write_56 : decode cX0_write 56 = .ok (.iastore, 1) := by decide +kernel
theorem dX0_write_57 : decode cX0_write 57 = .ok (.return_, 1) := by decide +kernel
theorem dX0_copyFrom_0 : decode cX0_copyFrom 0 = .ok (.aload_n 0, 1) := by decide +kernel
theorem dX0_copyFrom_1 : decode cX0_copyFrom 1 = .ok (.aload_n 1, 1) := by decide +kernel
theorem dX0_copyFrom_2 : decode cX0_copyFrom 2 = .ok (.getfield 41, 3) := by decide +kernel
theorem dX0_copyFrom_5 : decode cX0_copyFrom 5 = .ok (.putfield 41, 3) := by decide +kernel
theorem dX0_copyFrom_8 : decode cX0_copyFrom 8 = .ok (.aload_n 0, 1) := by decide +kernel
theorem dX0_copyFrom_9 : decode cX0_copyFrom 9 = .ok (.aload_n 1, 1) := by decide +kernel
theorem dX0_copyFrom_10 : decode cX0_copyFrom 10 = .ok (.getfield 45, 3) := by decide +kernel
theorem dX0_copyFrom_13 : decode cX0_copyFrom 13 = .ok (.putfield 45, 3) := by decide +kernel
theorem dX0_copyFrom_16 : decode cX0_copyFrom 16 = .ok (.iconst 0, 1) := by decide +kernel
theorem dX0_copyFrom_17 : decode cX0_copyFrom 17 = .ok (.istore_n 2, 1) := by decide +kernel
theorem dX0_copyFrom_18 : decode cX0_copyFrom 18 = .ok (.iload_n 2, 1) := by decide +kernel
theorem dX0_copyFrom_19 : decode cX0_copyFrom 19 = .ok (.bipush 30, 2) := by decide +kernel
theorem dX0_copyFrom_21 : decode cX0_copyFrom 21 = .ok (.if_icmp .ge 28, 3) := by decide +kernel
theorem dX0_copyFrom_24 : decode cX0_copyFrom 24 = .ok (.aload_n 1, 1) := by decide +kernel
theorem dX0_copyFrom_25 : decode cX0_copyFrom 25 = .ok (.getfield 11, 3) := by decide +kernel
theorem dX0_copyFrom_28 : decode cX0_copyFrom 28 = .ok (.iload_n 2, 1) := by decide +kernel
theorem dX0_copyFrom_29 : decode cX0_copyFrom 29 = .ok (.aaload, 1) := by decide +kernel
theorem dX0_copyFrom_30 : decode cX0_copyFrom 30 = .ok (.iconst 0, 1) := by decide +kernel
theorem dX0_copyFrom_31 : decode cX0_copyFrom 31 = .ok (.aload_n 0, 1) := by decide +kernel
theorem dX0_copyFrom_32 : decode cX0_copyFrom 32 = .ok (.getfield 11, 3) := by decide +kernel
theorem dX0_copyFrom_35 : decode cX0_copyFrom 35 = .ok (.iload_n 2, 1) := by decide +kernel
theorem dX0_copyFrom_36 : decode cX0_copyFrom 36 = .ok (.aaload, 1) := by decide +kernel
theorem dX0_copyFrom_37 : decode cX0_copyFrom 37 = .ok (.iconst 0, 1) := by decide +kernel
theorem dX0_copyFrom_38 : decode cX0_copyFrom 38 = .ok (.bipush 7, 2) := by decide +kernel
theorem dX0_copyFrom_40 : decode cX0_copyFrom 40 = .ok (.invokestatic 74, 3) := by decide +kernel
theorem dX0_copyFrom_43 : decode cX0_copyFrom 43 = .ok (.iinc 2 1, 3) := by decide +kernel
theorem dX0_copyFrom_46 : decode cX0_copyFrom 46 = .ok (.goto (-28), 3) := by decide +kernel
theorem dX0_copyFrom_49 : decode cX0_copyFrom 49 = .ok (.aload_n 1, 1) := by decide +kernel
theorem dX0_copyFrom_50 : decode cX0_copyFrom 50 = .ok (.getfield 16, 3) := by decide +kernel
theorem dX0_copyFrom_53 : decode cX0_copyFrom 53 = .ok (.iconst 0, 1) := by decide +kernel
theorem dX0_copyFrom_54 : decode cX0_copyFrom 54 = .ok (.aload_n 0, 1) := by decide +kernel
theorem dX0_copyFrom_55 : decode cX0_copyFrom 55 = .ok (.getfield 16, 3) := by decide +kernel
theorem dX0_copyFrom_58 : decode cX0_copyFrom 58 = .ok (.iconst 0, 1) := by decide +kernel
theorem dX0_copyFrom_59 : decode cX0_copyFrom 59 = .ok (.bipush 30, 2) := by decide +kernel
theorem dX0_copyFrom_61 : decode cX0_copyFrom 61 = .ok (.invokestatic 74, 3) := by decide +kernel
theorem dX0_copyFrom_64 : decode cX0_copyFrom 64 = .ok (.aload_n 1, 1) := by decide +kernel
theorem dX0_copyFrom_65 : decode cX0_copyFrom 65 = .ok (.getfield 20, 3) := by decide +kernel
theorem dX0_copyFrom_68 : decode cX0_copyFrom 68 = .ok (.iconst 0, 1) := by decide +kernel
theorem dX0_copyFrom_69 : decode cX0_copyFrom 69 = .ok (.aload_n 0, 1) := by decide +kernel
theorem dX0_copyFrom_70 : decode cX0_copyFrom 70 = .ok (.getfield 20, 3) := by decide +kernel
theorem dX0_copyFrom_73 : decode cX0_copyFrom 73 = .ok (.iconst 0, 1) := by decide +kernel
theorem dX0_copyFrom_74 : decode cX0_copyFrom 74 = .ok (.bipush 30, 2) := by decide +kernel
theorem dX0_copyFrom_76 : decode cX0_copyFrom 76 = .ok (.invokestatic 74, 3) := by decide +kernel
theorem dX0_copyFrom_79 : decode cX0_copyFrom 79 = .ok (.aload_n 1, 1) := by decide +kernel
theorem dX0_copyFrom_80 : decode cX0_copyFrom 80 = .ok (.getfield 23, 3) := by decide +kernel
theorem dX0_copyFrom_83 : decode cX0_copyFrom 83 = .ok (.iconst 0, 1) := by decide +kernel
theorem dX0_copyFrom_84 : decode cX0_copyFrom 84 = .ok (.aload_n 0, 1) := by decide +kernel
theorem dX0_copyFrom_85 : decode cX0_copyFrom 85 = .ok (.getfield 23, 3) := by decide +kernel
theorem dX0_copyFrom_88 : decode cX0_copyFrom 88 = .ok (.iconst 0, 1) := by decide +kernel
theorem dX0_copyFrom_89 : decode cX0_copyFrom 89 = .ok (.bipush 60, 2) := by decide +kernel
theorem dX0_copyFrom_91 : decode cX0_copyFrom 91 = .ok (.invokestatic 74, 3) := by decide +kernel
theorem dX0_copyFrom_94 : decode cX0_copyFrom 94 = .ok (.aload_n 1, 1) := by decide +kernel
theorem dX0_copyFrom_95 : decode cX0_copyFrom 95 = .ok (.getfield 26, 3) := by decide +kernel
theorem dX0_copyFrom_98 : decode cX0_copyFrom 98 = .ok (.iconst 0, 1) := by decide +kernel
theorem dX0_copyFrom_99 : decode cX0_copyFrom 99 = .ok (.aload_n 0, 1) := by decide +kernel
theorem dX0_copyFrom_100 : decode cX0_copyFrom 100 = .ok (.getfield 26, 3) := by decide +kernel
theorem dX0_copyFrom_103 : decode cX0_copyFrom 103 = .ok (.iconst 0, 1) := by decide +kernel
theorem dX0_copyFrom_104 : decode cX0_copyFrom 104 = .ok (.bipush 60, 2) := by decide +kernel
theorem dX0_copyFrom_106 : decode cX0_copyFrom 106 = .ok (.invokestatic 74, 3) := by decide +kernel
theorem dX0_copyFrom_109 : decode cX0_copyFrom 109 = .ok (.aload_n 1, 1) := by decide +kernel
theorem dX0_copyFrom_110 : decode cX0_copyFrom 110 = .ok (.getfield 29, 3) := by decide +kernel
theorem dX0_copyFrom_113 : decode cX0_copyFrom 113 = .ok (.iconst 0, 1) := by decide +kernel
theorem dX0_copyFrom_114 : decode cX0_copyFrom 114 = .ok (.aload_n 0, 1) := by decide +kernel
theorem dX0_copyFrom_115 : decode cX0_copyFrom 115 = .ok (.getfield 29, 3) := by decide +kernel
theorem dX0_copyFrom_118 : decode cX0_copyFrom 118 = .ok (.iconst 0, 1) := by decide +kernel
theorem dX0_copyFrom_119 : decode cX0_copyFrom 119 = .ok (.bipush 60, 2) := by decide +kernel
theorem dX0_copyFrom_121 : decode cX0_copyFrom 121 = .ok (.invokestatic 74, 3) := by decide +kernel
theorem dX0_copyFrom_124 : decode cX0_copyFrom 124 = .ok (.aload_n 1, 1) := by decide +kernel
theorem dX0_copyFrom_125 : decode cX0_copyFrom 125 = .ok (.getfield 32, 3) := by decide +kernel
theorem dX0_copyFrom_128 : decode cX0_copyFrom 128 = .ok (.iconst 0, 1) := by decide +kernel
theorem dX0_copyFrom_129 : decode cX0_copyFrom 129 = .ok (.aload_n 0, 1) := by decide +kernel
theorem dX0_copyFrom_130 : decode cX0_copyFrom 130 = .ok (.getfield 32, 3) := by decide +kernel
theorem dX0_copyFrom_133 : decode cX0_copyFrom 133 = .ok (.iconst 0, 1) := by decide +kernel
theorem dX0_copyFrom_134 : decode cX0_copyFrom 134 = .ok (.bipush 60, 2) := by decide +kernel
theorem dX0_copyFrom_136 : decode cX0_copyFrom 136 = .ok (.invokestatic 74, 3) := by decide +kernel
theorem dX0_copyFrom_139 : decode cX0_copyFrom 139 = .ok (.aload_n 1, 1) := by decide +kernel
theorem dX0_copyFrom_140 : decode cX0_copyFrom 140 = .ok (.getfield 35, 3) := by decide +kernel
theorem dX0_copyFrom_143 : decode cX0_copyFrom 143 = .ok (.iconst 0, 1) := by decide +kernel
theorem dX0_copyFrom_144 : decode cX0_copyFrom 144 = .ok (.aload_n 0, 1) := by decide +kernel
theorem dX0_copyFrom_145 : decode cX0_copyFrom 145 = .ok (.getfield 35, 3) := by decide +kernel
theorem dX0_copyFrom_148 : decode cX0_copyFrom 148 = .ok (.iconst 0, 1) := by decide +kernel
theorem dX0_copyFrom_149 : decode cX0_copyFrom 149 = .ok (.bipush 60, 2) := by decide +kernel
theorem dX0_copyFrom_151 : decode cX0_copyFrom 151 = .ok (.invokestatic 74, 3) := by decide +kernel
theorem dX0_copyFrom_154 : decode cX0_copyFrom 154 = .ok (.aload_n 1, 1) := by decide +kernel
theorem dX0_copyFrom_155 : decode cX0_copyFrom 155 = .ok (.getfield 38, 3) := by decide +kernel
theorem dX0_copyFrom_158 : decode cX0_copyFrom 158 = .ok (.iconst 0, 1) := by decide +kernel
theorem dX0_copyFrom_159 : decode cX0_copyFrom 159 = .ok (.aload_n 0, 1) := by decide +kernel
theorem dX0_copyFrom_160 : decode cX0_copyFrom 160 = .ok (.getfield 38, 3) := by decide +kernel
theorem dX0_copyFrom_163 : decode cX0_copyFrom 163 = .ok (.iconst 0, 1) := by decide +kernel
theorem dX0_copyFrom_164 : decode cX0_copyFrom 164 = .ok (.bipush 60, 2) := by decide +kernel
theorem dX0_copyFrom_166 : decode cX0_copyFrom 166 = .ok (.invokestatic 74, 3) := by decide +kernel
theorem dX0_copyFrom_169 : decode cX0_copyFrom 169 = .ok (.return_, 1) := by decide +kernel
theorem dX0_spellInto_0 : decode cX0_spellInto 0 = .ok (.aload_n 1, 1) := by decide +kernel
theorem dX0_spellInto_1 : decode cX0_spellInto 1 = .ok (.aload_n 0, 1) := by decide +kernel
theorem dX0_spellInto_2 : decode cX0_spellInto 2 = .ok (.getfield 23, 3) := by decide +kernel
theorem dX0_spellInto_5 : decode cX0_spellInto 5 = .ok (.iload_n 2, 1) := by decide +kernel
theorem dX0_spellInto_6 : decode cX0_spellInto 6 = .ok (.iaload, 1) := by decide +kernel
theorem dX0_spellInto_7 : decode cX0_spellInto 7 = .ok (.invokestatic 80, 3) := by decide +kernel
theorem dX0_spellInto_10 : decode cX0_spellInto 10 = .ok (.invokevirtual 84, 3) := by decide +kernel
theorem dX0_spellInto_13 : decode cX0_spellInto 13 = .ok (.aload_n 1, 1) := by decide +kernel
theorem dX0_spellInto_14 : decode cX0_spellInto 14 = .ok (.aload_n 0, 1) := by decide +kernel
theorem dX0_spellInto_15 : decode cX0_spellInto 15 = .ok (.getfield 26, 3) := by decide +kernel
theorem dX0_spellInto_18 : decode cX0_spellInto 18 = .ok (.iload_n 2, 1) := by decide +kernel
theorem dX0_spellInto_19 : decode cX0_spellInto 19 = .ok (.iaload, 1) := by decide +kernel
theorem dX0_spellInto_20 : decode cX0_spellInto 20 = .ok (.invokestatic 88, 3) := by decide +kernel
theorem dX0_spellInto_23 : decode cX0_spellInto 23 = .ok (.aload_n 1, 1) := by decide +kernel
theorem dX0_spellInto_24 : decode cX0_spellInto 24 = .ok (.aload_n 0, 1) := by decide +kernel
theorem dX0_spellInto_25 : decode cX0_spellInto 25 = .ok (.getfield 29, 3) := by decide +kernel
theorem dX0_spellInto_28 : decode cX0_spellInto 28 = .ok (.iload_n 2, 1) := by decide +kernel
theorem dX0_spellInto_29 : decode cX0_spellInto 29 = .ok (.iaload, 1) := by decide +kernel
theorem dX0_spellInto_30 : decode cX0_spellInto 30 = .ok (.invokestatic 88, 3) := by decide +kernel
theorem dX0_spellInto_33 : decode cX0_spellInto 33 = .ok (.aload_n 1, 1) := by decide +kernel
theorem dX0_spellInto_34 : decode cX0_spellInto 34 = .ok (.aload_n 0, 1) := by decide +kernel
theorem dX0_spellInto_35 : decode cX0_spellInto 35 = .ok (.getfield 32, 3) := by decide +kernel
theorem dX0_spellInto_38 : decode cX0_spellInto 38 = .ok (.iload_n 2, 1) := by decide +kernel
theorem dX0_spellInto_39 : decode cX0_spellInto 39 = .ok (.iaload, 1) := by decide +kernel
theorem dX0_spellInto_40 : decode cX0_spellInto 40 = .ok (.invokestatic 88, 3) := by decide +kernel
theorem dX0_spellInto_43 : decode cX0_spellInto 43 = .ok (.aload_n 1, 1) := by decide +kernel
theorem dX0_spellInto_44 : decode cX0_spellInto 44 = .ok (.aload_n 0, 1) := by decide +kernel
theorem dX0_spellInto_45 : decode cX0_spellInto 45 = .ok (.getfield 35, 3) := by decide +kernel
theorem dX0_spellInto_48 : decode cX0_spellInto 48 = .ok (.iload_n 2, 1) := by decide +kernel
theorem dX0_spellInto_49 : decode cX0_spellInto 49 = .ok (.iaload, 1) := by decide +kernel
theorem dX0_spellInto_50 : decode cX0_spellInto 50 = .ok (.invokestatic 88, 3) := by decide +kernel
theorem dX0_spellInto_53 : decode cX0_spellInto 53 = .ok (.return_, 1) := by decide +kernel
theorem dX0_spellNumber_0 : decode cX0_spellNumber 0 = .ok (.iload_n 1, 1) := by decide +kernel
theorem dX0_spellNumber_1 : decode cX0_spellNumber 1 = .ok (.bipush (-5), 2) := by decide +kernel
theorem dX0_spellNumber_3 : decode cX0_spellNumber 3 = .ok (.if_icmp .eq 14, 3) := by decide +kernel
theorem dX0_spellNumber_6 : decode cX0_spellNumber 6 = .ok (.aload_n 0, 1) := by decide +kernel
theorem dX0_spellNumber_7 : decode cX0_spellNumber 7 = .ok (.bipush 32, 2) := by decide +kernel
theorem dX0_spellNumber_9 : decode cX0_spellNumber 9 = .ok (.invokevirtual 84, 3) := by decide +kernel
theorem dX0_spellNumber_12 : decode cX0_spellNumber 12 = .ok (.aload_n 0, 1) := by decide +kernel
theorem dX0_spellNumber_13 : decode cX0_spellNumber 13 = .ok (.iload_n 1, 1) := by decide +kernel
theorem dX0_spellNumber_14 : decode cX0_spellNumber 14 = .ok (.invokevirtual 92, 3) := by decide +kernel
theorem dX0_spellNumber_17 : decode cX0_spellNumber 17 = .ok (.return_, 1) := by decide +kernel
theorem dX0_findNamed_0 : decode cX0_findNamed 0 = .ok (.iconst 0, 1) := by decide +kernel
theorem dX0_findNamed_1 : decode cX0_findNamed 1 = .ok (.istore_n 3, 1) := by decide +kernel
theorem dX0_findNamed_2 : decode cX0_findNamed 2 = .ok (.iconst 0, 1) := by decide +kernel
theorem dX0_findNamed_3 : decode cX0_findNamed 3 = .ok (.istore 4, 2) := by decide +kernel
theorem dX0_findNamed_5 : decode cX0_findNamed 5 = .ok (.iload 4, 2) := by decide +kernel
theorem dX0_findNamed_7 : decode cX0_findNamed 7 = .ok (.aload_n 0, 1) := by decide +kernel
theorem dX0_findNamed_8 : decode cX0_findNamed 8 = .ok (.getfield 41, 3) := by decide +kernel
theorem dX0_findNamed_11 : decode cX0_findNamed 11 = .ok (.if_icmp .ge 30, 3) := by decide +kernel
theorem dX0_findNamed_14 : decode cX0_findNamed 14 = .ok (.aload_n 0, 1) := by decide +kernel
theorem dX0_findNamed_15 : decode cX0_findNamed 15 = .ok (.iload 4, 2) := by decide +kernel
theorem dX0_findNamed_17 : decode cX0_findNamed 17 = .ok (.aload_n 1, 1) := by decide +kernel
theorem dX0_findNamed_18 : decode cX0_findNamed 18 = .ok (.invokevirtual 95, 3) := by decide +kernel
theorem dX0_findNamed_21 : decode cX0_findNamed 21 = .ok (.ifCond .eq 14, 3) := by decide +kernel
theorem dX0_findNamed_24 : decode cX0_findNamed 24 = .ok (.iload_n 3, 1) := by decide +kernel
theorem dX0_findNamed_25 : decode cX0_findNamed 25 = .ok (.iload_n 2, 1) := by decide +kernel
theorem dX0_findNamed_26 : decode cX0_findNamed 26 = .ok (.if_icmp .ne 6, 3) := by decide +kernel
theorem dX0_findNamed_29 : decode cX0_findNamed 29 = .ok (.iload 4, 2) := by decide +kernel
theorem dX0_findNamed_31 : decode cX0_findNamed 31 = .ok (.ireturn, 1) := by decide +kernel
theorem dX0_findNamed_32 : decode cX0_findNamed 32 = .ok (.iinc 3 1, 3) := by decide +kernel
theorem dX0_findNamed_35 : decode cX0_findNamed 35 = .ok (.iinc 4 1, 3) := by decide +kernel
theorem dX0_findNamed_38 : decode cX0_findNamed 38 = .ok (.goto (-33), 3) := by decide +kernel
theorem dX0_findNamed_41 : decode cX0_findNamed 41 = .ok (.bipush (-5), 2) := by decide +kernel
theorem dX0_findNamed_43 : decode cX0_findNamed 43 = .ok (.ireturn, 1) := by decide +kernel
theorem dX0_isNamed_0 : decode cX0_isNamed 0 = .ok (.aload_n 0, 1) := by decide +kernel
theorem dX0_isNamed_1 : decode cX0_isNamed 1 = .ok (.getfield 16, 3) := by decide +kernel
theorem dX0_isNamed_4 : decode cX0_isNamed 4 = .ok (.iload_n 1, 1) := by decide +kernel
theorem dX0_isNamed_5 : decode cX0_isNamed 5 = .ok (.iaload, 1) := by decide +kernel
theorem dX0_isNamed_6 : decode cX0_isNamed 6 = .ok (.aload_n 2, 1) := by decide +kernel
theorem dX0_isNamed_7 : decode cX0_isNamed 7 = .ok (.getfield 48, 3) := by decide +kernel
theorem dX0_isNamed_10 : decode cX0_isNamed 10 = .ok (.if_icmp .eq 5, 3) := by decide +kernel
theorem dX0_isNamed_13 : decode cX0_isNamed 13 = .ok (.iconst 0, 1) := by decide +kernel
theorem dX0_isNamed_14 : decode cX0_isNamed 14 = .ok (.ireturn, 1) := by decide +kernel
theorem dX0_isNamed_15 : decode cX0_isNamed 15 = .ok (.iconst 0, 1) := by decide +kernel
theorem dX0_isNamed_16 : decode cX0_isNamed 16 = .ok (.istore_n 3, 1) := by decide +kernel
theorem dX0_isNamed_17 : decode cX0_isNamed 17 = .ok (.iload_n 3, 1) := by decide +kernel
theorem dX0_isNamed_18 : decode cX0_isNamed 18 = .ok (.aload_n 0, 1) := by decide +kernel
theorem dX0_isNamed_19 : decode cX0_isNamed 19 = .ok (.getfield 16, 3) := by decide +kernel
theorem dX0_isNamed_22 : decode cX0_isNamed 22 = .ok (.iload_n 1, 1) := by decide +kernel
theorem dX0_isNamed_23 : decode cX0_isNamed 23 = .ok (.iaload, 1) := by decide +kernel
theorem dX0_isNamed_24 : decode cX0_isNamed 24 = .ok (.if_icmp .ge 27, 3) := by decide +kernel
theorem dX0_isNamed_27 : decode cX0_isNamed 27 = .ok (.aload_n 0, 1) := by decide +kernel
theorem dX0_isNamed_28 : decode cX0_isNamed 28 = .ok (.getfield 11, 3) := by decide +kernel
theorem dX0_isNamed_31 : decode cX0_isNamed 31 = .ok (.iload_n 1, 1) := by decide +kernel
theorem dX0_isNamed_32 : decode cX0_isNamed 32 = .ok (.aaload, 1) := by decide +kernel
theorem dX0_isNamed_33 : decode cX0_isNamed 33 = .ok (.iload_n 3, 1) := by decide +kernel
theorem dX0_isNamed_34 : decode cX0_isNamed 34 = .ok (.baload, 1) := by decide +kernel
theorem dX0_isNamed_35 : decode cX0_isNamed 35 = .ok (.aload_n 2, 1) := by decide +kernel
theorem dX0_isNamed_36 : decode cX0_isNamed 36 = .ok (.iload_n 3, 1) := by decide +kernel
theorem dX0_isNamed_37 : decode cX0_isNamed 37 = .ok (.invokevirtual 99, 3) := by decide +kernel
theorem dX0_isNamed_40 : decode cX0_isNamed 40 = .ok (.if_icmp .eq 5, 3) := by decide +kernel
theorem dX0_isNamed_43 : decode cX0_isNamed 43 = .ok (.iconst 0, 1) := by decide +kernel
theorem dX0_isNamed_44 : decode cX0_isNamed 44 = .ok (.ireturn, 1) := by decide +kernel
theorem dX0_isNamed_45 : decode cX0_isNamed 45 = .ok (.iinc 3 1, 3) := by decide +kernel
theorem dX0_isNamed_48 : decode cX0_isNamed 48 = .ok (.goto (-31), 3) := by decide +kernel
theorem dX0_isNamed_51 : decode cX0_isNamed 51 = .ok (.iconst 1, 1) := by decide +kernel
theorem dX0_isNamed_52 : decode cX0_isNamed 52 = .ok (.ireturn, 1) := by decide +kernel
theorem dX0_compareNames_0 : decode cX0_compareNames 0 = .ok (.iconst 0, 1) := by decide +kernel
theorem dX0_compareNames_1 : decode cX0_compareNames 1 = .ok (.istore_n 3, 1) := by decide +kernel
theorem dX0_compareNames_2 : decode cX0_compareNames 2 = .ok (.iload_n 3, 1) := by decide +kernel
theorem dX0_compareNames_3 : decode cX0_compareNames 3 = .ok (.aload_n 0, 1) := by decide +kernel
theorem dX0_compareNames_4 : decode cX0_compareNames 4 = .ok (.getfield 16, 3) := by decide +kernel
theorem dX0_compareNames_7 : decode cX0_compareNames 7 = .ok (.iload_n 1, 1) := by decide +kernel
theorem dX0_compareNames_8 : decode cX0_compareNames 8 = .ok (.iaload, 1) := by decide +kernel
theorem dX0_compareNames_9 : decode cX0_compareNames 9 = .ok (.if_icmp .ge 56, 3) := by decide +kernel
theorem dX0_compareNames_12 : decode cX0_compareNames 12 = .ok (.iload_n 3, 1) := by decide +kernel
theorem dX0_compareNames_13 : decode cX0_compareNames 13 = .ok (.aload_n 0, 1) := by decide +kernel
theorem dX0_compareNames_14 : decode cX0_compareNames 14 = .ok (.getfield 16, 3) := by decide +kernel
theorem dX0_compareNames_17 : decode cX0_compareNames 17 = .ok (.iload_n 2, 1) := by decide +kernel
theorem dX0_compareNames_18 : decode cX0_compareNames 18 = .ok (.iaload, 1) := by decide +kernel
theorem dX0_compareNames_19 : decode cX0_compareNames 19 = .ok (.if_icmp .ge 46, 3) := by decide +kernel
theorem dX0_compareNames_22 : decode cX0_compareNames 22 = .ok (.aload_n 0, 1) := by decide +kernel
theorem dX0_compareNames_23 : decode cX0_compareNames 23 = .ok (.getfield 11, 3) := by decide +kernel
theorem dX0_compareNames_26 : decode cX0_compareNames 26 = .ok (.iload_n 1, 1) := by decide +kernel
theorem dX0_compareNames_27 : decode cX0_compareNames 27 = .ok (.aaload, 1) := by decide +kernel
theorem dX0_compareNames_28 : decode cX0_compareNames 28 = .ok (.iload_n 3, 1) := by decide +kernel
theorem dX0_compareNames_29 : decode cX0_compareNames 29 = .ok (.baload, 1) := by decide +kernel
theorem dX0_compareNames_30 : decode cX0_compareNames 30 = .ok (.aload_n 0, 1) := by decide +kernel
theorem dX0_compareNames_31 : decode cX0_compareNames 31 = .ok (.getfield 11, 3) := by decide +kernel
theorem dX0_compareNames_34 : decode cX0_compareNames 34 = .ok (.iload_n 2, 1) := by decide +kernel
theorem dX0_compareNames_35 : decode cX0_compareNames 35 = .ok (.aaload, 1) := by decide +kernel
theorem dX0_compareNames_36 : decode cX0_compareNames 36 = .ok (.iload_n 3, 1) := by decide +kernel
theorem dX0_compareNames_37 : decode cX0_compareNames 37 = .ok (.baload, 1) := by decide +kernel
theorem dX0_compareNames_38 : decode cX0_compareNames 38 = .ok (.if_icmp .eq 21, 3) := by decide +kernel
theorem dX0_compareNames_41 : decode cX0_compareNames 41 = .ok (.aload_n 0, 1) := by decide +kernel
theorem dX0_compareNames_42 : decode cX0_compareNames 42 = .ok (.getfield 11, 3) := by decide +kernel
theorem dX0_compareNames_45 : decode cX0_compareNames 45 = .ok (.iload_n 1, 1) := by decide +kernel
theorem dX0_compareNames_46 : decode cX0_compareNames 46 = .ok (.aaload, 1) := by decide +kernel
theorem dX0_compareNames_47 : decode cX0_compareNames 47 = .ok (.iload_n 3, 1) := by decide +kernel
theorem dX0_compareNames_48 : decode cX0_compareNames 48 = .ok (.baload, 1) := by decide +kernel
theorem dX0_compareNames_49 : decode cX0_compareNames 49 = .ok (.aload_n 0, 1) := by decide +kernel
theorem dX0_compareNames_50 : decode cX0_compareNames 50 = .ok (.getfield 11, 3) := by decide +kernel
theorem dX0_compareNames_53 : decode cX0_compareNames 53 = .ok (.iload_n 2, 1) := by decide +kernel
theorem dX0_compareNames_54 : decode cX0_compareNames 54 = .ok (.aaload, 1) := by decide +kernel
theorem dX0_compareNames_55 : decode cX0_compareNames 55 = .ok (.iload_n 3, 1) := by decide +kernel
theorem dX0_compareNames_56 : decode cX0_compareNames 56 = .ok (.baload, 1) := by decide +kernel
theorem dX0_compareNames_57 : decode cX0_compareNames 57 = .ok (.isub, 1) := by decide +kernel
theorem dX0_compareNames_58 : decode cX0_compareNames 58 = .ok (.ireturn, 1) := by decide +kernel
theorem dX0_compareNames_59 : decode cX0_compareNames 59 = .ok (.iinc 3 1, 3) := by decide +kernel
theorem dX0_compareNames_62 : decode cX0_compareNames 62 = .ok (.goto (-60), 3) := by decide +kernel
theorem dX0_compareNames_65 : decode cX0_compareNames 65 = .ok (.aload_n 0, 1) := by decide +kernel
theorem dX0_compareNames_66 : decode cX0_compareNames 66 = .ok (.getfield 16, 3) := by decide +kernel
theorem dX0_compareNames_69 : decode cX0_compareNames 69 = .ok (.iload_n 1, 1) := by decide +kernel
theorem dX0_compareNames_70 : decode cX0_compareNames 70 = .ok (.iaload, 1) := by decide +kernel
theorem dX0_compareNames_71 : decode cX0_compareNames 71 = .ok (.aload_n 0, 1) := by decide +kernel
theorem dX0_compareNames_72 : decode cX0_compareNames 72 = .ok (.getfield 16, 3) := by decide +kernel
theorem dX0_compareNames_75 : decode cX0_compareNames 75 = .ok (.iload_n 2, 1) := by decide +kernel
theorem dX0_compareNames_76 : decode cX0_compareNames 76 = .ok (.iaload, 1) := by decide +kernel
theorem dX0_compareNames_77 : decode cX0_compareNames 77 = .ok (.isub, 1) := by decide +kernel
theorem dX0_compareNames_78 : decode cX0_compareNames 78 = .ok (.ireturn, 1) := by decide +kernel
theorem dX0_placeByName_0 : decode cX0_placeByName 0 = .ok (.iconst 0, 1) := by decide +kernel
theorem dX0_placeByName_1 : decode cX0_placeByName 1 = .ok (.istore_n 2, 1) := by decide +kernel
theorem dX0_placeByName_2 : decode cX0_placeByName 2 = .ok (.iconst 0, 1) := by decide +kernel
theorem dX0_placeByName_3 : decode cX0_placeByName 3 = .ok (.istore_n 3, 1) := by decide +kernel
theorem dX0_placeByName_4 : decode cX0_placeByName 4 = .ok (.iload_n 3, 1) := by decide +kernel
theorem dX0_placeByName_5 : decode cX0_placeByName 5 = .ok (.aload_n 0, 1) := by decide +kernel
theorem dX0_placeByName_6 : decode cX0_placeByName 6 = .ok (.getfield 41, 3) := by decide +kernel
theorem dX0_placeByName_9 : decode cX0_placeByName 9 = .ok (.if_icmp .ge 35, 3) := by decide +kernel
theorem dX0_placeByName_12 : decode cX0_placeByName 12 = .ok (.aload_n 0, 1) := by decide +kernel
theorem dX0_placeByName_13 : decode cX0_placeByName 13 = .ok (.iload_n 3, 1) := by decide +kernel
theorem dX0_placeByName_14 : decode cX0_placeByName 14 = .ok (.iload_n 1, 1) := by decide +kernel
theorem dX0_placeByName_15 : decode cX0_placeByName 15 = .ok (.invokevirtual 102, 3) := by decide +kernel
theorem dX0_placeByName_18 : decode cX0_placeByName 18 = .ok (.istore 4, 2) := by decide +kernel
theorem dX0_placeByName_20 : decode cX0_placeByName 20 = .ok (.iload 4, 2) := by decide +kernel
theorem dX0_placeByName_22 : decode cX0_placeByName 22 = .ok (.ifCond .lt 13, 3) := by decide +kernel
theorem dX0_placeByName_25 : decode cX0_placeByName 25 = .ok (.iload 4, 2) := by decide +kernel
theorem dX0_placeByName_27 : decode cX0_placeByName 27 = .ok (.ifCond .ne 11, 3) := by decide +kernel
theorem dX0_placeByName_30 : decode cX0_placeByName 30 = .ok (.iload_n 3, 1) := by decide +kernel
theorem dX0_placeByName_31 : decode cX0_placeByName 31 = .ok (.iload_n 1, 1) := by decide +kernel
theorem dX0_placeByName_32 : decode cX0_placeByName 32 = .ok (.if_icmp .ge 6, 3) := by decide +kernel
theorem dX0_placeByName_35 : decode cX0_placeByName 35 = .ok (.iinc 2 1, 3) := by decide +kernel
theorem dX0_placeByName_38 : decode cX0_placeByName 38 = .ok (.iinc 3 1, 3) := by decide +kernel
theorem dX0_placeByName_41 : decode cX0_placeByName 41 = .ok (.goto (-37), 3) := by decide +kernel
theorem dX0_placeByName_44 : decode cX0_placeByName 44 = .ok (.iload_n 2, 1) := by decide +kernel
theorem dX0_placeByName_45 : decode cX0_placeByName 45 = .ok (.ireturn, 1) := by decide +kernel
theorem dX0_unlikeNames_0 : decode cX0_unlikeNames 0 = .ok (.iconst 0, 1) := by decide +kernel
theorem dX0_unlikeNames_1 : decode cX0_unlikeNames 1 = .ok (.istore_n 1, 1) := by decide +kernel
theorem dX0_unlikeNames_2 : decode cX0_unlikeNames 2 = .ok (.iconst 0, 1) := by decide +kernel
theorem dX0_unlikeNames_3 : decode cX0_unlikeNames 3 = .ok (.istore_n 2, 1) := by decide +kernel
theorem dX0_unlikeNames_4 : decode cX0_unlikeNames 4 = .ok (.iload_n 2, 1) := by decide +kernel
theorem dX0_unlikeNames_5 : decode cX0_unlikeNames 5 = .ok (.aload_n 0, 1) := by decide +kernel
theorem dX0_unlikeNames_6 : decode cX0_unlikeNames 6 = .ok (.getfield 41, 3) := by decide +kernel
theorem dX0_unlikeNames_9 : decode cX0_unlikeNames 9 = .ok (.if_icmp .ge 58, 3) := by decide +kernel
theorem dX0_unlikeNames_12 : decode cX0_unlikeNames 12 = .ok (.iconst 1, 1) := by decide +kernel
theorem dX0_unlikeNames_13 : decode cX0_unlikeNames 13 = .ok (.istore_n 3, 1) := by decide +kernel
theorem dX0_unlikeNames_14 : decode cX0_unlikeNames 14 = .ok (.iconst 0, 1) := by decide +kernel
theorem dX0_unlikeNames_15 : decode cX0_unlikeNames 15 = .ok (.istore 4, 2) := by decide +kernel
theorem dX0_unlikeNames_17 : decode cX0_unlikeNames 17 = .ok (.iload 4, 2) := by decide +kernel
theorem dX0_unlikeNames_19 : decode cX0_unlikeNames 19 = .ok (.iload_n 2, 1) := by decide +kernel
theorem dX0_unlikeNames_20 : decode cX0_unlikeNames 20 = .ok (.if_icmp .ge 29, 3) := by decide +kernel
theorem dX0_unlikeNames_23 : decode cX0_unlikeNames 23 = .ok (.iload_n 3, 1) := by decide +kernel
theorem dX0_unlikeNames_24 : decode cX0_unlikeNames 24 = .ok (.ifCond .eq 17, 3) := by decide +kernel
theorem dX0_unlikeNames_27 : decode cX0_unlikeNames 27 = .ok (.aload_n 0, 1) := by decide +kernel
theorem dX0_unlikeNames_28 : decode cX0_unlikeNames 28 = .ok (.iload 4, 2) := by decide +kernel
theorem dX0_unlikeNames_30 : decode cX0_unlikeNames 30 = .ok (.iload_n 2, 1) := by decide +kernel
theorem dX0_unlikeNames_31 : decode cX0_unlikeNames 31 = .ok (.invokevirtual 102, 3) := by decide +kernel
theorem dX0_unlikeNames_34 : decode cX0_unlikeNames 34 = .ok (.ifCond .eq 7, 3) := by decide +kernel
theorem dX0_unlikeNames_37 : decode cX0_unlikeNames 37 = .ok (.iconst 1, 1) := by decide +kernel
theorem dX0_unlikeNames_38 : decode cX0_unlikeNames 38 = .ok (.goto 4, 3) := by decide +kernel
theorem dX0_unlikeNames_41 : decode cX0_unlikeNames 41 = .ok (.iconst 0, 1) := by decide +kernel
theorem dX0_unlikeNames_42 : decode cX0_unlikeNames 42 = .ok (.istore_n 3, 1) := by decide +kernel
theorem dX0_unlikeNames_43 : decode cX0_unlikeNames 43 = .ok (.iinc 4 1, 3) := by decide +kernel
theorem dX0_unlikeNames_46 : decode cX0_unlikeNames 46 = .ok (.goto (-29), 3) := by decide +kernel
theorem dX0_unlikeNames_49 : decode cX0_unlikeNames 49 = .ok (.iload_n 1, 1) := by decide +kernel
theorem dX0_unlikeNames_50 : decode cX0_unlikeNames 50 = .ok (.iload_n 3, 1) := by decide +kernel
theorem dX0_unlikeNames_51 : decode cX0_unlikeNames 51 = .ok (.ifCond .eq 7, 3) := by decide +kernel
theorem dX0_unlikeNames_54 : decode cX0_unlikeNames 54 = .ok (.iconst 1, 1) := by decide +kernel
theorem dX0_unlikeNames_55 : decode cX0_unlikeNames 55 = .ok (.goto 4, 3) := by decide +kernel
theorem dX0_unlikeNames_58 : decode cX0_unlikeNames 58 = .ok (.iconst 0, 1) := by decide +kernel
theorem dX0_unlikeNames_59 : decode cX0_unlikeNames 59 = .ok (.iadd, 1) := by decide +kernel
theorem dX0_unlikeNames_60 : decode cX0_unlikeNames 60 = .ok (.istore_n 1, 1) := by decide +kernel
theorem dX0_unlikeNames_61 : decode cX0_unlikeNames 61 = .ok (.iinc 2 1, 3) := by decide +kernel
theorem dX0_unlikeNames_64 : decode cX0_unlikeNames 64 = .ok (.goto (-60), 3) := by decide +kernel
theorem dX0_unlikeNames_67 : decode cX0_unlikeNames 67 = .ok (.iload_n 1, 1) := by decide +kernel
theorem dX0_unlikeNames_68 : decode cX0_unlikeNames 68 = .ok (.ireturn, 1) := by decide +kernel
theorem dX1_init_0 : decode cX1_init 0 = .ok (.aload_n 0, 1) := by decide +kernel
theorem dX1_init_1 : decode cX1_init 1 = .ok (.invokespecial 3, 3) := by decide +kernel
theorem dX1_init_4 : decode cX1_init 4 = .ok (.aload_n 0, 1) := by decide +kernel
theorem dX1_init_5 : decode cX1_init 5 = .ok (.bipush 30, 2) := by decide +kernel
theorem dX1_init_7 : decode cX1_init 7 = .ok (.newarray .int, 2) := by decide +kernel
theorem dX1_init_9 : decode cX1_init 9 = .ok (.putfield 9, 3) := by decide +kernel
theorem dX1_init_12 : decode cX1_init 12 = .ok (.aload_n 0, 1) := by decide +kernel
theorem dX1_init_13 : decode cX1_init 13 = .ok (.bipush 30, 2) := by decide +kernel
theorem dX1_init_15 : decode cX1_init 15 = .ok (.newarray .int, 2) := by decide +kernel
theorem dX1_init_17 : decode cX1_init 17 = .ok (.putfield 15, 3) := by decide +kernel
theorem dX1_init_20 : decode cX1_init 20 = .ok (.aload_n 0, 1) := by decide +kernel
theorem dX1_init_21 : decode cX1_init 21 = .ok (.bipush 30, 2) := by decide +kernel
theorem dX1_init_23 : decode cX1_init 23 = .ok (.newarray .int, 2) := by decide +kernel
theorem dX1_init_25 : decode cX1_init 25 = .ok (.putfield 18, 3) := by decide +kernel
theorem dX1_init_28 : decode cX1_init 28 = .ok (.aload_n 0, 1) := by decide +kernel
theorem dX1_init_29 : decode cX1_init 29 = .ok (.bipush 30, 2) := by decide +kernel
theorem dX1_init_31 : decode cX1_init 31 = .ok (.newarray .int, 2) := by decide +kernel
theorem dX1_init_33 : decode cX1_init 33 = .ok (.putfield 21, 3) := by decide +kernel
theorem dX1_init_36 : decode cX1_init 36 = .ok (.aload_n 0, 1) := by decide +kernel
theorem dX1_init_37 : decode cX1_init 37 = .ok (.bipush 30, 2) := by decide +kernel
theorem dX1_init_39 : decode cX1_init 39 = .ok (.newarray .int, 2) := by decide +kernel
theorem dX1_init_41 : decode cX1_init 41 = .ok (.putfield 24, 3) := by decide +kernel
theorem dX1_init_44 : decode cX1_init 44 = .ok (.aload_n 0, 1) := by decide +kernel
theorem dX1_init_45 : decode cX1_init 45 = .ok (.bipush 30, 2) := by decide +kernel
theorem dX1_init_47 : decode cX1_init 47 = .ok (.newarray .int, 2) := by decide +kernel
theorem dX1_init_49 : decode cX1_init 49 = .ok (.putfield 27, 3) := by decide +kernel
theorem dX1_init_52 : decode cX1_init 52 = .ok (.aload_n 0, 1) := by decide +kernel
theorem dX1_init_53 : decode cX1_init 53 = .ok (.bipush 30, 2) := by decide +kernel
theorem dX1_init_55 : decode cX1_init 55 = .ok (.newarray .int, 2) := by decide +kernel
theorem dX1_init_57 : decode cX1_init 57 = .ok (.putfield 30, 3) := by decide +kernel
theorem dX1_init_60 : decode cX1_init 60 = .ok (.aload_n 0, 1) := by decide +kernel
theorem dX1_init_61 : decode cX1_init 61 = .ok (.bipush 30, 2) := by decide +kernel
theorem dX1_init_63 : decode cX1_init 63 = .ok (.newarray .int, 2) := by decide +kernel
theorem dX1_init_65 : decode cX1_init 65 = .ok (.putfield 33, 3) := by decide +kernel
theorem dX1_init_68 : decode cX1_init 68 = .ok (.aload_n 0, 1) := by decide +kernel
theorem dX1_init_69 : decode cX1_init 69 = .ok (.bipush 30, 2) := by decide +kernel
theorem dX1_init_71 : decode cX1_init 71 = .ok (.newarray .int, 2) := by decide +kernel
theorem dX1_init_73 : decode cX1_init 73 = .ok (.putfield 36, 3) := by decide +kernel
theorem dX1_init_76 : decode cX1_init 76 = .ok (.aload_n 0, 1) := by decide +kernel
theorem dX1_init_77 : decode cX1_init 77 = .ok (.bipush 30, 2) := by decide +kernel
theorem dX1_init_79 : decode cX1_init 79 = .ok (.newarray .int, 2) := by decide +kernel
theorem dX1_init_81 : decode cX1_init 81 = .ok (.putfield 39, 3) := by decide +kernel
theorem dX1_init_84 : decode cX1_init 84 = .ok (.return_, 1) := by decide +kernel
theorem dX1_has_0 : decode cX1_has 0 = .ok (.iload_n 0, 1) := by decide +kernel
theorem dX1_has_1 : decode cX1_has 1 = .ok (.iload_n 1, 1) := by decide +kernel
theorem dX1_has_2 : decode cX1_has 2 = .ok (.iushr, 1) := by decide +kernel
theorem dX1_has_3 : decode cX1_has 3 = .ok (.iconst 1, 1) := by decide +kernel
theorem dX1_has_4 : decode cX1_has 4 = .ok (.iand, 1) := by decide +kernel
theorem dX1_has_5 : decode cX1_has 5 = .ok (.ifCond .eq 7, 3) := by decide +kernel
theorem dX1_has_8 : decode cX1_has 8 = .ok (.iconst 1, 1) := by decide +kernel
theorem dX1_has_9 : decode cX1_has 9 = .ok (.goto 4, 3) := by decide +kernel
theorem dX1_has_12 : decode cX1_has 12 = .ok (.iconst 0, 1) := by decide +kernel
theorem dX1_has_13 : decode cX1_has 13 = .ok (.ireturn, 1) := by decide +kernel
theorem dX1_least_0 : decode cX1_least 0 = .ok (.iconst 0, 1) := by decide +kernel
theorem dX1_least_1 : decode cX1_least 1 = .ok (.istore_n 1, 1) := by decide +kernel
theorem dX1_least_2 : decode cX1_least 2 = .ok (.iload_n 1, 1) := by decide +kernel
theorem dX1_least_3 : decode cX1_least 3 = .ok (.bipush 30, 2) := by decide +kernel
theorem dX1_least_5 : decode cX1_least 5 = .ok (.if_icmp .ge 19, 3) := by decide +kernel
theorem dX1_least_8 : decode cX1_least 8 = .ok (.iload_n 0, 1) := by decide +kernel
theorem dX1_least_9 : decode cX1_least 9 = .ok (.iload_n 1, 1) := by decide +kernel
theorem dX1_least_10 : decode cX1_least 10 = .ok (.invokestatic 42, 3) := by decide +kernel
theorem dX1_least_13 : decode cX1_least 13 = .ok (.ifCond .eq 5, 3) := by decide +kernel
theorem dX1_least_16 : decode cX1_least 16 = .ok (.iload_n 1, 1) := by decide +kernel
theorem dX1_least_17 : decode cX1_least 17 = .ok (.ireturn, 1) := by decide +kernel
theorem dX1_least_18 : decode cX1_least 18 = .ok (.iinc 1 1, 3) := by decide +kernel
theorem dX1_least_21 : decode cX1_least 21 = .ok (.goto (-19), 3) := by decide +kernel
theorem dX1_least_24 : decode cX1_least 24 = .ok (.bipush (-5), 2) := by decide +kernel
theorem dX1_least_26 : decode cX1_least 26 = .ok (.ireturn, 1) := by decide +kernel
theorem dX1_gather_0 : decode cX1_gather 0 = .ok (.aload_n 0, 1) := by decide +kernel
theorem dX1_gather_1 : decode cX1_gather 1 = .ok (.invokevirtual 46, 3) := by decide +kernel
theorem dX1_gather_4 : decode cX1_gather 4 = .ok (.aload_n 0, 1) := by decide +kernel
theorem dX1_gather_5 : decode cX1_gather 5 = .ok (.aload_n 1, 1) := by decide +kernel
theorem dX1_gather_6 : decode cX1_gather 6 = .ok (.aload_n 2, 1) := by decide +kernel
theorem dX1_gather_7 : decode cX1_gather 7 = .ok (.iload_n 3, 1) := by decide +kernel
theorem dX1_gather_8 : decode cX1_gather 8 = .ok (.invokevirtual 49, 3) := by decide +kernel
theorem dX1_gather_11 : decode cX1_gather 11 = .ok (.iconst 0, 1) := by decide +kernel
theorem dX1_gather_12 : decode cX1_gather 12 = .ok (.istore 4, 2) := by decide +kernel
theorem dX1_gather_14 : decode cX1_gather 14 = .ok (.iload 4, 2) := by decide +kernel
theorem dX1_gather_16 : decode cX1_gather 16 = .ok (.aload_n 1, 1) := by decide +kernel
theorem dX1_gather_17 : decode cX1_gather 17 = .ok (.getfield 53, 3) := by decide +kernel
theorem dX1_gather_20 : decode cX1_gather 20 = .ok (.if_icmp .ge 59, 3) := by decide +kernel
theorem dX1_gather_23 : decode cX1_gather 23 = .ok (.aload_n 0, 1) := by decide +kernel
theorem dX1_gather_24 : decode cX1_gather 24 = .ok (.getfield 9, 3) := by decide +kernel
theorem dX1_gather_27 : decode cX1_gather 27 = .ok (.iload 4, 2) := by decide +kernel
theorem dX1_gather_29 : decode cX1_gather 29 = .ok (.iaload, 1) := by decide +kernel
theorem dX1_gather_30 : decode cX1_gather 30 = .ok (.istore 5, 2) := by decide +kernel
theorem dX1_gather_32 : decode cX1_gather 32 = .ok (.aload_n 0, 1) := by decide +kernel
theorem dX1_gather_33 : decode cX1_gather 33 = .ok (.dup, 1) := by decide +kernel
theorem dX1_gather_34 : decode cX1_gather 34 = .ok (.getfield 59, 3) := by decide +kernel
theorem dX1_gather_37 : decode cX1_gather 37 = .ok (.iconst 1, 1) := by decide +kernel
theorem dX1_gather_38 : decode cX1_gather 38 = .ok (.iload 5, 2) := by decide +kernel
theorem dX1_gather_40 : decode cX1_gather 40 = .ok (.ishl, 1) := by decide +kernel
theorem dX1_gather_41 : decode cX1_gather 41 = .ok (.ior, 1) := by decide +kernel
theorem dX1_gather_42 : decode cX1_gather 42 = .ok (.putfield 59, 3) := by decide +kernel
theorem dX1_gather_45 : decode cX1_gather 45 = .ok (.aload_n 0, 1) := by decide +kernel
theorem dX1_gather_46 : decode cX1_gather 46 = .ok (.getfield 15, 3) := by decide +kernel
theorem dX1_gather_49 : decode cX1_gather 49 = .ok (.iload 5, 2) := by decide +kernel
theorem dX1_gather_51 : decode cX1_gather 51 = .ok (.dup2, 1) := by decide +kernel
theorem dX1_gather_52 : decode cX1_gather 52 = .ok (.iaload, 1) := by decide +kernel
theorem dX1_gather_53 : decode cX1_gather 53 = .ok (.iconst 1, 1) := by decide +kernel
theorem dX1_gather_54 : decode cX1_gather 54 = .ok (.iadd, 1) := by decide +kernel
theorem dX1_gather_55 : decode cX1_gather 55 = .ok (.iastore, 1) := by decide +kernel
theorem dX1_gather_56 : decode cX1_gather 56 = .ok (.aload_n 0, 1) := by decide +kernel
theorem dX1_gather_57 : decode cX1_gather 57 = .ok (.getfield 18, 3) := by decide +kernel
theorem dX1_gather_60 : decode cX1_gather 60 = .ok (.iload 5, 2) := by decide +kernel
theorem dX1_gather_62 : decode cX1_gather 62 = .ok (.dup2, 1) := by decide +kernel
theorem dX1_gather_63 : decode cX1_gather 63 = .ok (.iaload, 1) := by decide +kernel
theorem dX1_gather_64 : decode cX1_gather 64 = .ok (.aload_n 1, 1) := by decide +kernel
theorem dX1_gather_65 : decode cX1_gather 65 = .ok (.getfield 62, 3) := by decide +kernel
theorem dX1_gather_68 : decode cX1_gather 68 = .ok (.iload 4, 2) := by decide +kernel
theorem dX1_gather_70 : decode cX1_gather 70 = .ok (.iaload, 1) := by decide +kernel
theorem dX1_gather_71 : decode cX1_gather 71 = .ok (.ior, 1) := by decide +kernel
theorem dX1_gather_72 : decode cX1_gather 72 = .ok (.iastore, 1) := by decide +kernel
theorem dX1_gather_73 : decode cX1_gather 73 = .ok (.iinc 4 1, 3) := by decide +kernel
theorem dX1_gather_76 : decode cX1_gather 76 = .ok (.goto (-62), 3) := by decide +kernel
theorem dX1_gather_79 : decode cX1_gather 79 = .ok (.aload_n 0, 1) := by decide +kernel
theorem dX1_gather_80 : decode cX1_gather 80 = .ok (.aload_n 0, 1) := by decide +kernel
theorem dX1_gather_81 : decode cX1_gather 81 = .ok (.getfield 59, 3) := by decide +kernel
theorem dX1_gather_84 : decode cX1_gather 84 = .ok (.invokestatic 63, 3) := by decide +kernel
theorem dX1_gather_87 : decode cX1_gather 87 = .ok (.putfield 69, 3) := by decide +kernel
theorem dX1_gather_90 : decode cX1_gather 90 = .ok (.iconst 0, 1) := by decide +kernel
theorem dX1_gather_91 : decode cX1_gather 91 = .ok (.istore 4, 2) := by decide +kernel
theorem dX1_gather_93 : decode cX1_gather 93 = .ok (.iload 4, 2) := by decide +kernel
theorem dX1_gather_95 : decode cX1_gather 95 = .ok (.iload_n 3, 1) := by decide +kernel
theorem dX1_gather_96 : decode cX1_gather 96 = .ok (.if_icmp .ge 18, 3) := by decide +kernel
theorem dX1_gather_99 : decode cX1_gather 99 = .ok (.aload_n 0, 1) := by decide +kernel
theorem dX1_gather_100 : decode cX1_gather 100 = .ok (.aload_n 1, 1) := by decide +kernel
theorem dX1_gather_101 : decode cX1_gather 101 = .ok (.aload_n 2, 1) := by decide +kernel
theorem dX1_gather_102 : decode cX1_gather 102 = .ok (.iload 4, 2) := by decide +kernel
theorem dX1_gather_104 : decode cX1_gather 104 = .ok (.iaload, 1) := by decide +kernel
theorem dX1_gather_105 : decode cX1_gather 105 = .ok (.invokevirtual 72, 3) := by decide +kernel
theorem dX1_gather_108 : decode cX1_gather 108 = .ok (.iinc 4 1, 3) := by decide +kernel
theorem dX1_gather_111 : decode cX1_gather 111 = .ok (.goto (-18), 3) := by decide +kernel
theorem dX1_gather_114 : decode cX1_gather 114 = .ok (.aload_n 0, 1) := by decide +kernel
theorem dX1_gather_115 : decode cX1_gather 115 = .ok (.invokevirtual 76, 3) := by decide +kernel
theorem dX1_gather_118 : decode cX1_gather 118 = .ok (.return_, 1) := by decide +kernel
theorem dX1_wipe_0 : decode cX1_wipe 0 = .ok (.aload_n 0, 1) := by decide +kernel
theorem dX1_wipe_1 : decode cX1_wipe 1 = .ok (.iconst 0, 1) := by decide +kernel
theorem dX1_wipe_2 : decode cX1_wipe 2 = .ok (.putfield 59, 3) := by decide +kernel
theorem dX1_wipe_5 : decode cX1_wipe 5 = .ok (.iconst 0, 1) := by decide +kernel
theorem dX1_wipe_6 : decode cX1_wipe 6 = .ok (.istore_n 1, 1) := by decide +kernel
theorem dX1_wipe_7 : decode cX1_wipe 7 = .ok (.iload_n 1, 1) := by decide +kernel
theorem dX1_wipe_8 : decode cX1_wipe 8 = .ok (.bipush 30, 2) := by decide +kernel
theorem dX1_wipe_10 : decode cX1_wipe 10 = .ok (.if_icmp .ge 72, 3) := by decide +kernel
theorem dX1_wipe_13 : decode cX1_wipe 13 = .ok (.aload_n 0, 1) := by decide +kernel
theorem dX1_wipe_14 : decode cX1_wipe 14 = .ok (.getfield 9, 3) := by decide +kernel
theorem dX1_wipe_17 : decode cX1_wipe 17 = .ok (.iload_n 1, 1) := by decide +kernel
theorem dX1_wipe_18 : decode cX1_wipe 18 = .ok (.iload_n 1, 1) := by decide +kernel
theorem dX1_wipe_19 : decode cX1_wipe 19 = .ok (.iastore, 1) := by decide +kernel
theorem dX1_wipe_20 : decode cX1_wipe 20 = .ok (.aload_n 0, 1) := by decide +kernel
theorem dX1_wipe_21 : decode cX1_wipe 21 = .ok (.getfield 15, 3) := by decide +kernel
theorem dX1_wipe_24 : decode cX1_wipe 24 = .ok (.iload_n 1, 1) := by decide +kernel
theorem dX1_wipe_25 : decode cX1_wipe 25 = .ok (.iconst 0, 1) := by decide +kernel
theorem dX1_wipe_26 : decode cX1_wipe 26 = .ok (.iastore, 1) := by decide +kernel
theorem dX1_wipe_27 : decode cX1_wipe 27 = .ok (.aload_n 0, 1) := by decide +kernel
theorem dX1_wipe_28 : decode cX1_wipe 28 = .ok (.getfield 18, 3) := by decide +kernel
theorem dX1_wipe_31 : decode cX1_wipe 31 = .ok (.iload_n 1, 1) := by decide +kernel
theorem dX1_wipe_32 : decode cX1_wipe 32 = .ok (.iconst 0, 1) := by decide +kernel
theorem dX1_wipe_33 : decode cX1_wipe 33 = .ok (.iastore, 1) := by decide +kernel
theorem dX1_wipe_34 : decode cX1_wipe 34 = .ok (.aload_n 0, 1) := by decide +kernel
theorem dX1_wipe_35 : decode cX1_wipe 35 = .ok (.getfield 21, 3) := by decide +kernel
theorem dX1_wipe_38 : decode cX1_wipe 38 = .ok (.iload_n 1, 1) := by decide +kernel
theorem dX1_wipe_39 : decode cX1_wipe 39 = .ok (.iconst 0, 1) := by decide +kernel
theorem dX1_wipe_40 : decode cX1_wipe 40 = .ok (.iastore, 1) := by decide +kernel
theorem dX1_wipe_41 : decode cX1_wipe 41 = .ok (.aload_n 0, 1) := by decide +kernel
theorem dX1_wipe_42 : decode cX1_wipe 42 = .ok (.getfield 24, 3) := by decide +kernel
theorem dX1_wipe_45 : decode cX1_wipe 45 = .ok (.iload_n 1, 1) := by decide +kernel
theorem dX1_wipe_46 : decode cX1_wipe 46 = .ok (.iconst 0, 1) := by decide +kernel
theorem dX1_wipe_47 : decode cX1_wipe 47 = .ok (.iastore, 1) := by decide +kernel
theorem dX1_wipe_48 : decode cX1_wipe 48 = .ok (.aload_n 0, 1) := by decide +kernel
theorem dX1_wipe_49 : decode cX1_wipe 49 = .ok (.getfield 27, 3) := by decide +kernel
theorem dX1_wipe_52 : decode cX1_wipe 52 = .ok (.iload_n 1, 1) := by decide +kernel
theorem dX1_wipe_53 : decode cX1_wipe 53 = .ok (.iconst 0, 1) := by decide +kernel
theorem dX1_wipe_54 : decode cX1_wipe 54 = .ok (.iastore, 1) := by decide +kernel
theorem dX1_wipe_55 : decode cX1_wipe 55 = .ok (.aload_n 0, 1) := by decide +kernel
theorem dX1_wipe_56 : decode cX1_wipe 56 = .ok (.getfield 33, 3) := by decide +kernel
theorem dX1_wipe_59 : decode cX1_wipe 59 = .ok (.iload_n 1, 1) := by decide +kernel
theorem dX1_wipe_60 : decode cX1_wipe 60 = .ok (.iconst 0, 1) := by decide +kernel
theorem dX1_wipe_61 : decode cX1_wipe 61 = .ok (.iastore, 1) := by decide +kernel
theorem dX1_wipe_62 : decode cX1_wipe 62 = .ok (.aload_n 0, 1) := by decide +kernel
theorem dX1_wipe_63 : decode cX1_wipe 63 = .ok (.getfield 36, 3) := by decide +kernel
theorem dX1_wipe_66 : decode cX1_wipe 66 = .ok (.iload_n 1, 1) := by decide +kernel
theorem dX1_wipe_67 : decode cX1_wipe 67 = .ok (.iconst 0, 1) := by decide +kernel
theorem dX1_wipe_68 : decode cX1_wipe 68 = .ok (.iastore, 1) := by decide +kernel
theorem dX1_wipe_69 : decode cX1_wipe 69 = .ok (.aload_n 0, 1) := by decide +kernel
theorem dX1_wipe_70 : decode cX1_wipe 70 = .ok (.getfield 39, 3) := by decide +kernel
theorem dX1_wipe_73 : decode cX1_wipe 73 = .ok (.iload_n 1, 1) := by decide +kernel
theorem dX1_wipe_74 : decode cX1_wipe 74 = .ok (.iconst 0, 1) := by decide +kernel
theorem dX1_wipe_75 : decode cX1_wipe 75 = .ok (.iastore, 1) := by decide +kernel
theorem dX1_wipe_76 : decode cX1_wipe 76 = .ok (.iinc 1 1, 3) := by decide +kernel
theorem dX1_wipe_79 : decode cX1_wipe 79 = .ok (.goto (-72), 3) := by decide +kernel
theorem dX1_wipe_82 : decode cX1_wipe 82 = .ok (.return_, 1) := by decide +kernel
theorem dX1_joinSames_0 : decode cX1_joinSames 0 = .ok (.iconst 0, 1) := by decide +kernel
theorem dX1_joinSames_1 : decode cX1_joinSames 1 = .ok (.istore 4, 2) := by decide +kernel
theorem dX1_joinSames_3 : decode cX1_joinSames 3 = .ok (.iload 4, 2) := by decide +kernel
theorem dX1_joinSames_5 : decode cX1_joinSames 5 = .ok (.iload_n 3, 1) := by decide +kernel
theorem dX1_joinSames_6 : decode cX1_joinSames 6 = .ok (.if_icmp .ge 76, 3) := by decide +kernel
theorem dX1_joinSames_9 : decode cX1_joinSames 9 = .ok (.aload_n 2, 1) := by decide +kernel
theorem dX1_joinSames_10 : decode cX1_joinSames 10 = .ok (.iload 4, 2) := by decide +kernel
theorem dX1_joinSames_12 : decode cX1_joinSames 12 = .ok (.iaload, 1) := by decide +kernel
theorem dX1_joinSames_13 : decode cX1_joinSames 13 = .ok (.istore 5, 2) := by decide +kernel
theorem dX1_joinSames_15 : decode cX1_joinSames 15 = .ok (.aload_n 1, 1) := by decide +kernel
theorem dX1_joinSames_16 : decode cX1_joinSames 16 = .ok (.getfield 79, 3) := by decide +kernel
theorem dX1_joinSames_19 : decode cX1_joinSames 19 = .ok (.iload 5, 2) := by decide +kernel
theorem dX1_joinSames_21 : decode cX1_joinSames 21 = .ok (.iaload, 1) := by decide +kernel
theorem dX1_joinSames_22 : decode cX1_joinSames 22 = .ok (.iconst 5, 1) := by decide +kernel
theorem dX1_joinSames_23 : decode cX1_joinSames 23 = .ok (.if_icmp .ne 53, 3) := by decide +kernel
theorem dX1_joinSames_26 : decode cX1_joinSames 26 = .ok (.aload_n 0, 1) := by decide +kernel
theorem dX1_joinSames_27 : decode cX1_joinSames 27 = .ok (.getfield 9, 3) := by decide +kernel
theorem dX1_joinSames_30 : decode cX1_joinSames 30 = .ok (.aload_n 1, 1) := by decide +kernel
theorem dX1_joinSames_31 : decode cX1_joinSames 31 = .ok (.getfield 82, 3) := by decide +kernel
theorem dX1_joinSames_34 : decode cX1_joinSames 34 = .ok (.iload 5, 2) := by decide +kernel
theorem dX1_joinSames_36 : decode cX1_joinSames 36 = .ok (.iaload, 1) := by decide +kernel
theorem dX1_joinSames_37 : decode cX1_joinSames 37 = .ok (.iaload, 1) := by decide +kernel
theorem dX1_joinSames_38 : decode cX1_joinSames 38 = .ok (.istore 6, 2) := by decide +kernel
theorem dX1_joinSames_40 : decode cX1_joinSames 40 = .ok (.aload_n 0, 1) := by decide +kernel
theorem dX1_joinSames_41 : decode cX1_joinSames 41 = .ok (.getfield 9, 3) := by decide +kernel
theorem dX1_joinSames_44 : decode cX1_joinSames 44 = .ok (.aload_n 1, 1) := by decide +kernel
theorem dX1_joinSames_45 : decode cX1_joinSames 45 = .ok (.getfield 85, 3) := by decide +kernel
theorem dX1_joinSames_48 : decode cX1_joinSames 48 = .ok (.iload 5, 2) := by decide +kernel
theorem dX1_joinSames_50 : decode cX1_joinSames 50 = .ok (.iaload, 1) := by decide +kernel
theorem dX1_joinSames_51 : decode cX1_joinSames 51 = .ok (.iaload, 1) := by decide +kernel
theorem dX1_joinSames_52 : decode cX1_joinSames 52 = .ok (.istore 7, 2) := by decide +kernel
theorem dX1_joinSames_54 : decode cX1_joinSames 54 = .ok (.aload_n 0, 1) := by decide +kernel
theorem dX1_joinSames_55 : decode cX1_joinSames 55 = .ok (.iload 6, 2) := by decide +kernel
theorem dX1_joinSames_57 : decode cX1_joinSames 57 = .ok (.iload 7, 2) := by decide +kernel
theorem dX1_joinSames_59 : decode cX1_joinSames 59 = .ok (.invokestatic 88, 3) := by decide +kernel
theorem dX1_joinSames_62 : decode cX1_joinSames 62 = .ok (.iload 6, 2) := by decide +kernel
theorem dX1_joinSames_64 : decode cX1_joinSames 64 = .ok (.iload 7, 2) := by decide +kernel
theorem dX1_joinSames_66 : decode cX1_joinSames 66 = .ok (.invokestatic 94, 3) := by decide +kernel
theorem dX1_joinSames_69 : decode cX1_joinSames 69 = .ok (.aload_n 1, 1) := by decide +kernel
theorem dX1_joinSames_70 : decode cX1_joinSames 70 = .ok (.getfield 53, 3) := by decide +kernel
theorem dX1_joinSames_73 : decode cX1_joinSames 73 = .ok (.invokevirtual 97, 3) := by decide +kernel
theorem dX1_joinSames_76 : decode cX1_joinSames 76 = .ok (.iinc 4 1, 3) := by decide +kernel
theorem dX1_joinSames_79 : decode cX1_joinSames 79 = .ok (.goto (-76), 3) := by decide +kernel
theorem dX1_joinSames_82 : decode cX1_joinSames 82 = .ok (.return_, 1) := by decide +kernel
theorem dX1_rename_0 : decode cX1_rename 0 = .ok (.iconst 0, 1) := by decide +kernel
theorem dX1_rename_1 : decode cX1_rename 1 = .ok (.istore 4, 2) := by decide +kernel
theorem dX1_rename_3 : decode cX1_rename 3 = .ok (.iload 4, 2) := by decide +kernel
theorem dX1_rename_5 : decode cX1_rename 5 = .ok (.iload_n 3, 1) := by decide +kernel
theorem dX1_rename_6 : decode cX1_rename 6 = .ok (.if_icmp .ge 28, 3) := by decide +kernel
theorem dX1_rename_9 : decode cX1_rename 9 = .ok (.aload_n 0, 1) := by decide +kernel
theorem dX1_rename_10 : decode cX1_rename 10 = .ok (.getfield 9, 3) := by decide +kernel
theorem dX1_rename_13 : decode cX1_rename 13 = .ok (.iload 4, 2) := by decide +kernel
theorem dX1_rename_15 : decode cX1_rename 15 = .ok (.iaload, 1) := by decide +kernel
theorem dX1_rename_16 : decode cX1_rename 16 = .ok (.iload_n 1, 1) := by decide +kernel
theorem dX1_rename_17 : decode cX1_rename 17 = .ok (.if_icmp .ne 11, 3) := by decide +kernel
theorem dX1_rename_20 : decode cX1_rename 20 = .ok (.aload_n 0, 1) := by decide +kernel
theorem dX1_rename_21 : decode cX1_rename 21 = .ok (.getfield 9, 3) := by decide +kernel
theorem dX1_rename_24 : decode cX1_rename 24 = .ok (.iload 4, 2) := by decide +kernel
theorem dX1_rename_26 : decode cX1_rename 26 = .ok (.iload_n 2, 1) := by decide +kernel
theorem dX1_rename_27 : decode cX1_rename 27 = .ok (.iastore, 1) := by decide +kernel
theorem dX1_rename_28 : decode cX1_rename 28 = .ok (.iinc 4 1, 3) := by decide +kernel
theorem dX1_rename_31 : decode cX1_rename 31 = .ok (.goto (-28), 3) := by decide +kernel
theorem dX1_rename_34 : decode cX1_rename 34 = .ok (.return_, 1) := by decide +kernel
theorem dX1_hear_0 : decode cX1_hear 0 = .ok (.aload_n 1, 1) := by decide +kernel
theorem dX1_hear_1 : decode cX1_hear 1 = .ok (.getfield 79, 3) := by decide +kernel
theorem dX1_hear_4 : decode cX1_hear 4 = .ok (.iload_n 2, 1) := by decide +kernel
theorem dX1_hear_5 : decode cX1_hear 5 = .ok (.iaload, 1) := by decide +kernel
theorem dX1_hear_6 : decode cX1_hear 6 = .ok (.istore_n 3, 1) := by decide +kernel
theorem dX1_hear_7 : decode cX1_hear 7 = .ok (.iload_n 3, 1) := by decide +kernel
theorem dX1_hear_8 : decode cX1_hear 8 = .ok (.iconst 2, 1) := by decide +kernel
theorem dX1_hear_9 : decode cX1_hear 9 = .ok (.if_icmp .eq 14, 3) := by decide +kernel
theorem dX1_hear_12 : decode cX1_hear 12 = .ok (.iload_n 3, 1) := by decide +kernel
theorem dX1_hear_13 : decode cX1_hear 13 = .ok (.iconst 3, 1) := by decide +kernel
theorem dX1_hear_14 : decode cX1_hear 14 = .ok (.if_icmp .eq 9, 3) := by decide +kernel
theorem dX1_hear_17 : decode cX1_hear 17 = .ok (.iload_n 3, 1) := by decide +kernel
theorem dX1_hear_18 : decode cX1_hear 18 = .ok (.iconst 4, 1) := by decide +kernel
theorem dX1_hear_19 : decode cX1_hear 19 = .ok (.if_icmp .eq 4, 3) := by decide +kernel
theorem dX1_hear_22 : decode cX1_hear 22 = .ok (.return_, 1) := by decide +kernel
theorem dX1_hear_23 : decode cX1_hear 23 = .ok (.aload_n 0, 1) := by decide +kernel
theorem dX1_hear_24 : decode cX1_hear 24 = .ok (.getfield 9, 3) := by decide +kernel
theorem dX1_hear_27 : decode cX1_hear 27 = .ok (.aload_n 1, 1) := by decide +kernel
theorem dX1_hear_28 : decode cX1_hear 28 = .ok (.getfield 82, 3) := by decide +kernel
theorem dX1_hear_31 : decode cX1_hear 31 = .ok (.iload_n 2, 1) := by decide +kernel
theorem dX1_hear_32 : decode cX1_hear 32 = .ok (.iaload, 1) := by decide +kernel
theorem dX1_hear_33 : decode cX1_hear 33 = .ok (.iaload, 1) := by decide +kernel
theorem dX1_hear_34 : decode cX1_hear 34 = .ok (.istore 4, 2) := by decide +kernel
theorem dX1_hear_36 : decode cX1_hear 36 = .ok (.aload_n 0, 1) := by decide +kernel
theorem dX1_hear_37 : decode cX1_hear 37 = .ok (.getfield 9, 3) := by decide +kernel
theorem dX1_hear_40 : decode cX1_hear 40 = .ok (.aload_n 1, 1) := by decide +kernel
theorem dX1_hear_41 : decode cX1_hear 41 = .ok (.getfield 85, 3) := by decide +kernel
theorem dX1_hear_44 : decode cX1_hear 44 = .ok (.iload_n 2, 1) := by decide +kernel
theorem dX1_hear_45 : decode cX1_hear 45 = .ok (.iaload, 1) := by decide +kernel
theorem dX1_hear_46 : decode cX1_hear 46 = .ok (.iaload, 1) := by decide +kernel
theorem dX1_hear_47 : decode cX1_hear 47 = .ok (.istore 5, 2) := by decide +kernel
theorem dX1_hear_49 : decode cX1_hear 49 = .ok (.iload_n 3, 1) := by decide +kernel
theorem dX1_hear_50 : decode cX1_hear 50 = .ok (.iconst 4, 1) := by decide +kernel
theorem dX1_hear_51 : decode cX1_hear 51 = .ok (.if_icmp .ne 65, 3) := by decide +kernel
theorem dX1_hear_54 : decode cX1_hear 54 = .ok (.aload_n 0, 1) := by decide +kernel
theorem dX1_hear_55 : decode cX1_hear 55 = .ok (.getfield 33, 3) := by decide +kernel
theorem dX1_hear_58 : decode cX1_hear 58 = .ok (.iload 4, 2) := by decide +kernel
theorem dX1_hear_60 : decode cX1_hear 60 = .ok (.dup2, 1) := by decide +kernel
theorem dX1_hear_61 : decode cX1_hear 61 = .ok (.iaload, 1) := by decide +kernel
theorem dX1_hear_62 : decode cX1_hear 62 = .ok (.iconst 1, 1) := by decide +kernel
theorem dX1_hear_63 : decode cX1_hear 63 = .ok (.iload 5, 2) := by decide +kernel
theorem dX1_hear_65 : decode cX1_hear 65 = .ok (.ishl, 1) := by decide +kernel
theorem dX1_hear_66 : decode cX1_hear 66 = .ok (.ior, 1) := by decide +kernel
theorem dX1_hear_67 : decode cX1_hear 67 = .ok (.iastore, 1) := by decide +kernel
theorem dX1_hear_68 : decode cX1_hear 68 = .ok (.aload_n 0, 1) := by decide +kernel
theorem dX1_hear_69 : decode cX1_hear 69 = .ok (.getfield 33, 3) := by decide +kernel
theorem dX1_hear_72 : decode cX1_hear 72 = .ok (.iload 5, 2) := by decide +kernel
theorem dX1_hear_74 : decode cX1_hear 74 = .ok (.dup2, 1) := by decide +kernel
theorem dX1_hear_75 : decode cX1_hear 75 = .ok (.iaload, 1) := by decide +kernel
theorem dX1_hear_76 : decode cX1_hear 76 = .ok (.iconst 1, 1) := by decide +kernel
theorem dX1_hear_77 : decode cX1_hear 77 = .ok (.iload 4, 2) := by decide +kernel
theorem dX1_hear_79 : decode cX1_hear 79 = .ok (.ishl, 1) := by decide +kernel
theorem dX1_hear_80 : decode cX1_hear 80 = .ok (.ior, 1) := by decide +kernel
theorem dX1_hear_81 : decode cX1_hear 81 = .ok (.iastore, 1) := by decide +kernel
theorem dX1_hear_82 : decode cX1_hear 82 = .ok (.aload_n 0, 1) := by decide +kernel
theorem dX1_hear_83 : decode cX1_hear 83 = .ok (.getfield 36, 3) := by decide +kernel
theorem dX1_hear_86 : decode cX1_hear 86 = .ok (.iload 4, 2) := by decide +kernel
theorem dX1_hear_88 : decode cX1_hear 88 = .ok (.dup2, 1) := by decide +kernel
theorem dX1_hear_89 : decode cX1_hear 89 = .ok (.iaload, 1) := by decide +kernel
theorem dX1_hear_90 : decode cX1_hear 90 = .ok (.iconst 1, 1) := by decide +kernel
theorem dX1_hear_91 : decode cX1_hear 91 = .ok (.iadd, 1) := by decide +kernel
theorem dX1_hear_92 : decode cX1_hear 92 = .ok (.iastore, 1) := by decide +kernel
theorem dX1_hear_93 : decode cX1_hear 93 = .ok (.aload_n 0, 1) := by decide +kernel
theorem dX1_hear_94 : decode cX1_hear 94 = .ok (.getfield 36, 3) := by decide +kernel
theorem dX1_hear_97 : decode cX1_hear 97 = .ok (.iload 5, 2) := by decide +kernel
theorem dX1_hear_99 : decode cX1_hear 99 = .ok (.dup2, 1) := by decide +kernel
theorem dX1_hear_100 : decode cX1_hear 100 = .ok (.iaload, 1) := by decide +kernel
theorem dX1_hear_101 : decode cX1_hear 101 = .ok (.iload 4, 2) := by decide +kernel
theorem dX1_hear_103 : decode cX1_hear 103 = .ok (.iload 5, 2) := by decide +kernel
theorem dX1_hear_105 : decode cX1_hear 105 = .ok (.if_icmp .ne 7, 3) := by decide +kernel
theorem dX1_hear_108 : decode cX1_hear 108 = .ok (.iconst 0, 1) := by decide +kernel
theorem dX1_hear_109 : decode cX1_hear 109 = .ok (.goto 4, 3) := by decide +kernel
theorem dX1_hear_112 : decode cX1_hear 112 = .ok (.iconst 1, 1) := by decide +kernel
theorem dX1_hear_113 : decode cX1_hear 113 = .ok (.iadd, 1) := by decide +kernel
theorem dX1_hear_114 : decode cX1_hear 114 = .ok (.iastore, 1) := by decide +kernel
theorem dX1_hear_115 : decode cX1_hear 115 = .ok (.return_, 1) := by decide +kernel
theorem dX1_hear_116 : decode cX1_hear 116 = .ok (.aload_n 0, 1) := by decide +kernel
theorem dX1_hear_117 : decode cX1_hear 117 = .ok (.getfield 27, 3) := by decide +kernel
theorem dX1_hear_120 : decode cX1_hear 120 = .ok (.iload 4, 2) := by decide +kernel
theorem dX1_hear_122 : decode cX1_hear 122 = .ok (.dup2, 1) := by decide +kernel
theorem dX1_hear_123 : decode cX1_hear 123 = .ok (.iaload, 1) := by decide +kernel
theorem dX1_hear_124 : decode cX1_hear 124 = .ok (.iconst 1, 1) := by decide +kernel
theorem dX1_hear_125 : decode cX1_hear 125 = .ok (.iload 5, 2) := by decide +kernel
theorem dX1_hear_127 : decode cX1_hear 127 = .ok (.ishl, 1) := by decide +kernel
theorem dX1_hear_128 : decode cX1_hear 128 = .ok (.ior, 1) := by decide +kernel
theorem dX1_hear_129 : decode cX1_hear 129 = .ok (.iastore, 1) := by decide +kernel
theorem dX1_hear_130 : decode cX1_hear 130 = .ok (.iload_n 3, 1) := by decide +kernel
theorem dX1_hear_131 : decode cX1_hear 131 = .ok (.iconst 2, 1) := by decide +kernel
theorem dX1_hear_132 : decode cX1_hear 132 = .ok (.if_icmp .ne 31, 3) := by decide +kernel
theorem dX1_hear_135 : decode cX1_hear 135 = .ok (.aload_n 0, 1) := by decide +kernel
theorem dX1_hear_136 : decode cX1_hear 136 = .ok (.getfield 21, 3) := by decide +kernel
theorem dX1_hear_139 : decode cX1_hear 139 = .ok (.iload 4, 2) := by decide +kernel
theorem dX1_hear_141 : decode cX1_hear 141 = .ok (.dup2, 1) := by decide +kernel
theorem dX1_hear_142 : decode cX1_hear 142 = .ok (.iaload, 1) := by decide +kernel
theorem dX1_hear_143 : decode cX1_hear 143 = .ok (.iconst 1, 1) := by decide +kernel
theorem dX1_hear_144 : decode cX1_hear 144 = .ok (.iload 5, 2) := by decide +kernel
theorem dX1_hear_146 : decode cX1_hear 146 = .ok (.ishl, 1) := by decide +kernel
theorem dX1_hear_147 : decode cX1_hear 147 = .ok (.ior, 1) := by decide +kernel
theorem dX1_hear_148 : decode cX1_hear 148 = .ok (.iastore, 1) := by decide +kernel
theorem dX1_hear_149 : decode cX1_hear 149 = .ok (.aload_n 0, 1) := by decide +kernel
theorem dX1_hear_150 : decode cX1_hear 150 = .ok (.getfield 18, 3) := by decide +kernel
theorem dX1_hear_153 : decode cX1_hear 153 = .ok (.iload 5, 2) := by decide +kernel
theorem dX1_hear_155 : decode cX1_hear 155 = .ok (.dup2, 1) := by decide +kernel
theorem dX1_hear_156 : decode cX1_hear 156 = .ok (.iaload, 1) := by decide +kernel
theorem dX1_hear_157 : decode cX1_hear 157 = .ok (.iconst 1, 1) := by decide +kernel
theorem dX1_hear_158 : decode cX1_hear 158 = .ok (.ior, 1) := by decide +kernel
theorem dX1_hear_159 : decode cX1_hear 159 = .ok (.iastore, 1) := by decide +kernel
theorem dX1_hear_160 : decode cX1_hear 160 = .ok (.goto 28, 3) := by decide +kernel
theorem dX1_hear_163 : decode cX1_hear 163 = .ok (.aload_n 0, 1) := by decide +kernel
theorem dX1_hear_164 : decode cX1_hear 164 = .ok (.getfield 24, 3) := by decide +kernel
theorem dX1_hear_167 : decode cX1_hear 167 = .ok (.iload 4, 2) := by decide +kernel
theorem dX1_hear_169 : decode cX1_hear 169 = .ok (.dup2, 1) := by decide +kernel
theorem dX1_hear_170 : decode cX1_hear 170 = .ok (.iaload, 1) := by decide +kernel
theorem dX1_hear_171 : decode cX1_hear 171 = .ok (.iconst 1, 1) := by decide +kernel
theorem dX1_hear_172 : decode cX1_hear 172 = .ok (.iload 5, 2) := by decide +kernel
theorem dX1_hear_174 : decode cX1_hear 174 = .ok (.ishl, 1) := by decide +kernel
theorem dX1_hear_175 : decode cX1_hear 175 = .ok (.ior, 1) := by decide +kernel
theorem dX1_hear_176 : decode cX1_hear 176 = .ok (.iastore, 1) := by decide +kernel
theorem dX1_hear_177 : decode cX1_hear 177 = .ok (.aload_n 0, 1) := by decide +kernel
theorem dX1_hear_178 : decode cX1_hear 178 = .ok (.getfield 18, 3) := by decide +kernel
theorem dX1_hear_181 : decode cX1_hear 181 = .ok (.iload 5, 2) := by decide +kernel
theorem dX1_hear_183 : decode cX1_hear 183 = .ok (.dup2, 1) := by decide +kernel
theorem dX1_hear_184 : decode cX1_hear 184 = .ok (.iaload, 1) := by decide +kernel
theorem dX1_hear_185 : decode cX1_hear 185 = .ok (.iconst 2, 1) := by decide +kernel
theorem dX1_hear_186 : decode cX1_hear 186 = .ok (.ior, 1) := by decide +kernel
theorem dX1_hear_187 : decode cX1_hear 187 = .ok (.iastore, 1) := by decide +kernel
theorem dX1_hear_188 : decode cX1_hear 188 = .ok (.return_, 1) := by decide +kernel
theorem dX1_climb_0 : decode cX1_climb 0 = .ok (.aload_n 0, 1) := by decide +kernel
theorem dX1_climb_1 : decode cX1_climb 1 = .ok (.getfield 27, 3) := by decide +kernel
theorem dX1_climb_4 : decode cX1_climb 4 = .ok (.iconst 0, 1) := by decide +kernel
theorem dX1_climb_5 : decode cX1_climb 5 = .ok (.aload_n 0, 1) := by decide +kernel
theorem dX1_climb_6 : decode cX1_climb 6 = .ok (.getfield 30, 3) := by decide +kernel
theorem dX1_climb_9 : decode cX1_climb 9 = .ok (.iconst 0, 1) := by decide +kernel
theorem dX1_climb_10 : decode cX1_climb 10 = .ok (.bipush 30, 2) := by decide +kernel
theorem dX1_climb_12 : decode cX1_climb 12 = .ok (.invokestatic 101, 3) := by decide +kernel
theorem dX1_climb_15 : decode cX1_climb 15 = .ok (.iconst 0, 1) := by decide +kernel
theorem dX1_climb_16 : decode cX1_climb 16 = .ok (.istore_n 1, 1) := by decide +kernel
theorem dX1_climb_17 : decode cX1_climb 17 = .ok (.iload_n 1, 1) := by decide +kernel
theorem dX1_climb_18 : decode cX1_climb 18 = .ok (.bipush 30, 2) := by decide +kernel
theorem dX1_climb_20 : decode cX1_climb 20 = .ok (.if_icmp .ge 51, 3) := by decide +kernel
theorem dX1_climb_23 : decode cX1_climb 23 = .ok (.iconst 0, 1) := by decide +kernel
theorem dX1_climb_24 : decode cX1_climb 24 = .ok (.istore_n 2, 1) := by decide +kernel
theorem dX1_climb_25 : decode cX1_climb 25 = .ok (.iload_n 2, 1) := by decide +kernel
theorem dX1_climb_26 : decode cX1_climb 26 = .ok (.bipush 30, 2) := by decide +kernel
theorem dX1_climb_28 : decode cX1_climb 28 = .ok (.if_icmp .ge 37, 3) := by decide +kernel
theorem dX1_climb_31 : decode cX1_climb 31 = .ok (.aload_n 0, 1) := by decide +kernel
theorem dX1_climb_32 : decode cX1_climb 32 = .ok (.getfield 30, 3) := by decide +kernel
theorem dX1_climb_35 : decode cX1_climb 35 = .ok (.iload_n 2, 1) := by decide +kernel
theorem dX1_climb_36 : decode cX1_climb 36 = .ok (.iaload, 1) := by decide +kernel
theorem dX1_climb_37 : decode cX1_climb 37 = .ok (.iload_n 1, 1) := by decide +kernel
theorem dX1_climb_38 : decode cX1_climb 38 = .ok (.invokestatic 42, 3) := by decide +kernel
theorem dX1_climb_41 : decode cX1_climb 41 = .ok (.ifCond .eq 18, 3) := by decide +kernel
theorem dX1_climb_44 : decode cX1_climb 44 = .ok (.aload_n 0, 1) := by decide +kernel
theorem dX1_climb_45 : decode cX1_climb 45 = .ok (.getfield 30, 3) := by decide +kernel
theorem dX1_climb_48 : decode cX1_climb 48 = .ok (.iload_n 2, 1) := by decide +kernel
theorem dX1_climb_49 : decode cX1_climb 49 = .ok (.dup2, 1) := by decide +kernel
theorem dX1_climb_50 : decode cX1_climb 50 = .ok (.iaload, 1) := by decide +kernel
theorem dX1_climb_51 : decode cX1_climb 51 = .ok (.aload_n 0, 1) := by decide +kernel
theorem dX1_climb_52 : decode cX1_climb 52 = .ok (.getfield 30, 3) := by decide +kernel
theorem dX1_climb_55 : decode cX1_climb 55 = .ok (.iload_n 1, 1) := by decide +kernel
theorem dX1_climb_56 : decode cX1_climb 56 = .ok (.iaload, 1) := by decide +kernel
theorem dX1_climb_57 : decode cX1_climb 57 = .ok (.ior, 1) := by decide +kernel
theorem dX1_climb_58 : decode cX1_climb 58 = .ok (.iastore, 1) := by decide +kernel
theorem dX1_climb_59 : decode cX1_climb 59 = .ok (.iinc 2 1, 3) := by decide +kernel
theorem dX1_climb_62 : decode cX1_climb 62 = .ok (.goto (-37), 3) := by decide +kernel
theorem dX1_climb_65 : decode cX1_climb 65 = .ok (.iinc 1 1, 3) := by decide +kernel
theorem dX1_climb_68 : decode cX1_climb 68 = .ok (.goto (-51), 3) := by decide +kernel
theorem dX1_climb_71 : decode cX1_climb 71 = .ok (.aload_n 0, 1) := by decide +kernel
theorem dX1_climb_72 : decode cX1_climb 72 = .ok (.aload_n 0, 1) := by decide +kernel
theorem dX1_climb_73 : decode cX1_climb 73 = .ok (.invokevirtual 107, 3) := by decide +kernel
theorem dX1_climb_76 : decode cX1_climb 76 = .ok (.ifCond .lt 7, 3) := by decide +kernel
theorem dX1_climb_79 : decode cX1_climb 79 = .ok (.iconst 1, 1) := by decide +kernel
theorem dX1_climb_80 : decode cX1_climb 80 = .ok (.goto 4, 3) := by decide +kernel
theorem dX1_climb_83 : decode cX1_climb 83 = .ok (.iconst 0, 1) := by decide +kernel
theorem dX1_climb_84 : decode cX1_climb 84 = .ok (.putfield 111, 3) := by decide +kernel
theorem dX1_climb_87 : decode cX1_climb 87 = .ok (.aload_n 0, 1) := by decide +kernel
theorem dX1_climb_88 : decode cX1_climb 88 = .ok (.getfield 111, 3) := by decide +kernel
theorem dX1_climb_91 : decode cX1_climb 91 = .ok (.ifCond .ne 7, 3) := by decide +kernel
theorem dX1_climb_94 : decode cX1_climb 94 = .ok (.iconst 1, 1) := by decide +kernel
theorem dX1_climb_95 : decode cX1_climb 95 = .ok (.goto 4, 3) := by decide +kernel
theorem dX1_climb_98 : decode cX1_climb 98 = .ok (.iconst 0, 1) := by decide +kernel
theorem dX1_climb_99 : decode cX1_climb 99 = .ok (.istore_n 1, 1) := by decide +kernel
theorem dX1_climb_100 : decode cX1_climb 100 = .ok (.iconst 0, 1) := by decide +kernel
theorem dX1_climb_101 : decode cX1_climb 101 = .ok (.istore_n 2, 1) := by decide +kernel
theorem dX1_climb_102 : decode cX1_climb 102 = .ok (.iload_n 2, 1) := by decide +kernel
theorem dX1_climb_103 : decode cX1_climb 103 = .ok (.bipush 30, 2) := by decide +kernel
theorem dX1_climb_105 : decode cX1_climb 105 = .ok (.if_icmp .ge 74, 3) := by decide +kernel
theorem dX1_climb_108 : decode cX1_climb 108 = .ok (.iload_n 1, 1) := by decide +kernel
theorem dX1_climb_109 : decode cX1_climb 109 = .ok (.ifCond .eq 70, 3) := by decide +kernel
theorem dX1_climb_112 : decode cX1_climb 112 = .ok (.iconst 0, 1) := by decide +kernel
theorem dX1_climb_113 : decode cX1_climb 113 = .ok (.istore_n 1, 1) := by decide +kernel
theorem dX1_climb_114 : decode cX1_climb 114 = .ok (.iconst 0, 1) := by decide +kernel
theorem dX1_climb_115 : decode cX1_climb 115 = .ok (.istore_n 3, 1) := by decide +kernel
theorem dX1_climb_116 : decode cX1_climb 116 = .ok (.iload_n 3, 1) := by decide +kernel
theorem dX1_climb_117 : decode cX1_climb 117 = .ok (.bipush 30, 2) := by decide +kernel
theorem dX1_climb_119 : decode cX1_climb 119 = .ok (.if_icmp .ge 54, 3) := by decide +kernel
theorem dX1_climb_122 : decode cX1_climb 122 = .ok (.aload_n 0, 1) := by decide +kernel
theorem dX1_climb_123 : decode cX1_climb 123 = .ok (.getfield 39, 3) := by decide +kernel
theorem dX1_climb_126 : decode cX1_climb 126 = .ok (.iload_n 3, 1) := by decide +kernel
theorem dX1_climb_127 : decode cX1_climb 127 = .ok (.iaload, 1) := by decide +kernel
theorem dX1_climb_128 : decode cX1_climb 128 = .ok (.istore 4, 2) := by decide +kernel
theorem dX1_climb_130 : decode cX1_climb 130 = .ok (.aload_n 0, 1) := by decide +kernel
theorem dX1_climb_131 : decode cX1_climb 131 = .ok (.getfield 39, 3) := by decide +kernel
theorem dX1_climb_134 : decode cX1_climb 134 = .ok (.iload_n 3, 1) := by decide +kernel
theorem dX1_climb_135 : decode cX1_climb 135 = .ok (.aload_n 0, 1) := by decide +kernel
theorem dX1_climb_136 : decode cX1_climb 136 = .ok (.aload_n 0, 1) := by decide +kernel
theorem dX1_climb_137 : decode cX1_climb 137 = .ok (.getfield 27, 3) := by decide +kernel
theorem dX1_climb_140 : decode cX1_climb 140 = .ok (.iload_n 3, 1) := by decide +kernel
theorem dX1_climb_141 : decode cX1_climb 141 = .ok (.iaload, 1) := by decide +kernel
theorem dX1_climb_142 : decode cX1_climb 142 = .ok (.invokevirtual 115, 3) := by decide +kernel
theorem dX1_climb_145 : decode cX1_climb 145 = .ok (.iastore, 1) := by decide +kernel
theorem dX1_climb_146 : decode cX1_climb 146 = .ok (.iload_n 1, 1) := by decide +kernel
theorem dX1_climb_147 : decode cX1_climb 147 = .ok (.ifCond .ne 14, 3) := by decide +kernel
theorem dX1_climb_150 : decode cX1_climb 150 = .ok (.aload_n 0, 1) := by decide +kernel
theorem dX1_climb_151 : decode cX1_climb 151 = .ok (.getfield 39, 3) := by decide +kernel
theorem dX1_climb_154 : decode cX1_climb 154 = .ok (.iload_n 3, 1) := by decide +kernel
theorem dX1_climb_155 : decode cX1_climb 155 = .ok (.iaload, 1) := by decide +kernel
theorem dX1_climb_156 : decode cX1_climb 156 = .ok (.iload 4, 2) := by decide +kernel
theorem dX1_climb_158 : decode cX1_climb 158 = .ok (.if_icmp .eq 7, 3) := by decide +kernel
theorem dX1_climb_161 : decode cX1_climb 161 = .ok (.iconst 1, 1) := by decide +kernel
theorem dX1_climb_162 : decode cX1_climb 162 = .ok (.goto 4, 3) := by decide +kernel
theorem dX1_climb_165 : decode cX1_climb 165 = .ok (.iconst 0, 1) := by decide +kernel
theorem dX1_climb_166 : decode cX1_climb 166 = .ok (.istore_n 1, 1) := by decide +kernel
theorem dX1_climb_167 : decode cX1_climb 167 = .ok (.iinc 3 1, 3) := by decide +kernel
theorem dX1_climb_170 : decode cX1_climb 170 = .ok (.goto (-54), 3) := by decide +kernel
theorem dX1_climb_173 : decode cX1_climb 173 = .ok (.iinc 2 1, 3) := by decide +kernel
theorem dX1_climb_176 : decode cX1_climb 176 = .ok (.goto (-74), 3) := by decide +kernel
theorem dX1_climb_179 : decode cX1_climb 179 = .ok (.return_, 1) := by decide +kernel
theorem dX1_generationOver_0 : decode cX1_generationOver 0 = .ok (.iconst 0, 1) := by decide +kernel
theorem dX1_generationOver_1 : decode cX1_generationOver 1 = .ok (.istore_n 2, 1) := by decide +kernel
theorem dX1_generationOver_2 : decode cX1_generationOver 2 = .ok (.iconst 0, 1) := by decide +kernel
theorem dX1_generationOver_3 : decode cX1_generationOver 3 = .ok (.istore_n 3, 1) := by decide +kernel
theorem dX1_generationOver_4 : decode cX1_generationOver 4 = .ok (.iload_n 3, 1) := by decide +kernel
theorem dX1_generationOver_5 : decode cX1_generationOver 5 = .ok (.bipush 30, 2) := by decide +kernel
theorem dX1_generationOver_7 : decode cX1_generationOver 7 = .ok (.if_icmp .ge 30, 3) := by decide +kernel
theorem dX1_generationOver_10 : decode cX1_generationOver 10 = .ok (.iload_n 1, 1) := by decide +kernel
theorem dX1_generationOver_11 : decode cX1_generationOver 11 = .ok (.iload_n 3, 1) := by decide +kernel
theorem dX1_generationOver_12 : decode cX1_generationOver 12 = .ok (.invokestatic 42, 3) := by decide +kernel
theorem dX1_generationOver_15 : decode cX1_generationOver 15 = .ok (.ifCond .eq 16, 3) := by decide +kernel
theorem dX1_generationOver_18 : decode cX1_generationOver 18 = .ok (.iload_n 2, 1) := by decide +kernel
theorem dX1_generationOver_19 : decode cX1_generationOver 19 = .ok (.aload_n 0, 1) := by decide +kernel
theorem dX1_generationOver_20 : decode cX1_generationOver 20 = .ok (.getfield 39, 3) := by decide +kernel
theorem dX1_generationOver_23 : decode cX1_generationOver 23 = .ok (.iload_n 3, 1) := by decide +kernel
theorem dX1_generationOver_24 : decode cX1_generationOver 24 = .ok (.iaload, 1) := by decide +kernel
theorem dX1_generationOver_25 : decode cX1_generationOver 25 = .ok (.iconst 1, 1) := by decide +kernel
theorem dX1_generationOver_26 : decode cX1_generationOver 26 = .ok (.iadd, 1) := by decide +kernel
theorem dX1_generationOver_27 : decode cX1_generationOver 27 = .ok (.invokestatic 88, 3) := by decide +kernel
theorem dX1_generationOver_30 : decode cX1_generationOver 30 = .ok (.istore_n 2, 1) := by decide +kernel
theorem dX1_generationOver_31 : decode cX1_generationOver 31 = .ok (.iinc 3 1, 3) := by decide +kernel
theorem dX1_generationOver_34 : decode cX1_generationOver 34 = .ok (.goto (-30), 3) := by decide +kernel
theorem dX1_generationOver_37 : decode cX1_generationOver 37 = .ok (.iload_n 2, 1) := by decide +kernel
theorem dX1_generationOver_38 : decode cX1_generationOver 38 = .ok (.ireturn, 1) := by decide +kernel
theorem dX1_leastRing_0 : decode cX1_leastRing 0 = .ok (.iconst 0, 1) := by decide +kernel
theorem dX1_leastRing_1 : decode cX1_leastRing 1 = .ok (.istore_n 1, 1) := by decide +kernel
theorem dX1_leastRing_2 : decode cX1_leastRing 2 = .ok (.iload_n 1, 1) := by decide +kernel
theorem dX1_leastRing_3 : decode cX1_leastRing 3 = .ok (.bipush 30, 2) := by decide +kernel
theorem dX1_leastRing_5 : decode cX1_leastRing 5 = .ok (.if_icmp .ge 24, 3) := by decide +kernel
theorem dX1_leastRing_8 : decode cX1_leastRing 8 = .ok (.aload_n 0, 1) := by decide +kernel
theorem dX1_leastRing_9 : decode cX1_leastRing 9 = .ok (.getfield 30, 3) := by decide +kernel
theorem dX1_leastRing_12 : decode cX1_leastRing 12 = .ok (.iload_n 1, 1) := by decide +kernel
theorem dX1_leastRing_13 : decode cX1_leastRing 13 = .ok (.iaload, 1) := by decide +kernel
theorem dX1_leastRing_14 : decode cX1_leastRing 14 = .ok (.iload_n 1, 1) := by decide +kernel
theorem dX1_leastRing_15 : decode cX1_leastRing 15 = .ok (.invokestatic 42, 3) := by decide +kernel
theorem dX1_leastRing_18 : decode cX1_leastRing 18 = .ok (.ifCond .eq 5, 3) := by decide +kernel
theorem dX1_leastRing_21 : decode cX1_leastRing 21 = .ok (.iload_n 1, 1) := by decide +kernel
theorem dX1_leastRing_22 : decode cX1_leastRing 22 = .ok (.ireturn, 1) := by decide +kernel
theorem dX1_leastRing_23 : decode cX1_leastRing 23 = .ok (.iinc 1 1, 3) := by decide +kernel
theorem dX1_leastRing_26 : decode cX1_leastRing 26 = .ok (.goto (-24), 3) := by decide +kernel
theorem dX1_leastRing_29 : decode cX1_leastRing 29 = .ok (.bipush (-5), 2) := by decide +kernel
theorem dX1_leastRing_31 : decode cX1_leastRing 31 = .ok (.ireturn, 1) := by decide +kernel
theorem dX1_leastOfBothSexes_0 : decode cX1_leastOfBothSexes 0 = .ok (.iconst 0, 1) := by decide +kernel
theorem dX1_leastOfBothSexes_1 : decode cX1_leastOfBothSexes 1 = .ok (.istore_n 1, 1) := by decide +kernel
theorem dX1_leastOfBothSexes_2 : decode cX1_leastOfBothSexes 2 = .ok (.iload_n 1, 1) := by decide +kernel
theorem dX1_leastOfBothSexes_3 : decode cX1_leastOfBothSexes 3 = .ok (.bipush 30, 2) := by decide +kernel
theorem dX1_leastOfBothSexes_5 : decode cX1_leastOfBothSexes 5 = .ok (.if_icmp .ge 21, 3) := by decide +kernel
theorem dX1_leastOfBothSexes_8 : decode cX1_leastOfBothSexes 8 = .ok (.aload_n 0, 1) := by decide +kernel
theorem dX1_leastOfBothSexes_9 : decode cX1_leastOfBothSexes 9 = .ok (.getfield 18, 3) := by decide +kernel
theorem dX1_leastOfBothSexes_12 : decode cX1_leastOfBothSexes 12 = .ok (.iload_n 1, 1) := by decide +kernel
theorem dX1_leastOfBothSexes_13 : decode cX1_leastOfBothSexes 13 = .ok (.iaload, 1) := by decide +kernel
theorem dX1_leastOfBothSexes_14 : decode cX1_leastOfBothSexes 14 = .ok (.iconst 3, 1) := by decide +kernel
theorem dX1_leastOfBothSexes_15 : decode cX1_leastOfBothSexes 15 = .ok (.if_icmp .ne 5, 3) := by decide +kernel
theorem dX1_leastOfBothSexes_18 : decode cX1_leastOfBothSexes 18 = .ok (.iload_n 1, 1) := by decide +kernel
theorem dX1_leastOfBothSexes_19 : decode cX1_leastOfBothSexes 19 = .ok (.ireturn, 1) := by decide +kernel
theorem dX1_leastOfBothSexes_20 : decode cX1_leastOfBothSexes 20 = .ok (.iinc 1 1, 3) := by decide +kernel
theorem dX1_leastOfBothSexes_23 : decode cX1_leastOfBothSexes 23 = .ok (.goto (-21), 3) := by decide +kernel
theorem dX1_leastOfBothSexes_26 : decode cX1_leastOfBothSexes 26 = .ok (.bipush (-5), 2) := by decide +kernel
theorem dX1_leastOfBothSexes_28 : decode cX1_leastOfBothSexes 28 = .ok (.ireturn, 1) := by decide +kernel
theorem dX1_leastOfUnlikeParents_0 : decode cX1_leastOfUnlikeParents 0 = .ok (.iconst 0, 1) := by decide +kernel
theorem dX1_leastOfUnlikeParents_1 : decode cX1_leastOfUnlikeParents 1 = .ok (.istore_n 1, 1) := by decide +kernel
theorem dX1_leastOfUnlikeParents_2 : decode cX1_leastOfUnlikeParents 2 = .ok (.iload_n 1, 1) := by decide +kernel
theorem dX1_leastOfUnlikeParents_3 : decode cX1_leastOfUnlikeParents 3 = .ok (.bipush 30, 2) := by decide +kernel
theorem dX1_leastOfUnlikeParents_5 : decode cX1_leastOfUnlikeParents 5 = .ok (.if_icmp .ge 37, 3) := by decide +kernel
theorem dX1_leastOfUnlikeParents_8 : decode cX1_leastOfUnlikeParents 8 = .ok (.aload_n 0, 1) := by decide +kernel
theorem dX1_leastOfUnlikeParents_9 : decode cX1_leastOfUnlikeParents 9 = .ok (.getfield 21, 3) := by decide +kernel
theorem dX1_leastOfUnlikeParents_12 : decode cX1_leastOfUnlikeParents 12 = .ok (.iload_n 1, 1) := by decide +kernel
theorem dX1_leastOfUnlikeParents_13 : decode cX1_leastOfUnlikeParents 13 = .ok (.iaload, 1) := by decide +kernel
theorem dX1_leastOfUnlikeParents_14 : decode cX1_leastOfUnlikeParents 14 = .ok (.invokestatic 63, 3) := by decide +kernel
theorem dX1_leastOfUnlikeParents_17 : decode cX1_leastOfUnlikeParents 17 = .ok (.iconst 1, 1) := by decide +kernel
theorem dX1_leastOfUnlikeParents_18 : decode cX1_leastOfUnlikeParents 18 = .ok (.if_icmp .gt 16, 3) := by decide +kernel
theorem dX1_leastOfUnlikeParents_21 : decode cX1_leastOfUnlikeParents 21 = .ok (.aload_n 0, 1) := by decide +kernel
theorem dX1_leastOfUnlikeParents_22 : decode cX1_leastOfUnlikeParents 22 = .ok (.getfield 24, 3) := by decide +kernel
theorem dX1_leastOfUnlikeParents_25 : decode cX1_leastOfUnlikeParents 25 = .ok (.iload_n 1, 1) := by decide +kernel
theorem dX1_leastOfUnlikeParents_26 : decode cX1_leastOfUnlikeParents 26 = .ok (.iaload, 1) := by decide +kernel
theorem dX1_leastOfUnlikeParents_27 : decode cX1_leastOfUnlikeParents 27 = .ok (.invokestatic 63, 3) := by decide +kernel
theorem dX1_leastOfUnlikeParents_30 : decode cX1_leastOfUnlikeParents 30 = .ok (.iconst 1, 1) := by decide +kernel
theorem dX1_leastOfUnlikeParents_31 : decode cX1_leastOfUnlikeParents 31 = .ok (.if_icmp .le 5, 3) := by decide +kernel
theorem dX1_leastOfUnlikeParents_34 : decode cX1_leastOfUnlikeParents 34 = .ok (.iload_n 1, 1) := by decide +kernel
theorem dX1_leastOfUnlikeParents_35 : decode cX1_leastOfUnlikeParents 35 = .ok (.ireturn, 1) := by decide +kernel
theorem dX1_leastOfUnlikeParents_36 : decode cX1_leastOfUnlikeParents 36 = .ok (.iinc 1 1, 3) := by decide +kernel
theorem dX1_leastOfUnlikeParents_39 : decode cX1_leastOfUnlikeParents 39 = .ok (.goto (-37), 3) := by decide +kernel
theorem dX1_leastOfUnlikeParents_42 : decode cX1_leastOfUnlikeParents 42 = .ok (.bipush (-5), 2) := by decide +kernel
theorem dX1_leastOfUnlikeParents_44 : decode cX1_leastOfUnlikeParents 44 = .ok (.ireturn, 1) := by decide +kernel
theorem dX1_tell_0 : decode cX1_tell 0 = .ok (.iload_n 2, 1) := by decide +kernel
theorem dX1_tell_1 : decode cX1_tell 1 = .ok (.tableswitch 118 0 7 #[47, 49, 56, 63, 73, 83, 92, 99], 47) := by decide +kernel
theorem dX1_tell_48 : decode cX1_tell 48 = .ok (.iload_n 1, 1) := by decide +kernel
theorem dX1_tell_49 : decode cX1_tell 49 = .ok (.ireturn, 1) := by decide +kernel
theorem dX1_tell_50 : decode cX1_tell 50 = .ok (.aload_n 0, 1) := by decide +kernel
theorem dX1_tell_51 : decode cX1_tell 51 = .ok (.getfield 15, 3) := by decide +kernel
theorem dX1_tell_54 : decode cX1_tell 54 = .ok (.iload_n 1, 1) := by decide +kernel
theorem dX1_tell_55 : decode cX1_tell 55 = .ok (.iaload, 1) := by decide +kernel
theorem dX1_tell_56 : decode cX1_tell 56 = .ok (.ireturn, 1) := by decide +kernel
theorem dX1_tell_57 : decode cX1_tell 57 = .ok (.aload_n 0, 1) := by decide +kernel
theorem dX1_tell_58 : decode cX1_tell 58 = .ok (.getfield 18, 3) := by decide +kernel
theorem dX1_tell_61 : decode cX1_tell 61 = .ok (.iload_n 1, 1) := by decide +kernel
theorem dX1_tell_62 : decode cX1_tell 62 = .ok (.iaload, 1) := by decide +kernel
theorem dX1_tell_63 : decode cX1_tell 63 = .ok (.ireturn, 1) := by decide +kernel
theorem dX1_tell_64 : decode cX1_tell 64 = .ok (.aload_n 0, 1) := by decide +kernel
theorem dX1_tell_65 : decode cX1_tell 65 = .ok (.getfield 21, 3) := by decide +kernel
theorem dX1_tell_68 : decode cX1_tell 68 = .ok (.iload_n 1, 1) := by decide +kernel
theorem dX1_tell_69 : decode cX1_tell 69 = .ok (.iaload, 1) := by decide +kernel
theorem dX1_tell_70 : decode cX1_tell 70 = .ok (.invokestatic 118, 3) := by decide +kernel
theorem dX1_tell_73 : decode cX1_tell 73 = .ok (.ireturn, 1) := by decide +kernel
theorem dX1_tell_74 : decode cX1_tell 74 = .ok (.aload_n 0, 1) := by decide +kernel
theorem dX1_tell_75 : decode cX1_tell 75 = .ok (.getfield 24, 3) := by decide +kernel
theorem dX1_tell_78 : decode cX1_tell 78 = .ok (.iload_n 1, 1) := by decide +kernel
theorem dX1_tell_79 : decode cX1_tell 79 = .ok (.iaload, 1) := by decide +kernel
theorem dX1_tell_80 : decode cX1_tell 80 = .ok (.invokestatic 118, 3) := by decide +kernel
theorem dX1_tell_83 : decode cX1_tell 83 = .ok (.ireturn, 1) := by decide +kernel
theorem dX1_tell_84 : decode cX1_tell 84 = .ok (.aload_n 0, 1) := by decide +kernel
theorem dX1_tell_85 : decode cX1_tell 85 = .ok (.iload_n 1, 1) := by decide +kernel
theorem dX1_tell_86 : decode cX1_tell 86 = .ok (.invokevirtual 121, 3) := by decide +kernel
theorem dX1_tell_89 : decode cX1_tell 89 = .ok (.invokestatic 63, 3) := by decide +kernel
theorem dX1_tell_92 : decode cX1_tell 92 = .ok (.ireturn, 1) := by decide +kernel
theorem dX1_tell_93 : decode cX1_tell 93 = .ok (.aload_n 0, 1) := by decide +kernel
theorem dX1_tell_94 : decode cX1_tell 94 = .ok (.getfield 36, 3) := by decide +kernel
theorem dX1_tell_97 : decode cX1_tell 97 = .ok (.iload_n 1, 1) := by decide +kernel
theorem dX1_tell_98 : decode cX1_tell 98 = .ok (.iaload, 1) := by decide +kernel
theorem dX1_tell_99 : decode cX1_tell 99 = .ok (.ireturn, 1) := by decide +kernel
theorem dX1_tell_100 : decode cX1_tell 100 = .ok (.aload_n 0, 1) := by decide +kernel
theorem dX1_tell_101 : decode cX1_tell 101 = .ok (.getfield 111, 3) := by decide +kernel
theorem dX1_tell_104 : decode cX1_tell 104 = .ok (.ifCond .eq 8, 3) := by decide +kernel
theorem dX1_tell_107 : decode cX1_tell 107 = .ok (.bipush (-5), 2) := by decide +kernel
theorem dX1_tell_109 : decode cX1_tell 109 = .ok (.goto 9, 3) := by decide +kernel
theorem dX1_tell_112 : decode cX1_tell 112 = .ok (.aload_n 0, 1) := by decide +kernel
theorem dX1_tell_113 : decode cX1_tell 113 = .ok (.getfield 39, 3) := by decide +kernel
theorem dX1_tell_116 : decode cX1_tell 116 = .ok (.iload_n 1, 1) := by decide +kernel
theorem dX1_tell_117 : decode cX1_tell 117 = .ok (.iaload, 1) := by decide +kernel
theorem dX1_tell_118 : decode cX1_tell 118 = .ok (.ireturn, 1) := by decide +kernel
theorem dX1_tell_119 : decode cX1_tell 119 = .ok (.iconst (-1), 1) := by decide +kernel
theorem dX1_tell_120 : decode cX1_tell 120 = .ok (.ireturn, 1) := by decide +kernel
theorem dX1_children_0 : decode cX1_children 0 = .ok (.aload_n 0, 1) := by decide +kernel
theorem dX1_children_1 : decode cX1_children 1 = .ok (.getfield 27, 3) := by decide +kernel
theorem dX1_children_4 : decode cX1_children 4 = .ok (.iload_n 1, 1) := by decide +kernel
theorem dX1_children_5 : decode cX1_children 5 = .ok (.invokestatic 124, 3) := by decide +kernel
theorem dX1_children_8 : decode cX1_children 8 = .ok (.ireturn, 1) := by decide +kernel
theorem dX1_below_0 : decode cX1_below 0 = .ok (.aload_n 0, 1) := by decide +kernel
theorem dX1_below_1 : decode cX1_below 1 = .ok (.getfield 30, 3) := by decide +kernel
theorem dX1_below_4 : decode cX1_below 4 = .ok (.iload_n 1, 1) := by decide +kernel
theorem dX1_below_5 : decode cX1_below 5 = .ok (.invokestatic 124, 3) := by decide +kernel
theorem dX1_below_8 : decode cX1_below 8 = .ok (.ireturn, 1) := by decide +kernel
theorem dX1_holders_0 : decode cX1_holders 0 = .ok (.iconst 0, 1) := by decide +kernel
theorem dX1_holders_1 : decode cX1_holders 1 = .ok (.istore_n 2, 1) := by decide +kernel
theorem dX1_holders_2 : decode cX1_holders 2 = .ok (.iconst 0, 1) := by decide +kernel
theorem dX1_holders_3 : decode cX1_holders 3 = .ok (.istore_n 3, 1) := by decide +kernel
theorem dX1_holders_4 : decode cX1_holders 4 = .ok (.iload_n 3, 1) := by decide +kernel
theorem dX1_holders_5 : decode cX1_holders 5 = .ok (.bipush 30, 2) := by decide +kernel
theorem dX1_holders_7 : decode cX1_holders 7 = .ok (.if_icmp .ge 25, 3) := by decide +kernel
theorem dX1_holders_10 : decode cX1_holders 10 = .ok (.aload_n 0, 1) := by decide +kernel
theorem dX1_holders_11 : decode cX1_holders 11 = .ok (.iload_n 3, 1) := by decide +kernel
theorem dX1_holders_12 : decode cX1_holders 12 = .ok (.iaload, 1) := by decide +kernel
theorem dX1_holders_13 : decode cX1_holders 13 = .ok (.iload_n 1, 1) := by decide +kernel
theorem dX1_holders_14 : decode cX1_holders 14 = .ok (.invokestatic 42, 3) := by decide +kernel
theorem dX1_holders_17 : decode cX1_holders 17 = .ok (.ifCond .eq 9, 3) := by decide +kernel
theorem dX1_holders_20 : decode cX1_holders 20 = .ok (.iload_n 2, 1) := by decide +kernel
theorem dX1_holders_21 : decode cX1_holders 21 = .ok (.iconst 1, 1) := by decide +kernel
theorem dX1_holders_22 : decode cX1_holders 22 = .ok (.iload_n 3, 1) := by decide +kernel
theorem dX1_holders_23 : decode cX1_holders 23 = .ok (.ishl, 1) := by decide +kernel
theorem dX1_holders_24 : decode cX1_holders 24 = .ok (.ior, 1) := by decide +kernel
theorem dX1_holders_25 : decode cX1_holders 25 = .ok (.istore_n 2, 1) := by decide +kernel
theorem dX1_holders_26 : decode cX1_holders 26 = .ok (.iinc 3 1, 3) := by decide +kernel
theorem dX1_holders_29 : decode cX1_holders 29 = .ok (.goto (-25), 3) := by decide +kernel
theorem dX1_holders_32 : decode cX1_holders 32 = .ok (.iload_n 2, 1) := by decide +kernel
theorem dX1_holders_33 : decode cX1_holders 33 = .ok (.ireturn, 1) := by decide +kernel
theorem dX1_siblings_0 : decode cX1_siblings 0 = .ok (.iconst 0, 1) := by decide +kernel
theorem dX1_siblings_1 : decode cX1_siblings 1 = .ok (.istore_n 2, 1) := by decide +kernel
theorem dX1_siblings_2 : decode cX1_siblings 2 = .ok (.iconst 0, 1) := by decide +kernel
theorem dX1_siblings_3 : decode cX1_siblings 3 = .ok (.istore_n 3, 1) := by decide +kernel
theorem dX1_siblings_4 : decode cX1_siblings 4 = .ok (.iload_n 3, 1) := by decide +kernel
theorem dX1_siblings_5 : decode cX1_siblings 5 = .ok (.bipush 30, 2) := by decide +kernel
theorem dX1_siblings_7 : decode cX1_siblings 7 = .ok (.if_icmp .ge 36, 3) := by decide +kernel
theorem dX1_siblings_10 : decode cX1_siblings 10 = .ok (.iload_n 3, 1) := by decide +kernel
theorem dX1_siblings_11 : decode cX1_siblings 11 = .ok (.iload_n 1, 1) := by decide +kernel
theorem dX1_siblings_12 : decode cX1_siblings 12 = .ok (.if_icmp .eq 25, 3) := by decide +kernel
theorem dX1_siblings_15 : decode cX1_siblings 15 = .ok (.aload_n 0, 1) := by decide +kernel
theorem dX1_siblings_16 : decode cX1_siblings 16 = .ok (.getfield 27, 3) := by decide +kernel
theorem dX1_siblings_19 : decode cX1_siblings 19 = .ok (.iload_n 3, 1) := by decide +kernel
theorem dX1_siblings_20 : decode cX1_siblings 20 = .ok (.iaload, 1) := by decide +kernel
theorem dX1_siblings_21 : decode cX1_siblings 21 = .ok (.aload_n 0, 1) := by decide +kernel
theorem dX1_siblings_22 : decode cX1_siblings 22 = .ok (.getfield 27, 3) := by decide +kernel
theorem dX1_siblings_25 : decode cX1_siblings 25 = .ok (.iload_n 1, 1) := by decide +kernel
theorem dX1_siblings_26 : decode cX1_siblings 26 = .ok (.iaload, 1) := by decide +kernel
theorem dX1_siblings_27 : decode cX1_siblings 27 = .ok (.iand, 1) := by decide +kernel
theorem dX1_siblings_28 : decode cX1_siblings 28 = .ok (.ifCond .eq 9, 3) := by decide +kernel
theorem dX1_siblings_31 : decode cX1_siblings 31 = .ok (.iload_n 2, 1) := by decide +kernel
theorem dX1_siblings_32 : decode cX1_siblings 32 = .ok (.iconst 1, 1) := by decide +kernel
theorem dX1_siblings_33 : decode cX1_siblings 33 = .ok (.iload_n 3, 1) := by decide +kernel
theorem dX1_siblings_34 : decode cX1_siblings 34 = .ok (.ishl, 1) := by decide +kernel
theorem dX1_siblings_35 : decode cX1_siblings 35 = .ok (.ior, 1) := by decide +kernel
theorem dX1_siblings_36 : decode cX1_siblings 36 = .ok (.istore_n 2, 1) := by decide +kernel
theorem dX1_siblings_37 : decode cX1_siblings 37 = .ok (.iinc 3 1, 3) := by decide +kernel
theorem dX1_siblings_40 : decode cX1_siblings 40 = .ok (.goto (-36), 3) := by decide +kernel
theorem dX1_siblings_43 : decode cX1_siblings 43 = .ok (.iload_n 2, 1) := by decide +kernel
theorem dX1_siblings_44 : decode cX1_siblings 44 = .ok (.ireturn, 1) := by decide +kernel
theorem dX1_areMarried_0 : decode cX1_areMarried 0 = .ok (.aload_n 0, 1) := by decide +kernel
theorem dX1_areMarried_1 : decode cX1_areMarried 1 = .ok (.getfield 33, 3) := by decide +kernel
theorem dX1_areMarried_4 : decode cX1_areMarried 4 = .ok (.iload_n 1, 1) := by decide +kernel
theorem dX1_areMarried_5 : decode cX1_areMarried 5 = .ok (.iaload, 1) := by decide +kernel
theorem dX1_areMarried_6 : decode cX1_areMarried 6 = .ok (.iload_n 2, 1) := by decide +kernel
theorem dX1_areMarried_7 : decode cX1_areMarried 7 = .ok (.invokestatic 42, 3) := by decide +kernel
theorem dX1_areMarried_10 : decode cX1_areMarried 10 = .ok (.ireturn, 1) := by decide +kernel
theorem dX1_haveAlikeParents_0 : decode cX1_haveAlikeParents 0 = .ok (.aload_n 0, 1) := by decide +kernel
theorem dX1_haveAlikeParents_1 : decode cX1_haveAlikeParents 1 = .ok (.getfield 21, 3) := by decide +kernel
theorem dX1_haveAlikeParents_4 : decode cX1_haveAlikeParents 4 = .ok (.iload_n 1, 1) := by decide +kernel
theorem dX1_haveAlikeParents_5 : decode cX1_haveAlikeParents 5 = .ok (.iaload, 1) := by decide +kernel
theorem dX1_haveAlikeParents_6 : decode cX1_haveAlikeParents 6 = .ok (.ifCond .eq 58, 3) := by decide +kernel
theorem dX1_haveAlikeParents_9 : decode cX1_haveAlikeParents 9 = .ok (.aload_n 0, 1) := by decide +kernel
theorem dX1_haveAlikeParents_10 : decode cX1_haveAlikeParents 10 = .ok (.getfield 21, 3) := by decide +kernel
theorem dX1_haveAlikeParents_13 : decode cX1_haveAlikeParents 13 = .ok (.iload_n 1, 1) := by decide +kernel
theorem dX1_haveAlikeParents_14 : decode cX1_haveAlikeParents 14 = .ok (.iaload, 1) := by decide +kernel
theorem dX1_haveAlikeParents_15 : decode cX1_haveAlikeParents 15 = .ok (.invokestatic 118, 3) := by decide +kernel
theorem dX1_haveAlikeParents_18 : decode cX1_haveAlikeParents 18 = .ok (.aload_n 0, 1) := by decide +kernel
theorem dX1_haveAlikeParents_19 : decode cX1_haveAlikeParents 19 = .ok (.getfield 21, 3) := by decide +kernel
theorem dX1_haveAlikeParents_22 : decode cX1_haveAlikeParents 22 = .ok (.iload_n 2, 1) := by decide +kernel
theorem dX1_haveAlikeParents_23 : decode cX1_haveAlikeParents 23 = .ok (.iaload, 1) := by decide +kernel
theorem dX1_haveAlikeParents_24 : decode cX1_haveAlikeParents 24 = .ok (.invokestatic 118, 3) := by decide +kernel
theorem dX1_haveAlikeParents_27 : decode cX1_haveAlikeParents 27 = .ok (.if_icmp .ne 37, 3) := by decide +kernel
theorem dX1_haveAlikeParents_30 : decode cX1_haveAlikeParents 30 = .ok (.aload_n 0, 1) := by decide +kernel
theorem dX1_haveAlikeParents_31 : decode cX1_haveAlikeParents 31 = .ok (.getfield 24, 3) := by decide +kernel
theorem dX1_haveAlikeParents_34 : decode cX1_haveAlikeParents 34 = .ok (.iload_n 1, 1) := by decide +kernel
theorem dX1_haveAlikeParents_35 : decode cX1_haveAlikeParents 35 = .ok (.iaload, 1) := by decide +kernel
theorem dX1_haveAlikeParents_36 : decode cX1_haveAlikeParents 36 = .ok (.ifCond .eq 28, 3) := by decide +kernel
theorem dX1_haveAlikeParents_39 : decode cX1_haveAlikeParents 39 = .ok (.aload_n 0, 1) := by decide +kernel
theorem dX1_haveAlikeParents_40 : decode cX1_haveAlikeParents 40 = .ok (.getfield 24, 3) := by decide +kernel
theorem dX1_haveAlikeParents_43 : decode cX1_haveAlikeParents 43 = .ok (.iload_n 1, 1) := by decide +kernel
theorem dX1_haveAlikeParents_44 : decode cX1_haveAlikeParents 44 = .ok (.iaload, 1) := by decide +kernel
theorem dX1_haveAlikeParents_45 : decode cX1_haveAlikeParents 45 = .ok (.invokestatic 118, 3) := by decide +kernel
theorem dX1_haveAlikeParents_48 : decode cX1_haveAlikeParents 48 = .ok (.aload_n 0, 1) := by decide +kernel
theorem dX1_haveAlikeParents_49 : decode cX1_haveAlikeParents 49 = .ok (.getfield 24, 3) := by decide +kernel
theorem dX1_haveAlikeParents_52 : decode cX1_haveAlikeParents 52 = .ok (.iload_n 2, 1) := by decide +kernel
theorem dX1_haveAlikeParents_53 : decode cX1_haveAlikeParents 53 = .ok (.iaload, 1) := by decide +kernel
theorem dX1_haveAlikeParents_54 : decode cX1_haveAlikeParents 54 = .ok (.invokestatic 118, 3) := by decide +kernel
theorem dX1_haveAlikeParents_57 : decode cX1_haveAlikeParents 57 = .ok (.if_icmp .ne 7, 3) := by decide +kernel
theorem dX1_haveAlikeParents_60 : decode cX1_haveAlikeParents 60 = .ok (.iconst 1, 1) := by decide +kernel
theorem dX1_haveAlikeParents_61 : decode cX1_haveAlikeParents 61 = .ok (.goto 4, 3) := by decide +kernel
theorem dX1_haveAlikeParents_64 : decode cX1_haveAlikeParents 64 = .ok (.iconst 0, 1) := by decide +kernel
theorem dX1_haveAlikeParents_65 : decode cX1_haveAlikeParents 65 = .ok (.ireturn, 1) := by decide +kernel
theorem dX1_greatestGeneration_0 : decode cX1_greatestGeneration 0 = .ok (.aload_n 0, 1) := by decide +kernel
theorem dX1_greatestGeneration_1 : decode cX1_greatestGeneration 1 = .ok (.getfield 111, 3) := by decide +kernel
theorem dX1_greatestGeneration_4 : decode cX1_greatestGeneration 4 = .ok (.ifCond .ne 10, 3) := by decide +kernel
theorem dX1_greatestGeneration_7 : decode cX1_greatestGeneration 7 = .ok (.aload_n 0, 1) := by decide +kernel
theorem dX1_greatestGeneration_8 : decode cX1_greatestGeneration 8 = .ok (.getfield 69, 3) := by decide +kernel
theorem dX1_greatestGeneration_11 : decode cX1_greatestGeneration 11 = .ok (.ifCond .ne 6, 3) := by decide +kernel
theorem dX1_greatestGeneration_14 : decode cX1_greatestGeneration 14 = .ok (.bipush (-5), 2) := by decide +kernel
theorem dX1_greatestGeneration_16 : decode cX1_greatestGeneration 16 = .ok (.ireturn, 1) := by decide +kernel
theorem dX1_greatestGeneration_17 : decode cX1_greatestGeneration 17 = .ok (.iconst 0, 1) := by decide +kernel
theorem dX1_greatestGeneration_18 : decode cX1_greatestGeneration 18 = .ok (.istore_n 1, 1) := by decide +kernel
theorem dX1_greatestGeneration_19 : decode cX1_greatestGeneration 19 = .ok (.iconst 0, 1) := by decide +kernel
theorem dX1_greatestGeneration_20 : decode cX1_greatestGeneration 20 = .ok (.istore_n 2, 1) := by decide +kernel
theorem dX1_greatestGeneration_21 : decode cX1_greatestGeneration 21 = .ok (.iload_n 2, 1) := by decide +kernel
theorem dX1_greatestGeneration_22 : decode cX1_greatestGeneration 22 = .ok (.bipush 30, 2) := by decide +kernel
theorem dX1_greatestGeneration_24 : decode cX1_greatestGeneration 24 = .ok (.if_icmp .ge 20, 3) := by decide +kernel
theorem dX1_greatestGeneration_27 : decode cX1_greatestGeneration 27 = .ok (.iload_n 1, 1) := by decide +kernel
theorem dX1_greatestGeneration_28 : decode cX1_greatestGeneration 28 = .ok (.aload_n 0, 1) := by decide +kernel
theorem dX1_greatestGeneration_29 : decode cX1_greatestGeneration 29 = .ok (.getfield 39, 3) := by decide +kernel
theorem dX1_greatestGeneration_32 : decode cX1_greatestGeneration 32 = .ok (.iload_n 2, 1) := by decide +kernel
theorem dX1_greatestGeneration_33 : decode cX1_greatestGeneration 33 = .ok (.iaload, 1) := by decide +kernel
theorem dX1_greatestGeneration_34 : decode cX1_greatestGeneration 34 = .ok (.invokestatic 88, 3) := by decide +kernel
theorem dX1_greatestGeneration_37 : decode cX1_greatestGeneration 37 = .ok (.istore_n 1, 1) := by decide +kernel
theorem dX1_greatestGeneration_38 : decode cX1_greatestGeneration 38 = .ok (.iinc 2 1, 3) := by decide +kernel
theorem dX1_greatestGeneration_41 : decode cX1_greatestGeneration 41 = .ok (.goto (-20), 3) := by decide +kernel
theorem dX1_greatestGeneration_44 : decode cX1_greatestGeneration 44 = .ok (.iload_n 1, 1) := by decide +kernel
theorem dX1_greatestGeneration_45 : decode cX1_greatestGeneration 45 = .ok (.ireturn, 1) := by decide +kernel
theorem dX2_init_0 : decode cX2_init 0 = .ok (.aload_n 0, 1) := by decide +kernel
theorem dX2_init_1 : decode cX2_init 1 = .ok (.invokespecial 1, 3) := by decide +kernel
theorem dX2_init_4 : decode cX2_init 4 = .ok (.aload_n 0, 1) := by decide +kernel
theorem dX2_init_5 : decode cX2_init 5 = .ok (.iconst 4, 1) := by decide +kernel
theorem dX2_init_6 : decode cX2_init 6 = .ok (.bipush 40, 2) := by decide +kernel
theorem dX2_init_8 : decode cX2_init 8 = .ok (.multianewarray 9 2, 4) := by decide +kernel
theorem dX2_init_12 : decode cX2_init 12 = .ok (.putfield 11, 3) := by decide +kernel
theorem dX2_init_15 : decode cX2_init 15 = .ok (.aload_n 0, 1) := by decide +kernel
theorem dX2_init_16 : decode cX2_init 16 = .ok (.iconst 4, 1) := by decide +kernel
theorem dX2_init_17 : decode cX2_init 17 = .ok (.newarray .int, 2) := by decide +kernel
theorem dX2_init_19 : decode cX2_init 19 = .ok (.dup, 1) := by decide +kernel
theorem dX2_init_20 : decode cX2_init 20 = .ok (.iconst 0, 1) := by decide +kernel
theorem dX2_init_21 : decode cX2_init 21 = .ok (.iconst (-1), 1) := by decide +kernel
theorem dX2_init_22 : decode cX2_init 22 = .ok (.iastore, 1) := by decide +kernel
theorem dX2_init_23 : decode cX2_init 23 = .ok (.dup, 1) := by decide +kernel
theorem dX2_init_24 : decode cX2_init 24 = .ok (.iconst 1, 1) := by decide +kernel
theorem dX2_init_25 : decode cX2_init 25 = .ok (.iconst (-1), 1) := by decide +kernel
theorem dX2_init_26 : decode cX2_init 26 = .ok (.iastore, 1) := by decide +kernel
theorem dX2_init_27 : decode cX2_init 27 = .ok (.dup, 1) := by decide +kernel
theorem dX2_init_28 : decode cX2_init 28 = .ok (.iconst 2, 1) := by decide +kernel
theorem dX2_init_29 : decode cX2_init 29 = .ok (.iconst (-1), 1) := by decide +kernel
theorem dX2_init_30 : decode cX2_init 30 = .ok (.iastore, 1) := by decide +kernel
theorem dX2_init_31 : decode cX2_init 31 = .ok (.dup, 1) := by decide +kernel
theorem dX2_init_32 : decode cX2_init 32 = .ok (.iconst 3, 1) := by decide +kernel
theorem dX2_init_33 : decode cX2_init 33 = .ok (.iconst (-1), 1) := by decide +kernel
theorem dX2_init_34 : decode cX2_init 34 = .ok (.iastore, 1) := by decide +kernel
theorem dX2_init_35 : decode cX2_init 35 = .ok (.putfield 14, 3) := by decide +kernel
theorem dX2_init_38 : decode cX2_init 38 = .ok (.return_, 1) := by decide +kernel
theorem dX2_isList_0 : decode cX2_isList 0 = .ok (.iload_n 1, 1) := by decide +kernel
theorem dX2_isList_1 : decode cX2_isList 1 = .ok (.ifCond .lt 12, 3) := by decide +kernel
theorem dX2_isList_4 : decode cX2_isList 4 = .ok (.iload_n 1, 1) := by decide +kernel
theorem dX2_isList_5 : decode cX2_isList 5 = .ok (.iconst 4, 1) := by decide +kernel
theorem dX2_isList_6 : decode cX2_isList 6 = .ok (.if_icmp .ge 7, 3) := by decide +kernel
theorem dX2_isList_9 : decode cX2_isList 9 = .ok (.iconst 1, 1) := by decide +kernel
theorem dX2_isList_10 : decode cX2_isList 10 = .ok (.goto 4, 3) := by decide +kernel
theorem dX2_isList_13 : decode cX2_isList 13 = .ok (.iconst 0, 1) := by decide +kernel
theorem dX2_isList_14 : decode cX2_isList 14 = .ok (.ireturn, 1) := by decide +kernel
theorem dX2_begin_0 : decode cX2_begin 0 = .ok (.aload_n 0, 1) := by decide +kernel
theorem dX2_begin_1 : decode cX2_begin 1 = .ok (.getfield 14, 3) := by decide +kernel
theorem dX2_begin_4 : decode cX2_begin 4 = .ok (.iload_n 1, 1) := by decide +kernel
theorem dX2_begin_5 : decode cX2_begin 5 = .ok (.iload_n 2, 1) := by decide +kernel
theorem dX2_begin_6 : decode cX2_begin 6 = .ok (.iastore, 1) := by decide +kernel
theorem dX2_begin_7 : decode cX2_begin 7 = .ok (.iconst 0, 1) := by decide +kernel
theorem dX2_begin_8 : decode cX2_begin 8 = .ok (.istore_n 3, 1) := by decide +kernel
theorem dX2_begin_9 : decode cX2_begin 9 = .ok (.iload_n 3, 1) := by decide +kernel
theorem dX2_begin_10 : decode cX2_begin 10 = .ok (.bipush 40, 2) := by decide +kernel
theorem dX2_begin_12 : decode cX2_begin 12 = .ok (.if_icmp .ge 18, 3) := by decide +kernel
theorem dX2_begin_15 : decode cX2_begin 15 = .ok (.aload_n 0, 1) := by decide +kernel
theorem dX2_begin_16 : decode cX2_begin 16 = .ok (.getfield 11, 3) := by decide +kernel
theorem dX2_begin_19 : decode cX2_begin 19 = .ok (.iload_n 1, 1) := by decide +kernel
theorem dX2_begin_20 : decode cX2_begin 20 = .ok (.aaload, 1) := by decide +kernel
theorem dX2_begin_21 : decode cX2_begin 21 = .ok (.iload_n 3, 1) := by decide +kernel
theorem dX2_begin_22 : decode cX2_begin 22 = .ok (.iconst 0, 1) := by decide +kernel
theorem dX2_begin_23 : decode cX2_begin 23 = .ok (.iastore, 1) := by decide +kernel
theorem dX2_begin_24 : decode cX2_begin 24 = .ok (.iinc 3 1, 3) := by decide +kernel
theorem dX2_begin_27 : decode cX2_begin 27 = .ok (.goto (-18), 3) := by decide +kernel
theorem dX2_begin_30 : decode cX2_begin 30 = .ok (.return_, 1) := by decide +kernel
theorem dX2_hasPlace_0 : decode cX2_hasPlace 0 = .ok (.iload_n 2, 1) := by decide +kernel
theorem dX2_hasPlace_1 : decode cX2_hasPlace 1 = .ok (.ifCond .lt 19, 3) := by decide +kernel
theorem dX2_hasPlace_4 : decode cX2_hasPlace 4 = .ok (.iload_n 2, 1) := by decide +kernel
theorem dX2_hasPlace_5 : decode cX2_hasPlace 5 = .ok (.aload_n 0, 1) := by decide +kernel
theorem dX2_hasPlace_6 : decode cX2_hasPlace 6 = .ok (.getfield 14, 3) := by decide +kernel
theorem dX2_hasPlace_9 : decode cX2_hasPlace 9 = .ok (.iload_n 1, 1) := by decide +kernel
theorem dX2_hasPlace_10 : decode cX2_hasPlace 10 = .ok (.iaload, 1) := by decide +kernel
theorem dX2_hasPlace_11 : decode cX2_hasPlace 11 = .ok (.iload_n 3, 1) := by decide +kernel
theorem dX2_hasPlace_12 : decode cX2_hasPlace 12 = .ok (.isub, 1) := by decide +kernel
theorem dX2_hasPlace_13 : decode cX2_hasPlace 13 = .ok (.if_icmp .ge 7, 3) := by decide +kernel
theorem dX2_hasPlace_16 : decode cX2_hasPlace 16 = .ok (.iconst 1, 1) := by decide +kernel
theorem dX2_hasPlace_17 : decode cX2_hasPlace 17 = .ok (.goto 4, 3) := by decide +kernel
theorem dX2_hasPlace_20 : decode cX2_hasPlace 20 = .ok (.iconst 0, 1) := by decide +kernel
theorem dX2_hasPlace_21 : decode cX2_hasPlace 21 = .ok (.ireturn, 1) := by decide +kernel
theorem dX3_init_0 : decode cX3_init 0 = .ok (.aload_n 0, 1) := by decide +kernel
theorem dX3_init_1 : decode cX3_init 1 = .ok (.invokespecial 3, 3) := by decide +kernel
theorem dX3_init_4 : decode cX3_init 4 = .ok (.aload_n 0, 1) := by decide +kernel
theorem dX3_init_5 : decode cX3_init 5 = .ok (.sipush 242, 3) := by decide +kernel
theorem dX3_init_8 : decode cX3_init 8 = .ok (.newarray .int, 2) := by decide +kernel
theorem dX3_init_10 : decode cX3_init 10 = .ok (.putfield 9, 3) := by decide +kernel
theorem dX3_init_13 : decode cX3_init 13 = .ok (.aload_n 0, 1) := by decide +kernel
theorem dX3_init_14 : decode cX3_init 14 = .ok (.sipush 242, 3) := by decide +kernel
theorem dX3_init_17 : decode cX3_init 17 = .ok (.newarray .int, 2) := by decide +kernel
theorem dX3_init_19 : decode cX3_init 19 = .ok (.putfield 15, 3) := by decide +kernel
theorem dX3_init_22 : decode cX3_init 22 = .ok (.aload_n 0, 1) := by decide +kernel
theorem dX3_init_23 : decode cX3_init 23 = .ok (.sipush 242, 3) := by decide +kernel
theorem dX3_init_26 : decode cX3_init 26 = .ok (.newarray .int, 2) := by decide +kernel
theorem dX3_init_28 : decode cX3_init 28 = .ok (.putfield 18, 3) := by decide +kernel
theorem dX3_init_31 : decode cX3_init 31 = .ok (.aload_n 0, 1) := by decide +kernel
theorem dX3_init_32 : decode cX3_init 32 = .ok (.sipush 335, 3) := by decide +kernel
theorem dX3_init_35 : decode cX3_init 35 = .ok (.newarray .int, 2) := by decide +kernel
theorem dX3_init_37 : decode cX3_init 37 = .ok (.putfield 21, 3) := by decide +kernel
theorem dX3_init_40 : decode cX3_init 40 = .ok (.aload_n 0, 1) := by decide +kernel
theorem dX3_init_41 : decode cX3_init 41 = .ok (.sipush 335, 3) := by decide +kernel
theorem dX3_init_44 : decode cX3_init 44 = .ok (.newarray .int, 2) := by decide +kernel
theorem dX3_init_46 : decode cX3_init 46 = .ok (.putfield 24, 3) := by decide +kernel
theorem dX3_init_49 : decode cX3_init 49 = .ok (.aload_n 0, 1) := by decide +kernel
theorem dX3_init_50 : decode cX3_init 50 = .ok (.sipush 335, 3) := by decide +kernel
theorem dX3_init_53 : decode cX3_init 53 = .ok (.newarray .int, 2) := by decide +kernel
theorem dX3_init_55 : decode cX3_init 55 = .ok (.putfield 27, 3) := by decide +kernel
theorem dX3_init_58 : decode cX3_init 58 = .ok (.aload_n 0, 1) := by decide +kernel
theorem dX3_init_59 : decode cX3_init 59 = .ok (.sipush 335, 3) := by decide +kernel
theorem dX3_init_62 : decode cX3_init 62 = .ok (.newarray .int, 2) := by decide +kernel
theorem dX3_init_64 : decode cX3_init 64 = .ok (.putfield 30, 3) := by decide +kernel
theorem dX3_init_67 : decode cX3_init 67 = .ok (.aload_n 0, 1) := by decide +kernel
theorem dX3_init_68 : decode cX3_init 68 = .ok (.sipush 335, 3) := by decide +kernel
theorem dX3_init_71 : decode cX3_init 71 = .ok (.newarray .int, 2) := by decide +kernel
theorem dX3_init_73 : decode cX3_init 73 = .ok (.putfield 33, 3) := by decide +kernel
theorem dX3_init_76 : decode cX3_init 76 = .ok (.return_, 1) := by decide +kernel
theorem dX3_wipe_0 : decode cX3_wipe 0 = .ok (.iconst 0, 1) := by decide +kernel
theorem dX3_wipe_1 : decode cX3_wipe 1 = .ok (.istore_n 1, 1) := by decide +kernel
theorem dX3_wipe_2 : decode cX3_wipe 2 = .ok (.iload_n 1, 1) := by decide +kernel
theorem dX3_wipe_3 : decode cX3_wipe 3 = .ok (.bipush 121, 2) := by decide +kernel
theorem dX3_wipe_5 : decode cX3_wipe 5 = .ok (.if_icmp .ge 31, 3) := by decide +kernel
theorem dX3_wipe_8 : decode cX3_wipe 8 = .ok (.aload_n 0, 1) := by decide +kernel
theorem dX3_wipe_9 : decode cX3_wipe 9 = .ok (.getfield 9, 3) := by decide +kernel
theorem dX3_wipe_12 : decode cX3_wipe 12 = .ok (.iconst 2, 1) := by decide +kernel
theorem dX3_wipe_13 : decode cX3_wipe 13 = .ok (.iload_n 1, 1) := by decide +kernel
theorem dX3_wipe_14 : decode cX3_wipe 14 = .ok (.imul, 1) := by decide +kernel
theorem dX3_wipe_15 : decode cX3_wipe 15 = .ok (.iconst 0, 1) := by decide +kernel
theorem dX3_wipe_16 : decode cX3_wipe 16 = .ok (.iastore, 1) := by decide +kernel
theorem dX3_wipe_17 : decode cX3_wipe 17 = .ok (.aload_n 0, 1) := by decide +kernel
theorem dX3_wipe_18 : decode cX3_wipe 18 = .ok (.getfield 9, 3) := by decide +kernel
theorem dX3_wipe_21 : decode cX3_wipe 21 = .ok (.iconst 2, 1) := by decide +kernel
theorem dX3_wipe_22 : decode cX3_wipe 22 = .ok (.iload_n 1, 1) := by decide +kernel
theorem dX3_wipe_23 : decode cX3_wipe 23 = .ok (.imul, 1) := by decide +kernel
theorem dX3_wipe_24 : decode cX3_wipe 24 = .ok (.iconst 1, 1) := by decide +kernel
theorem dX3_wipe_25 : decode cX3_wipe 25 = .ok (.iadd, 1) := by decide +kernel
theorem dX3_wipe_26 : decode cX3_wipe 26 = .ok (.sipush 3000, 3) := by decide +kernel
theorem dX3_wipe_29 : decode cX3_wipe 29 = .ok (.iastore, 1) := by decide +kernel
theorem dX3_wipe_30 : decode cX3_wipe 30 = .ok (.iinc 1 1, 3) := by decide +kernel
theorem dX3_wipe_33 : decode cX3_wipe 33 = .ok (.goto (-31), 3) := by decide +kernel
theorem dX3_wipe_36 : decode cX3_wipe 36 = .ok (.iconst 0, 1) := by decide +kernel
theorem dX3_wipe_37 : decode cX3_wipe 37 = .ok (.istore_n 1, 1) := by decide +kernel
theorem dX3_wipe_38 : decode cX3_wipe 38 = .ok (.iload_n 1, 1) := by decide +kernel
theorem dX3_wipe_39 : decode cX3_wipe 39 = .ok (.sipush 242, 3) := by decide +kernel
theorem dX3_wipe_42 : decode cX3_wipe 42 = .ok (.if_icmp .ge 23, 3) := by decide +kernel
theorem dX3_wipe_45 : decode cX3_wipe 45 = .ok (.aload_n 0, 1) := by decide +kernel
theorem dX3_wipe_46 : decode cX3_wipe 46 = .ok (.getfield 15, 3) := by decide +kernel
theorem dX3_wipe_49 : decode cX3_wipe 49 = .ok (.iload_n 1, 1) := by decide +kernel
theorem dX3_wipe_50 : decode cX3_wipe 50 = .ok (.iconst (-1), 1) := by decide +kernel
theorem dX3_wipe_51 : decode cX3_wipe 51 = .ok (.iastore, 1) := by decide +kernel
theorem dX3_wipe_52 : decode cX3_wipe 52 = .ok (.aload_n 0, 1) := by decide +kernel
theorem dX3_wipe_53 : decode cX3_wipe 53 = .ok (.getfield 18, 3) := by decide +kernel
theorem dX3_wipe_56 : decode cX3_wipe 56 = .ok (.iload_n 1, 1) := by decide +kernel
theorem dX3_wipe_57 : decode cX3_wipe 57 = .ok (.iconst (-1), 1) := by decide +kernel
theorem dX3_wipe_58 : decode cX3_wipe 58 = .ok (.iastore, 1) := by decide +kernel
theorem dX3_wipe_59 : decode cX3_wipe 59 = .ok (.iinc 1 1, 3) := by decide +kernel
theorem dX3_wipe_62 : decode cX3_wipe 62 = .ok (.goto (-24), 3) := by decide +kernel
theorem dX3_wipe_65 : decode cX3_wipe 65 = .ok (.aload_n 0, 1) := by decide +kernel
theorem dX3_wipe_66 : decode cX3_wipe 66 = .ok (.iconst 0, 1) := by decide +kernel
theorem dX3_wipe_67 : decode cX3_wipe 67 = .ok (.putfield 36, 3) := by decide +kernel
theorem dX3_wipe_70 : decode cX3_wipe 70 = .ok (.aload_n 0, 1) := by decide +kernel
theorem dX3_wipe_71 : decode cX3_wipe 71 = .ok (.iconst 0, 1) := by decide +kernel
theorem dX3_wipe_72 : decode cX3_wipe 72 = .ok (.putfield 40, 3) := by decide +kernel
theorem dX3_wipe_75 : decode cX3_wipe 75 = .ok (.aload_n 0, 1) := by decide +kernel
theorem dX3_wipe_76 : decode cX3_wipe 76 = .ok (.iconst (-1), 1) := by decide +kernel
theorem dX3_wipe_77 : decode cX3_wipe 77 = .ok (.putfield 43, 3) := by decide +kernel
theorem dX3_wipe_80 : decode cX3_wipe 80 = .ok (.return_, 1) := by decide +kernel
theorem dX3_takeLife_0 : decode cX3_takeLife 0 = .ok (.aload_n 0, 1) := by decide +kernel
theorem dX3_takeLife_1 : decode cX3_takeLife 1 = .ok (.iload_n 1, 1) := by decide +kernel
theorem dX3_takeLife_2 : decode cX3_takeLife 2 = .ok (.invokestatic 46, 3) := by decide +kernel
theorem dX3_takeLife_5 : decode cX3_takeLife 5 = .ok (.iload_n 1, 1) := by decide +kernel
theorem dX3_takeLife_6 : decode cX3_takeLife 6 = .ok (.invokestatic 50, 3) := by decide +kernel
theorem dX3_takeLife_9 : decode cX3_takeLife 9 = .ok (.iconst 0, 1) := by decide +kernel
theorem dX3_takeLife_10 : decode cX3_takeLife 10 = .ok (.bipush 110, 2) := by decide +kernel
theorem dX3_takeLife_12 : decode cX3_takeLife 12 = .ok (.bipush 100, 2) := by decide +kernel
theorem dX3_takeLife_14 : decode cX3_takeLife 14 = .ok (.iload_n 1, 1) := by decide +kernel
theorem dX3_takeLife_15 : decode cX3_takeLife 15 = .ok (.iadd, 1) := by decide +kernel
theorem dX3_takeLife_16 : decode cX3_takeLife 16 = .ok (.invokevirtual 53, 3) := by decide +kernel
theorem dX3_takeLife_19 : decode cX3_takeLife 19 = .ok (.return_, 1) := by decide +kernel
theorem dX3_takeStatement_0 : decode cX3_takeStatement 0 = .ok (.aload_n 2, 1) := by decide +kernel
theorem dX3_takeStatement_1 : decode cX3_takeStatement 1 = .ok (.getfield 57, 3) := by decide +kernel
theorem dX3_takeStatement_4 : decode cX3_takeStatement 4 = .ok (.aload_n 1, 1) := by decide +kernel
theorem dX3_takeStatement_5 : decode cX3_takeStatement 5 = .ok (.getfield 62, 3) := by decide +kernel
theorem dX3_takeStatement_8 : decode cX3_takeStatement 8 = .ok (.iload_n 3, 1) := by decide +kernel
theorem dX3_takeStatement_9 : decode cX3_takeStatement 9 = .ok (.iaload, 1) := by decide +kernel
theorem dX3_takeStatement_10 : decode cX3_takeStatement 10 = .ok (.iaload, 1) := by decide +kernel
theorem dX3_takeStatement_11 : decode cX3_takeStatement 11 = .ok (.istore 4, 2) := by decide +kernel
theorem dX3_takeStatement_13 : decode cX3_takeStatement 13 = .ok (.aload_n 1, 1) := by decide +kernel
theorem dX3_takeStatement_14 : decode cX3_takeStatement 14 = .ok (.getfield 67, 3) := by decide +kernel
theorem dX3_takeStatement_17 : decode cX3_takeStatement 17 = .ok (.iload_n 3, 1) := by decide +kernel
theorem dX3_takeStatement_18 : decode cX3_takeStatement 18 = .ok (.iaload, 1) := by decide +kernel
theorem dX3_takeStatement_19 : decode cX3_takeStatement 19 = .ok (.ifCond .ge 8, 3) := by decide +kernel
theorem dX3_takeStatement_22 : decode cX3_takeStatement 22 = .ok (.iload 4, 2) := by decide +kernel
theorem dX3_takeStatement_24 : decode cX3_takeStatement 24 = .ok (.goto 14, 3) := by decide +kernel
theorem dX3_takeStatement_27 : decode cX3_takeStatement 27 = .ok (.aload_n 2, 1) := by decide +kernel
theorem dX3_takeStatement_28 : decode cX3_takeStatement 28 = .ok (.getfield 57, 3) := by decide +kernel
theorem dX3_takeStatement_31 : decode cX3_takeStatement 31 = .ok (.aload_n 1, 1) := by decide +kernel
theorem dX3_takeStatement_32 : decode cX3_takeStatement 32 = .ok (.getfield 67, 3) := by decide +kernel
theorem dX3_takeStatement_35 : decode cX3_takeStatement 35 = .ok (.iload_n 3, 1) := by decide +kernel
theorem dX3_takeStatement_36 : decode cX3_takeStatement 36 = .ok (.iaload, 1) := by decide +kernel
theorem dX3_takeStatement_37 : decode cX3_takeStatement 37 = .ok (.iaload, 1) := by decide +kernel
theorem dX3_takeStatement_38 : decode cX3_takeStatement 38 = .ok (.istore 5, 2) := by decide +kernel
theorem dX3_takeStatement_40 : decode cX3_takeStatement 40 = .ok (.aload_n 1, 1) := by decide +kernel
theorem dX3_takeStatement_41 : decode cX3_takeStatement 41 = .ok (.getfield 70, 3) := by decide +kernel
theorem dX3_takeStatement_44 : decode cX3_takeStatement 44 = .ok (.iload_n 3, 1) := by decide +kernel
theorem dX3_takeStatement_45 : decode cX3_takeStatement 45 = .ok (.iaload, 1) := by decide +kernel
theorem dX3_takeStatement_46 : decode cX3_takeStatement 46 = .ok (.istore 6, 2) := by decide +kernel
theorem dX3_takeStatement_48 : decode cX3_takeStatement 48 = .ok (.aload_n 1, 1) := by decide +kernel
theorem dX3_takeStatement_49 : decode cX3_takeStatement 49 = .ok (.getfield 73, 3) := by decide +kernel
theorem dX3_takeStatement_52 : decode cX3_takeStatement 52 = .ok (.iload_n 3, 1) := by decide +kernel
theorem dX3_takeStatement_53 : decode cX3_takeStatement 53 = .ok (.iaload, 1) := by decide +kernel
theorem dX3_takeStatement_54 : decode cX3_takeStatement 54 = .ok (.tableswitch 255 0 7 #[46, 67, 88, 128, 168, 255, 202, 233], 46) := by decide +kernel
theorem dX3_takeStatement_100 : decode cX3_takeStatement 100 = .ok (.aload_n 0, 1) := by decide +kernel
theorem dX3_takeStatement_101 : decode cX3_takeStatement 101 = .ok (.iload 4, 2) := by decide +kernel
theorem dX3_takeStatement_103 : decode cX3_takeStatement 103 = .ok (.invokestatic 50, 3) := by decide +kernel
theorem dX3_takeStatement_106 : decode cX3_takeStatement 106 = .ok (.iload 6, 2) := by decide +kernel
theorem dX3_takeStatement_108 : decode cX3_takeStatement 108 = .ok (.aload_n 1, 1) := by decide +kernel
theorem dX3_takeStatement_109 : decode cX3_takeStatement 109 = .ok (.getfield 76, 3) := by decide +kernel
theorem dX3_takeStatement_112 : decode cX3_takeStatement 112 = .ok (.iload_n 3, 1) := by decide +kernel
theorem dX3_takeStatement_113 : decode cX3_takeStatement 113 = .ok (.iaload, 1) := by decide +kernel
theorem dX3_takeStatement_114 : decode cX3_takeStatement 114 = .ok (.iload_n 3, 1) := by decide +kernel
theorem dX3_takeStatement_115 : decode cX3_takeStatement 115 = .ok (.invokevirtual 79, 3) := by decide +kernel
theorem dX3_takeStatement_118 : decode cX3_takeStatement 118 = .ok (.goto 191, 3) := by decide +kernel
theorem dX3_takeStatement_121 : decode cX3_takeStatement 121 = .ok (.aload_n 0, 1) := by decide +kernel
theorem dX3_takeStatement_122 : decode cX3_takeStatement 122 = .ok (.iload 4, 2) := by decide +kernel
theorem dX3_takeStatement_124 : decode cX3_takeStatement 124 = .ok (.invokestatic 46, 3) := by decide +kernel
theorem dX3_takeStatement_127 : decode cX3_takeStatement 127 = .ok (.iload 6, 2) := by decide +kernel
theorem dX3_takeStatement_129 : decode cX3_takeStatement 129 = .ok (.aload_n 1, 1) := by decide +kernel
theorem dX3_takeStatement_130 : decode cX3_takeStatement 130 = .ok (.getfield 76, 3) := by decide +kernel
theorem dX3_takeStatement_133 : decode cX3_takeStatement 133 = .ok (.iload_n 3, 1) := by decide +kernel
theorem dX3_takeStatement_134 : decode cX3_takeStatement 134 = .ok (.iaload, 1) := by decide +kernel
theorem dX3_takeStatement_135 : decode cX3_takeStatement 135 = .ok (.iload_n 3, 1) := by decide +kernel
theorem dX3_takeStatement_136 : decode cX3_takeStatement 136 = .ok (.invokevirtual 79, 3) := by decide +kernel
theorem dX3_takeStatement_139 : decode cX3_takeStatement 139 = .ok (.goto 170, 3) := by decide +kernel
theorem dX3_takeStatement_142 : decode cX3_takeStatement 142 = .ok (.aload_n 0, 1) := by decide +kernel
theorem dX3_takeStatement_143 : decode cX3_takeStatement 143 = .ok (.iload 4, 2) := by decide +kernel
theorem dX3_takeStatement_145 : decode cX3_takeStatement 145 = .ok (.invokestatic 50, 3) := by decide +kernel
theorem dX3_takeStatement_148 : decode cX3_takeStatement 148 = .ok (.iload 5, 2) := by decide +kernel
theorem dX3_takeStatement_150 : decode cX3_takeStatement 150 = .ok (.invokestatic 50, 3) := by decide +kernel
theorem dX3_takeStatement_153 : decode cX3_takeStatement 153 = .ok (.bipush 12, 2) := by decide +kernel
theorem dX3_takeStatement_155 : decode cX3_takeStatement 155 = .ok (.bipush 55, 2) := by decide +kernel
theorem dX3_takeStatement_157 : decode cX3_takeStatement 157 = .ok (.iload_n 3, 1) := by decide +kernel
theorem dX3_takeStatement_158 : decode cX3_takeStatement 158 = .ok (.invokevirtual 53, 3) := by decide +kernel
theorem dX3_takeStatement_161 : decode cX3_takeStatement 161 = .ok (.aload_n 0, 1) := by decide +kernel
theorem dX3_takeStatement_162 : decode cX3_takeStatement 162 = .ok (.iload 5, 2) := by decide +kernel
theorem dX3_takeStatement_164 : decode cX3_takeStatement 164 = .ok (.invokestatic 46, 3) := by decide +kernel
theorem dX3_takeStatement_167 : decode cX3_takeStatement 167 = .ok (.iload 4, 2) := by decide +kernel
theorem dX3_takeStatement_169 : decode cX3_takeStatement 169 = .ok (.invokestatic 50, 3) := by decide +kernel
theorem dX3_takeStatement_172 : decode cX3_takeStatement 172 = .ok (.iconst 0, 1) := by decide +kernel
theorem dX3_takeStatement_173 : decode cX3_takeStatement 173 = .ok (.ldc 83, 2) := by decide +kernel
theorem dX3_takeStatement_175 : decode cX3_takeStatement 175 = .ok (.iload_n 3, 1) := by decide +kernel
theorem dX3_takeStatement_176 : decode cX3_takeStatement 176 = .ok (.invokevirtual 53, 3) := by decide +kernel
theorem dX3_takeStatement_179 : decode cX3_takeStatement 179 = .ok (.goto 130, 3) := by decide +kernel
theorem dX3_takeStatement_182 : decode cX3_takeStatement 182 = .ok (.aload_n 0, 1) := by decide +kernel
theorem dX3_takeStatement_183 : decode cX3_takeStatement 183 = .ok (.iload 4, 2) := by decide +kernel
theorem dX3_takeStatement_185 : decode cX3_takeStatement 185 = .ok (.invokestatic 50, 3) := by decide +kernel
theorem dX3_takeStatement_188 : decode cX3_takeStatement 188 = .ok (.iload 5, 2) := by decide +kernel
theorem dX3_takeStatement_190 : decode cX3_takeStatement 190 = .ok (.invokestatic 50, 3) := by decide +kernel
theorem dX3_takeStatement_193 : decode cX3_takeStatement 193 = .ok (.bipush 14, 2) := by decide +kernel
theorem dX3_takeStatement_195 : decode cX3_takeStatement 195 = .ok (.bipush 80, 2) := by decide +kernel
theorem dX3_takeStatement_197 : decode cX3_takeStatement 197 = .ok (.iload_n 3, 1) := by decide +kernel
theorem dX3_takeStatement_198 : decode cX3_takeStatement 198 = .ok (.invokevirtual 53, 3) := by decide +kernel
theorem dX3_takeStatement_201 : decode cX3_takeStatement 201 = .ok (.aload_n 0, 1) := by decide +kernel
theorem dX3_takeStatement_202 : decode cX3_takeStatement 202 = .ok (.iload 5, 2) := by decide +kernel
theorem dX3_takeStatement_204 : decode cX3_takeStatement 204 = .ok (.invokestatic 46, 3) := by decide +kernel
theorem dX3_takeStatement_207 : decode cX3_takeStatement 207 = .ok (.iload 4, 2) := by decide +kernel
theorem dX3_takeStatement_209 : decode cX3_takeStatement 209 = .ok (.invokestatic 50, 3) := by decide +kernel
theorem dX3_takeStatement_212 : decode cX3_takeStatement 212 = .ok (.iconst (-1), 1) := by decide +kernel
theorem dX3_takeStatement_213 : decode cX3_takeStatement 213 = .ok (.ldc 83, 2) := by decide +kernel
theorem dX3_takeStatement_215 : decode cX3_takeStatement 215 = .ok (.iload_n 3, 1) := by decide +kernel
theorem dX3_takeStatement_216 : decode cX3_takeStatement 216 = .ok (.invokevirtual 53, 3) := by decide +kernel
theorem dX3_takeStatement_219 : decode cX3_takeStatement 219 = .ok (.goto 90, 3) := by decide +kernel
theorem dX3_takeStatement_222 : decode cX3_takeStatement 222 = .ok (.aload_n 0, 1) := by decide +kernel
theorem dX3_takeStatement_223 : decode cX3_takeStatement 223 = .ok (.bipush 60, 2) := by decide +kernel
theorem dX3_takeStatement_225 : decode cX3_takeStatement 225 = .ok (.iload_n 3, 1) := by decide +kernel
theorem dX3_takeStatement_226 : decode cX3_takeStatement 226 = .ok (.iadd, 1) := by decide +kernel
theorem dX3_takeStatement_227 : decode cX3_takeStatement 227 = .ok (.iload 6, 2) := by decide +kernel
theorem dX3_takeStatement_229 : decode cX3_takeStatement 229 = .ok (.aload_n 1, 1) := by decide +kernel
theorem dX3_takeStatement_230 : decode cX3_takeStatement 230 = .ok (.getfield 76, 3) := by decide +kernel
theorem dX3_takeStatement_233 : decode cX3_takeStatement 233 = .ok (.iload_n 3, 1) := by decide +kernel
theorem dX3_takeStatement_234 : decode cX3_takeStatement 234 = .ok (.iaload, 1) := by decide +kernel
theorem dX3_takeStatement_235 : decode cX3_takeStatement 235 = .ok (.iload_n 3, 1) := by decide +kernel
theorem dX3_takeStatement_236 : decode cX3_takeStatement 236 = .ok (.invokevirtual 79, 3) := by decide +kernel
theorem dX3_takeStatement_239 : decode cX3_takeStatement 239 = .ok (.aload_n 0, 1) := by decide +kernel
theorem dX3_takeStatement_240 : decode cX3_takeStatement 240 = .ok (.iload 4, 2) := by decide +kernel
theorem dX3_takeStatement_242 : decode cX3_takeStatement 242 = .ok (.iload_n 3, 1) := by decide +kernel
theorem dX3_takeStatement_243 : decode cX3_takeStatement 243 = .ok (.invokevirtual 84, 3) := by decide +kernel
theorem dX3_takeStatement_246 : decode cX3_takeStatement 246 = .ok (.aload_n 0, 1) := by decide +kernel
theorem dX3_takeStatement_247 : decode cX3_takeStatement 247 = .ok (.iload 5, 2) := by decide +kernel
theorem dX3_takeStatement_249 : decode cX3_takeStatement 249 = .ok (.iload_n 3, 1) := by decide +kernel
theorem dX3_takeStatement_250 : decode cX3_takeStatement 250 = .ok (.invokevirtual 84, 3) := by decide +kernel
theorem dX3_takeStatement_253 : decode cX3_takeStatement 253 = .ok (.goto 56, 3) := by decide +kernel
theorem dX3_takeStatement_256 : decode cX3_takeStatement 256 = .ok (.aload_n 0, 1) := by decide +kernel
theorem dX3_takeStatement_257 : decode cX3_takeStatement 257 = .ok (.iload 4, 2) := by decide +kernel
theorem dX3_takeStatement_259 : decode cX3_takeStatement 259 = .ok (.invokestatic 50, 3) := by decide +kernel
theorem dX3_takeStatement_262 : decode cX3_takeStatement 262 = .ok (.ldc 88, 2) := by decide +kernel
theorem dX3_takeStatement_264 : decode cX3_takeStatement 264 = .ok (.iload 6, 2) := by decide +kernel
theorem dX3_takeStatement_266 : decode cX3_takeStatement 266 = .ok (.iload_n 3, 1) := by decide +kernel
theorem dX3_takeStatement_267 : decode cX3_takeStatement 267 = .ok (.invokevirtual 79, 3) := by decide +kernel
theorem dX3_takeStatement_270 : decode cX3_takeStatement 270 = .ok (.aload_n 0, 1) := by decide +kernel
theorem dX3_takeStatement_271 : decode cX3_takeStatement 271 = .ok (.iload 4, 2) := by decide +kernel
theorem dX3_takeStatement_273 : decode cX3_takeStatement 273 = .ok (.invokestatic 46, 3) := by decide +kernel
theorem dX3_takeStatement_276 : decode cX3_takeStatement 276 = .ok (.iload 6, 2) := by decide +kernel
theorem dX3_takeStatement_278 : decode cX3_takeStatement 278 = .ok (.ldc 83, 2) := by decide +kernel
theorem dX3_takeStatement_280 : decode cX3_takeStatement 280 = .ok (.iload_n 3, 1) := by decide +kernel
theorem dX3_takeStatement_281 : decode cX3_takeStatement 281 = .ok (.invokevirtual 79, 3) := by decide +kernel
theorem dX3_takeStatement_284 : decode cX3_takeStatement 284 = .ok (.goto 25, 3) := by decide +kernel
theorem dX3_takeStatement_287 : decode cX3_takeStatement 287 = .ok (.aload_n 0, 1) := by decide +kernel
theorem dX3_takeStatement_288 : decode cX3_takeStatement 288 = .ok (.iload 5, 2) := by decide +kernel
theorem dX3_takeStatement_290 : decode cX3_takeStatement 290 = .ok (.invokestatic 50, 3) := by decide +kernel
theorem dX3_takeStatement_293 : decode cX3_takeStatement 293 = .ok (.iload 4, 2) := by decide +kernel
theorem dX3_takeStatement_295 : decode cX3_takeStatement 295 = .ok (.invokestatic 50, 3) := by decide +kernel
theorem dX3_takeStatement_298 : decode cX3_takeStatement 298 = .ok (.iload 6, 2) := by decide +kernel
theorem dX3_takeStatement_300 : decode cX3_takeStatement 300 = .ok (.ldc 83, 2) := by decide +kernel
theorem dX3_takeStatement_302 : decode cX3_takeStatement 302 = .ok (.iload_n 3, 1) := by decide +kernel
theorem dX3_takeStatement_303 : decode cX3_takeStatement 303 = .ok (.invokevirtual 53, 3) := by decide +kernel
theorem dX3_takeStatement_306 : decode cX3_takeStatement 306 = .ok (.goto 3, 3) := by decide +kernel
theorem dX3_takeStatement_309 : decode cX3_takeStatement 309 = .ok (.return_, 1) := by decide +kernel
theorem dX3_addMarriedOne_0 : decode cX3_addMarriedOne 0 = .ok (.bipush 60, 2) := by decide +kernel
theorem dX3_addMarriedOne_2 : decode cX3_addMarriedOne 2 = .ok (.iload_n 2, 1) := by decide +kernel
theorem dX3_addMarriedOne_3 : decode cX3_addMarriedOne 3 = .ok (.iadd, 1) := by decide +kernel
theorem dX3_addMarriedOne_4 : decode cX3_addMarriedOne 4 = .ok (.istore_n 3, 1) := by decide +kernel
theorem dX3_addMarriedOne_5 : decode cX3_addMarriedOne 5 = .ok (.aload_n 0, 1) := by decide +kernel
theorem dX3_addMarriedOne_6 : decode cX3_addMarriedOne 6 = .ok (.iload_n 3, 1) := by decide +kernel
theorem dX3_addMarriedOne_7 : decode cX3_addMarriedOne 7 = .ok (.iload_n 1, 1) := by decide +kernel
theorem dX3_addMarriedOne_8 : decode cX3_addMarriedOne 8 = .ok (.invokestatic 50, 3) := by decide +kernel
theorem dX3_addMarriedOne_11 : decode cX3_addMarriedOne 11 = .ok (.bipush 14, 2) := by decide +kernel
theorem dX3_addMarriedOne_13 : decode cX3_addMarriedOne 13 = .ok (.bipush 110, 2) := by decide +kernel
theorem dX3_addMarriedOne_15 : decode cX3_addMarriedOne 15 = .ok (.iload_n 2, 1) := by decide +kernel
theorem dX3_addMarriedOne_16 : decode cX3_addMarriedOne 16 = .ok (.invokevirtual 53, 3) := by decide +kernel
theorem dX3_addMarriedOne_19 : decode cX3_addMarriedOne 19 = .ok (.aload_n 0, 1) := by decide +kernel
theorem dX3_addMarriedOne_20 : decode cX3_addMarriedOne 20 = .ok (.iload_n 1, 1) := by decide +kernel
theorem dX3_addMarriedOne_21 : decode cX3_addMarriedOne 21 = .ok (.invokestatic 46, 3) := by decide +kernel
theorem dX3_addMarriedOne_24 : decode cX3_addMarriedOne 24 = .ok (.iload_n 3, 1) := by decide +kernel
theorem dX3_addMarriedOne_25 : decode cX3_addMarriedOne 25 = .ok (.iconst 0, 1) := by decide +kernel
theorem dX3_addMarriedOne_26 : decode cX3_addMarriedOne 26 = .ok (.ldc 83, 2) := by decide +kernel
theorem dX3_addMarriedOne_28 : decode cX3_addMarriedOne 28 = .ok (.iload_n 2, 1) := by decide +kernel
theorem dX3_addMarriedOne_29 : decode cX3_addMarriedOne 29 = .ok (.invokevirtual 53, 3) := by decide +kernel
theorem dX3_addMarriedOne_32 : decode cX3_addMarriedOne 32 = .ok (.return_, 1) := by decide +kernel
theorem dX3_born_0 : decode cX3_born 0 = .ok (.iconst 2, 1) := by decide +kernel
theorem dX3_born_1 : decode cX3_born 1 = .ok (.iload_n 0, 1) := by decide +kernel
theorem dX3_born_2 : decode cX3_born 2 = .ok (.imul, 1) := by decide +kernel
theorem dX3_born_3 : decode cX3_born 3 = .ok (.ireturn, 1) := by decide +kernel
theorem dX3_died_0 : decode cX3_died 0 = .ok (.iconst 2, 1) := by decide +kernel
theorem dX3_died_1 : decode cX3_died 1 = .ok (.iload_n 0, 1) := by decide +kernel
theorem dX3_died_2 : decode cX3_died 2 = .ok (.imul, 1) := by decide +kernel
theorem dX3_died_3 : decode cX3_died 3 = .ok (.iconst 1, 1) := by decide +kernel
theorem dX3_died_4 : decode cX3_died 4 = .ok (.iadd, 1) := by decide +kernel
theorem dX3_died_5 : decode cX3_died 5 = .ok (.ireturn, 1) := by decide +kernel
theorem dX3_addIn_0 : decode cX3_addIn 0 = .ok (.aload_n 0, 1) := by decide +kernel
theorem dX3_addIn_1 : decode cX3_addIn 1 = .ok (.iload_n 1, 1) := by decide +kernel
theorem dX3_addIn_2 : decode cX3_addIn 2 = .ok (.iconst (-1), 1) := by decide +kernel
theorem dX3_addIn_3 : decode cX3_addIn 3 = .ok (.iload_n 2, 1) := by decide +kernel
theorem dX3_addIn_4 : decode cX3_addIn 4 = .ok (.iload_n 3, 1) := by decide +kernel
theorem dX3_addIn_5 : decode cX3_addIn 5 = .ok (.iload 4, 2) := by decide +kernel
theorem dX3_addIn_7 : decode cX3_addIn 7 = .ok (.invokevirtual 53, 3) := by decide +kernel
theorem dX3_addIn_10 : decode cX3_addIn 10 = .ok (.return_, 1) := by decide +kernel
theorem dX3_addLess_0 : decode cX3_addLess 0 = .ok (.aload_n 0, 1) := by decide +kernel
theorem dX3_addLess_1 : decode cX3_addLess 1 = .ok (.getfield 36, 3) := by decide +kernel
theorem dX3_addLess_4 : decode cX3_addLess 4 = .ok (.sipush 335, 3) := by decide +kernel
theorem dX3_addLess_7 : decode cX3_addLess 7 = .ok (.if_icmp .ge 65, 3) := by decide +kernel
theorem dX3_addLess_10 : decode cX3_addLess 10 = .ok (.aload_n 0, 1) := by decide +kernel
theorem dX3_addLess_11 : decode cX3_addLess 11 = .ok (.getfield 21, 3) := by decide +kernel
theorem dX3_addLess_14 : decode cX3_addLess 14 = .ok (.aload_n 0, 1) := by decide +kernel
theorem dX3_addLess_15 : decode cX3_addLess 15 = .ok (.getfield 36, 3) := by decide +kernel
theorem dX3_addLess_18 : decode cX3_addLess 18 = .ok (.iload_n 1, 1) := by decide +kernel
theorem dX3_addLess_19 : decode cX3_addLess 19 = .ok (.iastore, 1) := by decide +kernel
theorem dX3_addLess_20 : decode cX3_addLess 20 = .ok (.aload_n 0, 1) := by decide +kernel
theorem dX3_addLess_21 : decode cX3_addLess 21 = .ok (.getfield 24, 3) := by decide +kernel
theorem dX3_addLess_24 : decode cX3_addLess 24 = .ok (.aload_n 0, 1) := by decide +kernel
theorem dX3_addLess_25 : decode cX3_addLess 25 = .ok (.getfield 36, 3) := by decide +kernel
theorem dX3_addLess_28 : decode cX3_addLess 28 = .ok (.iload_n 2, 1) := by decide +kernel
theorem dX3_addLess_29 : decode cX3_addLess 29 = .ok (.iastore, 1) := by decide +kernel
theorem dX3_addLess_30 : decode cX3_addLess 30 = .ok (.aload_n 0, 1) := by decide +kernel
theorem dX3_addLess_31 : decode cX3_addLess 31 = .ok (.getfield 27, 3) := by decide +kernel
theorem dX3_addLess_34 : decode cX3_addLess 34 = .ok (.aload_n 0, 1) := by decide +kernel
theorem dX3_addLess_35 : decode cX3_addLess 35 = .ok (.getfield 36, 3) := by decide +kernel
theorem dX3_addLess_38 : decode cX3_addLess 38 = .ok (.iload_n 3, 1) := by decide +kernel
theorem dX3_addLess_39 : decode cX3_addLess 39 = .ok (.iastore, 1) := by decide +kernel
theorem dX3_addLess_40 : decode cX3_addLess 40 = .ok (.aload_n 0, 1) := by decide +kernel
theorem dX3_addLess_41 : decode cX3_addLess 41 = .ok (.getfield 30, 3) := by decide +kernel
theorem dX3_addLess_44 : decode cX3_addLess 44 = .ok (.aload_n 0, 1) := by decide +kernel
theorem dX3_addLess_45 : decode cX3_addLess 45 = .ok (.getfield 36, 3) := by decide +kernel
theorem dX3_addLess_48 : decode cX3_addLess 48 = .ok (.iload 4, 2) := by decide +kernel
theorem dX3_addLess_50 : decode cX3_addLess 50 = .ok (.iastore, 1) := by decide +kernel
theorem dX3_addLess_51 : decode cX3_addLess 51 = .ok (.aload_n 0, 1) := by decide +kernel
theorem dX3_addLess_52 : decode cX3_addLess 52 = .ok (.getfield 33, 3) := by decide +kernel
theorem dX3_addLess_55 : decode cX3_addLess 55 = .ok (.aload_n 0, 1) := by decide +kernel
theorem dX3_addLess_56 : decode cX3_addLess 56 = .ok (.getfield 36, 3) := by decide +kernel
theorem dX3_addLess_59 : decode cX3_addLess 59 = .ok (.iload 5, 2) := by decide +kernel
theorem dX3_addLess_61 : decode cX3_addLess 61 = .ok (.iastore, 1) := by decide +kernel
theorem dX3_addLess_62 : decode cX3_addLess 62 = .ok (.aload_n 0, 1) := by decide +kernel
theorem dX3_addLess_63 : decode cX3_addLess 63 = .ok (.dup, 1) := by decide +kernel
theorem dX3_addLess_64 : decode cX3_addLess 64 = .ok (.getfield 36, 3) := by decide +kernel
theorem dX3_addLess_67 : decode cX3_addLess 67 = .ok (.iconst 1, 1) := by decide +kernel
theorem dX3_addLess_68 : decode cX3_addLess 68 = .ok (.iadd, 1) := by decide +kernel
theorem dX3_addLess_69 : decode cX3_addLess 69 = .ok (.putfield 36, 3) := by decide +kernel
theorem dX3_addLess_72 : decode cX3_addLess 72 = .ok (.return_, 1) := by decide +kernel
theorem dX3_narrow_0 : decode cX3_narrow 0 = .ok (.iconst 0, 1) := by decide +kernel
theorem dX3_narrow_1 : decode cX3_narrow 1 = .ok (.istore_n 2, 1) := by decide +kernel
theorem dX3_narrow_2 : decode cX3_narrow 2 = .ok (.iload_n 2, 1) := by decide +kernel
theorem dX3_narrow_3 : decode cX3_narrow 3 = .ok (.iload_n 1, 1) := by decide +kernel
theorem dX3_narrow_4 : decode cX3_narrow 4 = .ok (.if_icmp .ge 70, 3) := by decide +kernel
theorem dX3_narrow_7 : decode cX3_narrow 7 = .ok (.aload_n 0, 1) := by decide +kernel
theorem dX3_narrow_8 : decode cX3_narrow 8 = .ok (.dup, 1) := by decide +kernel
theorem dX3_narrow_9 : decode cX3_narrow 9 = .ok (.getfield 40, 3) := by decide +kernel
theorem dX3_narrow_12 : decode cX3_narrow 12 = .ok (.iconst 1, 1) := by decide +kernel
theorem dX3_narrow_13 : decode cX3_narrow 13 = .ok (.iadd, 1) := by decide +kernel
theorem dX3_narrow_14 : decode cX3_narrow 14 = .ok (.putfield 40, 3) := by decide +kernel
theorem dX3_narrow_17 : decode cX3_narrow 17 = .ok (.aload_n 0, 1) := by decide +kernel
theorem dX3_narrow_18 : decode cX3_narrow 18 = .ok (.iconst 0, 1) := by decide +kernel
theorem dX3_narrow_19 : decode cX3_narrow 19 = .ok (.putfield 89, 3) := by decide +kernel
theorem dX3_narrow_22 : decode cX3_narrow 22 = .ok (.iconst 0, 1) := by decide +kernel
theorem dX3_narrow_23 : decode cX3_narrow 23 = .ok (.istore_n 3, 1) := by decide +kernel
theorem dX3_narrow_24 : decode cX3_narrow 24 = .ok (.iload_n 3, 1) := by decide +kernel
theorem dX3_narrow_25 : decode cX3_narrow 25 = .ok (.aload_n 0, 1) := by decide +kernel
theorem dX3_narrow_26 : decode cX3_narrow 26 = .ok (.getfield 36, 3) := by decide +kernel
theorem dX3_narrow_29 : decode cX3_narrow 29 = .ok (.if_icmp .ge 21, 3) := by decide +kernel
theorem dX3_narrow_32 : decode cX3_narrow 32 = .ok (.aload_n 0, 1) := by decide +kernel
theorem dX3_narrow_33 : decode cX3_narrow 33 = .ok (.getfield 43, 3) := by decide +kernel
theorem dX3_narrow_36 : decode cX3_narrow 36 = .ok (.ifCond .ge 14, 3) := by decide +kernel
theorem dX3_narrow_39 : decode cX3_narrow 39 = .ok (.aload_n 0, 1) := by decide +kernel
theorem dX3_narrow_40 : decode cX3_narrow 40 = .ok (.iload_n 3, 1) := by decide +kernel
theorem dX3_narrow_41 : decode cX3_narrow 41 = .ok (.invokevirtual 93, 3) := by decide +kernel
theorem dX3_narrow_44 : decode cX3_narrow 44 = .ok (.iinc 3 1, 3) := by decide +kernel
theorem dX3_narrow_47 : decode cX3_narrow 47 = .ok (.goto (-23), 3) := by decide +kernel
theorem dX3_narrow_50 : decode cX3_narrow 50 = .ok (.aload_n 0, 1) := by decide +kernel
theorem dX3_narrow_51 : decode cX3_narrow 51 = .ok (.getfield 43, 3) := by decide +kernel
theorem dX3_narrow_54 : decode cX3_narrow 54 = .ok (.ifCond .lt 5, 3) := by decide +kernel
theorem dX3_narrow_57 : decode cX3_narrow 57 = .ok (.iconst 0, 1) := by decide +kernel
theorem dX3_narrow_58 : decode cX3_narrow 58 = .ok (.ireturn, 1) := by decide +kernel
theorem dX3_narrow_59 : decode cX3_narrow 59 = .ok (.aload_n 0, 1) := by decide +kernel
theorem dX3_narrow_60 : decode cX3_narrow 60 = .ok (.getfield 89, 3) := by decide +kernel
theorem dX3_narrow_63 : decode cX3_narrow 63 = .ok (.ifCond .ne 5, 3) := by decide +kernel
theorem dX3_narrow_66 : decode cX3_narrow 66 = .ok (.iconst 1, 1) := by decide +kernel
theorem dX3_narrow_67 : decode cX3_narrow 67 = .ok (.ireturn, 1) := by decide +kernel
theorem dX3_narrow_68 : decode cX3_narrow 68 = .ok (.iinc 2 1, 3) := by decide +kernel
theorem dX3_narrow_71 : decode cX3_narrow 71 = .ok (.goto (-69), 3) := by decide +kernel
theorem dX3_narrow_74 : decode cX3_narrow 74 = .ok (.iconst 0, 1) := by decide +kernel
theorem dX3_narrow_75 : decode cX3_narrow 75 = .ok (.ireturn, 1) := by decide +kernel
theorem dX3_apply_0 : decode cX3_apply 0 = .ok (.aload_n 0, 1) := by decide +kernel
theorem dX3_apply_1 : decode cX3_apply 1 = .ok (.getfield 21, 3) := by decide +kernel
theorem dX3_apply_4 : decode cX3_apply 4 = .ok (.iload_n 1, 1) := by decide +kernel
theorem dX3_apply_5 : decode cX3_apply 5 = .ok (.iaload, 1) := by decide +kernel
theorem dX3_apply_6 : decode cX3_apply 6 = .ok (.istore_n 2, 1) := by decide +kernel
theorem dX3_apply_7 : decode cX3_apply 7 = .ok (.aload_n 0, 1) := by decide +kernel
theorem dX3_apply_8 : decode cX3_apply 8 = .ok (.getfield 24, 3) := by decide +kernel
theorem dX3_apply_11 : decode cX3_apply 11 = .ok (.iload_n 1, 1) := by decide +kernel
theorem dX3_apply_12 : decode cX3_apply 12 = .ok (.iaload, 1) := by decide +kernel
theorem dX3_apply_13 : decode cX3_apply 13 = .ok (.istore_n 3, 1) := by decide +kernel
theorem dX3_apply_14 : decode cX3_apply 14 = .ok (.iload_n 3, 1) := by decide +kernel
theorem dX3_apply_15 : decode cX3_apply 15 = .ok (.ifCond .ge 30, 3) := by decide +kernel
theorem dX3_apply_18 : decode cX3_apply 18 = .ok (.aload_n 0, 1) := by decide +kernel
theorem dX3_apply_19 : decode cX3_apply 19 = .ok (.iload_n 2, 1) := by decide +kernel
theorem dX3_apply_20 : decode cX3_apply 20 = .ok (.aload_n 0, 1) := by decide +kernel
theorem dX3_apply_21 : decode cX3_apply 21 = .ok (.getfield 27, 3) := by decide +kernel
theorem dX3_apply_24 : decode cX3_apply 24 = .ok (.iload_n 1, 1) := by decide +kernel
theorem dX3_apply_25 : decode cX3_apply 25 = .ok (.iaload, 1) := by decide +kernel
theorem dX3_apply_26 : decode cX3_apply 26 = .ok (.iload_n 1, 1) := by decide +kernel
theorem dX3_apply_27 : decode cX3_apply 27 = .ok (.iconst (-1), 1) := by decide +kernel
theorem dX3_apply_28 : decode cX3_apply 28 = .ok (.invokevirtual 97, 3) := by decide +kernel
theorem dX3_apply_31 : decode cX3_apply 31 = .ok (.aload_n 0, 1) := by decide +kernel
theorem dX3_apply_32 : decode cX3_apply 32 = .ok (.iload_n 2, 1) := by decide +kernel
theorem dX3_apply_33 : decode cX3_apply 33 = .ok (.aload_n 0, 1) := by decide +kernel
theorem dX3_apply_34 : decode cX3_apply 34 = .ok (.getfield 30, 3) := by decide +kernel
theorem dX3_apply_37 : decode cX3_apply 37 = .ok (.iload_n 1, 1) := by decide +kernel
theorem dX3_apply_38 : decode cX3_apply 38 = .ok (.iaload, 1) := by decide +kernel
theorem dX3_apply_39 : decode cX3_apply 39 = .ok (.iload_n 1, 1) := by decide +kernel
theorem dX3_apply_40 : decode cX3_apply 40 = .ok (.iconst (-1), 1) := by decide +kernel
theorem dX3_apply_41 : decode cX3_apply 41 = .ok (.invokevirtual 100, 3) := by decide +kernel
theorem dX3_apply_44 : decode cX3_apply 44 = .ok (.return_, 1) := by decide +kernel
theorem dX3_apply_45 : decode cX3_apply 45 = .ok (.aload_n 0, 1) := by decide +kernel
theorem dX3_apply_46 : decode cX3_apply 46 = .ok (.iload_n 2, 1) := by decide +kernel
theorem dX3_apply_47 : decode cX3_apply 47 = .ok (.aload_n 0, 1) := by decide +kernel
theorem dX3_apply_48 : decode cX3_apply 48 = .ok (.getfield 9, 3) := by decide +kernel
theorem dX3_apply_51 : decode cX3_apply 51 = .ok (.iconst 2, 1) := by decide +kernel
theorem dX3_apply_52 : decode cX3_apply 52 = .ok (.iload_n 3, 1) := by decide +kernel
theorem dX3_apply_53 : decode cX3_apply 53 = .ok (.imul, 1) := by decide +kernel
theorem dX3_apply_54 : decode cX3_apply 54 = .ok (.iaload, 1) := by decide +kernel
theorem dX3_apply_55 : decode cX3_apply 55 = .ok (.aload_n 0, 1) := by decide +kernel
theorem dX3_apply_56 : decode cX3_apply 56 = .ok (.getfield 27, 3) := by decide +kernel
theorem dX3_apply_59 : decode cX3_apply 59 = .ok (.iload_n 1, 1) := by decide +kernel
theorem dX3_apply_60 : decode cX3_apply 60 = .ok (.iaload, 1) := by decide +kernel
theorem dX3_apply_61 : decode cX3_apply 61 = .ok (.iadd, 1) := by decide +kernel
theorem dX3_apply_62 : decode cX3_apply 62 = .ok (.iload_n 1, 1) := by decide +kernel
theorem dX3_apply_63 : decode cX3_apply 63 = .ok (.iload_n 3, 1) := by decide +kernel
theorem dX3_apply_64 : decode cX3_apply 64 = .ok (.invokevirtual 97, 3) := by decide +kernel
theorem dX3_apply_67 : decode cX3_apply 67 = .ok (.aload_n 0, 1) := by decide +kernel
theorem dX3_apply_68 : decode cX3_apply 68 = .ok (.iload_n 2, 1) := by decide +kernel
theorem dX3_apply_69 : decode cX3_apply 69 = .ok (.aload_n 0, 1) := by decide +kernel
theorem dX3_apply_70 : decode cX3_apply 70 = .ok (.getfield 9, 3) := by decide +kernel
theorem dX3_apply_73 : decode cX3_apply 73 = .ok (.iconst 2, 1) := by decide +kernel
theorem dX3_apply_74 : decode cX3_apply 74 = .ok (.iload_n 3, 1) := by decide +kernel
theorem dX3_apply_75 : decode cX3_apply 75 = .ok (.imul, 1) := by decide +kernel
theorem dX3_apply_76 : decode cX3_apply 76 = .ok (.iconst 1, 1) := by decide +kernel
theorem dX3_apply_77 : decode cX3_apply 77 = .ok (.iadd, 1) := by decide +kernel
theorem dX3_apply_78 : decode cX3_apply 78 = .ok (.iaload, 1) := by decide +kernel
theorem dX3_apply_79 : decode cX3_apply 79 = .ok (.aload_n 0, 1) := by decide +kernel
theorem dX3_apply_80 : decode cX3_apply 80 = .ok (.getfield 30, 3) := by decide +kernel
theorem dX3_apply_83 : decode cX3_apply 83 = .ok (.iload_n 1, 1) := by decide +kernel
theorem dX3_apply_84 : decode cX3_apply 84 = .ok (.iaload, 1) := by decide +kernel
theorem dX3_apply_85 : decode cX3_apply 85 = .ok (.iadd, 1) := by decide +kernel
theorem dX3_apply_86 : decode cX3_apply 86 = .ok (.iload_n 1, 1) := by decide +kernel
theorem dX3_apply_87 : decode cX3_apply 87 = .ok (.iload_n 3, 1) := by decide +kernel
theorem dX3_apply_88 : decode cX3_apply 88 = .ok (.invokevirtual 100, 3) := by decide +kernel
theorem dX3_apply_91 : decode cX3_apply 91 = .ok (.aload_n 0, 1) := by decide +kernel
theorem dX3_apply_92 : decode cX3_apply 92 = .ok (.iload_n 3, 1) := by decide +kernel
theorem dX3_apply_93 : decode cX3_apply 93 = .ok (.aload_n 0, 1) := by decide +kernel
theorem dX3_apply_94 : decode cX3_apply 94 = .ok (.getfield 9, 3) := by decide +kernel
theorem dX3_apply_97 : decode cX3_apply 97 = .ok (.iconst 2, 1) := by decide +kernel
theorem dX3_apply_98 : decode cX3_apply 98 = .ok (.iload_n 2, 1) := by decide +kernel
theorem dX3_apply_99 : decode cX3_apply 99 = .ok (.imul, 1) := by decide +kernel
theorem dX3_apply_100 : decode cX3_apply 100 = .ok (.iaload, 1) := by decide +kernel
theorem dX3_apply_101 : decode cX3_apply 101 = .ok (.aload_n 0, 1) := by decide +kernel
theorem dX3_apply_102 : decode cX3_apply 102 = .ok (.getfield 30, 3) := by decide +kernel
theorem dX3_apply_105 : decode cX3_apply 105 = .ok (.iload_n 1, 1) := by decide +kernel
theorem dX3_apply_106 : decode cX3_apply 106 = .ok (.iaload, 1) := by decide +kernel
theorem dX3_apply_107 : decode cX3_apply 107 = .ok (.isub, 1) := by decide +kernel
theorem dX3_apply_108 : decode cX3_apply 108 = .ok (.iload_n 1, 1) := by decide +kernel
theorem dX3_apply_109 : decode cX3_apply 109 = .ok (.iload_n 2, 1) := by decide +kernel
theorem dX3_apply_110 : decode cX3_apply 110 = .ok (.invokevirtual 97, 3) := by decide +kernel
theorem dX3_apply_113 : decode cX3_apply 113 = .ok (.aload_n 0, 1) := by decide +kernel
theorem dX3_apply_114 : decode cX3_apply 114 = .ok (.iload_n 3, 1) := by decide +kernel
theorem dX3_apply_115 : decode cX3_apply 115 = .ok (.aload_n 0, 1) := by decide +kernel
theorem dX3_apply_116 : decode cX3_apply 116 = .ok (.getfield 9, 3) := by decide +kernel
theorem dX3_apply_119 : decode cX3_apply 119 = .ok (.iconst 2, 1) := by decide +kernel
theorem dX3_apply_120 : decode cX3_apply 120 = .ok (.iload_n 2, 1) := by decide +kernel
theorem dX3_apply_121 : decode cX3_apply 121 = .ok (.imul, 1) := by decide +kernel
theorem dX3_apply_122 : decode cX3_apply 122 = .ok (.iconst 1, 1) := by decide +kernel
theorem dX3_apply_123 : decode cX3_apply 123 = .ok (.iadd, 1) := by decide +kernel
theorem dX3_apply_124 : decode cX3_apply 124 = .ok (.iaload, 1) := by decide +kernel
theorem dX3_apply_125 : decode cX3_apply 125 = .ok (.aload_n 0, 1) := by decide +kernel
theorem dX3_apply_126 : decode cX3_apply 126 = .ok (.getfield 27, 3) := by decide +kernel
theorem dX3_apply_129 : decode cX3_apply 129 = .ok (.iload_n 1, 1) := by decide +kernel
theorem dX3_apply_130 : decode cX3_apply 130 = .ok (.iaload, 1) := by decide +kernel
theorem dX3_apply_131 : decode cX3_apply 131 = .ok (.isub, 1) := by decide +kernel
theorem dX3_apply_132 : decode cX3_apply 132 = .ok (.iload_n 1, 1) := by decide +kernel
theorem dX3_apply_133 : decode cX3_apply 133 = .ok (.iload_n 2, 1) := by decide +kernel
theorem dX3_apply_134 : decode cX3_apply 134 = .ok (.invokevirtual 100, 3) := by decide +kernel
theorem dX3_apply_137 : decode cX3_apply 137 = .ok (.return_, 1) := by decide +kernel
theorem dX3_raise_0 : decode cX3_raise 0 = .ok (.aload_n 0, 1) := by decide +kernel
theorem dX3_raise_1 : decode cX3_raise 1 = .ok (.getfield 43, 3) := by decide +kernel
theorem dX3_raise_4 : decode cX3_raise 4 = .ok (.ifCond .ge 37, 3) := by decide +kernel
theorem dX3_raise_7 : decode cX3_raise 7 = .ok (.aload_n 0, 1) := by decide +kernel
theorem dX3_raise_8 : decode cX3_raise 8 = .ok (.getfield 9, 3) := by decide +kernel
theorem dX3_raise_11 : decode cX3_raise 11 = .ok (.iconst 2, 1) := by decide +kernel
theorem dX3_raise_12 : decode cX3_raise 12 = .ok (.iload_n 1, 1) := by decide +kernel
theorem dX3_raise_13 : decode cX3_raise 13 = .ok (.imul, 1) := by decide +kernel
theorem dX3_raise_14 : decode cX3_raise 14 = .ok (.iaload, 1) := by decide +kernel
theorem dX3_raise_15 : decode cX3_raise 15 = .ok (.iload_n 2, 1) := by decide +kernel
theorem dX3_raise_16 : decode cX3_raise 16 = .ok (.if_icmp .ge 25, 3) := by decide +kernel
theorem dX3_raise_19 : decode cX3_raise 19 = .ok (.aload_n 0, 1) := by decide +kernel
theorem dX3_raise_20 : decode cX3_raise 20 = .ok (.iconst 2, 1) := by decide +kernel
theorem dX3_raise_21 : decode cX3_raise 21 = .ok (.iload_n 1, 1) := by decide +kernel
theorem dX3_raise_22 : decode cX3_raise 22 = .ok (.imul, 1) := by decide +kernel
theorem dX3_raise_23 : decode cX3_raise 23 = .ok (.iload_n 2, 1) := by decide +kernel
theorem dX3_raise_24 : decode cX3_raise 24 = .ok (.iload_n 3, 1) := by decide +kernel
theorem dX3_raise_25 : decode cX3_raise 25 = .ok (.iload 4, 2) := by decide +kernel
theorem dX3_raise_27 : decode cX3_raise 27 = .ok (.ifCond .ge 7, 3) := by decide +kernel
theorem dX3_raise_30 : decode cX3_raise 30 = .ok (.iconst (-1), 1) := by decide +kernel
theorem dX3_raise_31 : decode cX3_raise 31 = .ok (.goto 7, 3) := by decide +kernel
theorem dX3_raise_34 : decode cX3_raise 34 = .ok (.iconst 2, 1) := by decide +kernel
theorem dX3_raise_35 : decode cX3_raise 35 = .ok (.iload 4, 2) := by decide +kernel
theorem dX3_raise_37 : decode cX3_raise 37 = .ok (.imul, 1) := by decide +kernel
theorem dX3_raise_38 : decode cX3_raise 38 = .ok (.invokevirtual 103, 3) := by decide +kernel
theorem dX3_raise_41 : decode cX3_raise 41 = .ok (.return_, 1) := by decide +kernel
theorem dX3_lower_0 : decode cX3_lower 0 = .ok (.aload_n 0, 1) := by decide +kernel
theorem dX3_lower_1 : decode cX3_lower 1 = .ok (.getfield 43, 3) := by decide +kernel
theorem dX3_lower_4 : decode cX3_lower 4 = .ok (.ifCond .ge 43, 3) := by decide +kernel
theorem dX3_lower_7 : decode cX3_lower 7 = .ok (.aload_n 0, 1) := by decide +kernel
theorem dX3_lower_8 : decode cX3_lower 8 = .ok (.getfield 9, 3) := by decide +kernel
theorem dX3_lower_11 : decode cX3_lower 11 = .ok (.iconst 2, 1) := by decide +kernel
theorem dX3_lower_12 : decode cX3_lower 12 = .ok (.iload_n 1, 1) := by decide +kernel
theorem dX3_lower_13 : decode cX3_lower 13 = .ok (.imul, 1) := by decide +kernel
theorem dX3_lower_14 : decode cX3_lower 14 = .ok (.iconst 1, 1) := by decide +kernel
theorem dX3_lower_15 : decode cX3_lower 15 = .ok (.iadd, 1) := by decide +kernel
theorem dX3_lower_16 : decode cX3_lower 16 = .ok (.iaload, 1) := by decide +kernel
theorem dX3_lower_17 : decode cX3_lower 17 = .ok (.iload_n 2, 1) := by decide +kernel
theorem dX3_lower_18 : decode cX3_lower 18 = .ok (.if_icmp .le 29, 3) := by decide +kernel
theorem dX3_lower_21 : decode cX3_lower 21 = .ok (.aload_n 0, 1) := by decide +kernel
theorem dX3_lower_22 : decode cX3_lower 22 = .ok (.iconst 2, 1) := by decide +kernel
theorem dX3_lower_23 : decode cX3_lower 23 = .ok (.iload_n 1, 1) := by decide +kernel
theorem dX3_lower_24 : decode cX3_lower 24 = .ok (.imul, 1) := by decide +kernel
theorem dX3_lower_25 : decode cX3_lower 25 = .ok (.iconst 1, 1) := by decide +kernel
theorem dX3_lower_26 : decode cX3_lower 26 = .ok (.iadd, 1) := by decide +kernel
theorem dX3_lower_27 : decode cX3_lower 27 = .ok (.iload_n 2, 1) := by decide +kernel
theorem dX3_lower_28 : decode cX3_lower 28 = .ok (.iload_n 3, 1) := by decide +kernel
theorem dX3_lower_29 : decode cX3_lower 29 = .ok (.iload 4, 2) := by decide +kernel
theorem dX3_lower_31 : decode cX3_lower 31 = .ok (.ifCond .ge 7, 3) := by decide +kernel
theorem dX3_lower_34 : decode cX3_lower 34 = .ok (.iconst (-1), 1) := by decide +kernel
theorem dX3_lower_35 : decode cX3_lower 35 = .ok (.goto 9, 3) := by decide +kernel
theorem dX3_lower_38 : decode cX3_lower 38 = .ok (.iconst 2, 1) := by decide +kernel
theorem dX3_lower_39 : decode cX3_lower 39 = .ok (.iload 4, 2) := by decide +kernel
theorem dX3_lower_41 : decode cX3_lower 41 = .ok (.imul, 1) := by decide +kernel
theorem dX3_lower_42 : decode cX3_lower 42 = .ok (.iconst 1, 1) := by decide +kernel
theorem dX3_lower_43 : decode cX3_lower 43 = .ok (.iadd, 1) := by decide +kernel
theorem dX3_lower_44 : decode cX3_lower 44 = .ok (.invokevirtual 103, 3) := by decide +kernel
theorem dX3_lower_47 : decode cX3_lower 47 = .ok (.return_, 1) := by decide +kernel
theorem dX3_change_0 : decode cX3_change 0 = .ok (.aload_n 0, 1) := by decide +kernel
theorem dX3_change_1 : decode cX3_change 1 = .ok (.getfield 9, 3) := by decide +kernel
theorem dX3_change_4 : decode cX3_change 4 = .ok (.iload_n 1, 1) := by decide +kernel
theorem dX3_change_5 : decode cX3_change 5 = .ok (.iload_n 2, 1) := by decide +kernel
theorem dX3_change_6 : decode cX3_change 6 = .ok (.iastore, 1) := by decide +kernel
theorem dX3_change_7 : decode cX3_change 7 = .ok (.aload_n 0, 1) := by decide +kernel
theorem dX3_change_8 : decode cX3_change 8 = .ok (.getfield 15, 3) := by decide +kernel
theorem dX3_change_11 : decode cX3_change 11 = .ok (.iload_n 1, 1) := by decide +kernel
theorem dX3_change_12 : decode cX3_change 12 = .ok (.aload_n 0, 1) := by decide +kernel
theorem dX3_change_13 : decode cX3_change 13 = .ok (.getfield 33, 3) := by decide +kernel
theorem dX3_change_16 : decode cX3_change 16 = .ok (.iload_n 3, 1) := by decide +kernel
theorem dX3_change_17 : decode cX3_change 17 = .ok (.iaload, 1) := by decide +kernel
theorem dX3_change_18 : decode cX3_change 18 = .ok (.iastore, 1) := by decide +kernel
theorem dX3_change_19 : decode cX3_change 19 = .ok (.aload_n 0, 1) := by decide +kernel
theorem dX3_change_20 : decode cX3_change 20 = .ok (.getfield 18, 3) := by decide +kernel
theorem dX3_change_23 : decode cX3_change 23 = .ok (.iload_n 1, 1) := by decide +kernel
theorem dX3_change_24 : decode cX3_change 24 = .ok (.iload 4, 2) := by decide +kernel
theorem dX3_change_26 : decode cX3_change 26 = .ok (.iastore, 1) := by decide +kernel
theorem dX3_change_27 : decode cX3_change 27 = .ok (.aload_n 0, 1) := by decide +kernel
theorem dX3_change_28 : decode cX3_change 28 = .ok (.iconst 1, 1) := by decide +kernel
theorem dX3_change_29 : decode cX3_change 29 = .ok (.putfield 89, 3) := by decide +kernel
theorem dX3_change_32 : decode cX3_change 32 = .ok (.iload_n 1, 1) := by decide +kernel
theorem dX3_change_33 : decode cX3_change 33 = .ok (.iconst 2, 1) := by decide +kernel
theorem dX3_change_34 : decode cX3_change 34 = .ok (.idiv, 1) := by decide +kernel
theorem dX3_change_35 : decode cX3_change 35 = .ok (.istore 5, 2) := by decide +kernel
theorem dX3_change_37 : decode cX3_change 37 = .ok (.aload_n 0, 1) := by decide +kernel
theorem dX3_change_38 : decode cX3_change 38 = .ok (.getfield 9, 3) := by decide +kernel
theorem dX3_change_41 : decode cX3_change 41 = .ok (.iconst 2, 1) := by decide +kernel
theorem dX3_change_42 : decode cX3_change 42 = .ok (.iload 5, 2) := by decide +kernel
theorem dX3_change_44 : decode cX3_change 44 = .ok (.imul, 1) := by decide +kernel
theorem dX3_change_45 : decode cX3_change 45 = .ok (.iaload, 1) := by decide +kernel
theorem dX3_change_46 : decode cX3_change 46 = .ok (.aload_n 0, 1) := by decide +kernel
theorem dX3_change_47 : decode cX3_change 47 = .ok (.getfield 9, 3) := by decide +kernel
theorem dX3_change_50 : decode cX3_change 50 = .ok (.iconst 2, 1) := by decide +kernel
theorem dX3_change_51 : decode cX3_change 51 = .ok (.iload 5, 2) := by decide +kernel
theorem dX3_change_53 : decode cX3_change 53 = .ok (.imul, 1) := by decide +kernel
theorem dX3_change_54 : decode cX3_change 54 = .ok (.iconst 1, 1) := by decide +kernel
theorem dX3_change_55 : decode cX3_change 55 = .ok (.iadd, 1) := by decide +kernel
theorem dX3_change_56 : decode cX3_change 56 = .ok (.iaload, 1) := by decide +kernel
theorem dX3_change_57 : decode cX3_change 57 = .ok (.if_icmp .le 9, 3) := by decide +kernel
theorem dX3_change_60 : decode cX3_change 60 = .ok (.aload_n 0, 1) := by decide +kernel
theorem dX3_change_61 : decode cX3_change 61 = .ok (.iload 5, 2) := by decide +kernel
theorem dX3_change_63 : decode cX3_change 63 = .ok (.putfield 43, 3) := by decide +kernel
theorem dX3_change_66 : decode cX3_change 66 = .ok (.return_, 1) := by decide +kernel
theorem dX3_follow_0 : decode cX3_follow 0 = .ok (.iload_n 1, 1) := by decide +kernel
theorem dX3_follow_1 : decode cX3_follow 1 = .ok (.istore_n 3, 1) := by decide +kernel
theorem dX3_follow_2 : decode cX3_follow 2 = .ok (.iconst 0, 1) := by decide +kernel
theorem dX3_follow_3 : decode cX3_follow 3 = .ok (.istore 4, 2) := by decide +kernel
theorem dX3_follow_5 : decode cX3_follow 5 = .ok (.iload 4, 2) := by decide +kernel
theorem dX3_follow_7 : decode cX3_follow 7 = .ok (.iload_n 2, 1) := by decide +kernel
theorem dX3_follow_8 : decode cX3_follow 8 = .ok (.if_icmp .ge 20, 3) := by decide +kernel
theorem dX3_follow_11 : decode cX3_follow 11 = .ok (.iload_n 3, 1) := by decide +kernel
theorem dX3_follow_12 : decode cX3_follow 12 = .ok (.ifCond .lt 16, 3) := by decide +kernel
theorem dX3_follow_15 : decode cX3_follow 15 = .ok (.aload_n 0, 1) := by decide +kernel
theorem dX3_follow_16 : decode cX3_follow 16 = .ok (.getfield 18, 3) := by decide +kernel
theorem dX3_follow_19 : decode cX3_follow 19 = .ok (.iload_n 3, 1) := by decide +kernel
theorem dX3_follow_20 : decode cX3_follow 20 = .ok (.iaload, 1) := by decide +kernel
theorem dX3_follow_21 : decode cX3_follow 21 = .ok (.istore_n 3, 1) := by decide +kernel
theorem dX3_follow_22 : decode cX3_follow 22 = .ok (.iinc 4 1, 3) := by decide +kernel
theorem dX3_follow_25 : decode cX3_follow 25 = .ok (.goto (-20), 3) := by decide +kernel
theorem dX3_follow_28 : decode cX3_follow 28 = .ok (.iload_n 3, 1) := by decide +kernel
theorem dX3_follow_29 : decode cX3_follow 29 = .ok (.ifCond .lt 16, 3) := by decide +kernel
theorem dX3_follow_32 : decode cX3_follow 32 = .ok (.aload_n 0, 1) := by decide +kernel
theorem dX3_follow_33 : decode cX3_follow 33 = .ok (.getfield 15, 3) := by decide +kernel
theorem dX3_follow_36 : decode cX3_follow 36 = .ok (.iload_n 3, 1) := by decide +kernel
theorem dX3_follow_37 : decode cX3_follow 37 = .ok (.iaload, 1) := by decide +kernel
theorem dX3_follow_38 : decode cX3_follow 38 = .ok (.ifCond .lt 7, 3) := by decide +kernel
theorem dX3_follow_41 : decode cX3_follow 41 = .ok (.iload_n 3, 1) := by decide +kernel
theorem dX3_follow_42 : decode cX3_follow 42 = .ok (.goto 4, 3) := by decide +kernel
theorem dX3_follow_45 : decode cX3_follow 45 = .ok (.iconst (-1), 1) := by decide +kernel
theorem dX3_follow_46 : decode cX3_follow 46 = .ok (.ireturn, 1) := by decide +kernel
theorem dX3_tellRest_0 : decode cX3_tellRest 0 = .ok (.aload_n 0, 1) := by decide +kernel
theorem dX3_tellRest_1 : decode cX3_tellRest 1 = .ok (.iload_n 1, 1) := by decide +kernel
theorem dX3_tellRest_2 : decode cX3_tellRest 2 = .ok (.iload_n 2, 1) := by decide +kernel
theorem dX3_tellRest_3 : decode cX3_tellRest 3 = .ok (.invokevirtual 106, 3) := by decide +kernel
theorem dX3_tellRest_6 : decode cX3_tellRest 6 = .ok (.istore 4, 2) := by decide +kernel
theorem dX3_tellRest_8 : decode cX3_tellRest 8 = .ok (.iload 4, 2) := by decide +kernel
theorem dX3_tellRest_10 : decode cX3_tellRest 10 = .ok (.ifCond .ge 6, 3) := by decide +kernel
theorem dX3_tellRest_13 : decode cX3_tellRest 13 = .ok (.bipush (-3), 2) := by decide +kernel
theorem dX3_tellRest_15 : decode cX3_tellRest 15 = .ok (.ireturn, 1) := by decide +kernel
theorem dX3_tellRest_16 : decode cX3_tellRest 16 = .ok (.iload_n 3, 1) := by decide +kernel
theorem dX3_tellRest_17 : decode cX3_tellRest 17 = .ok (.ifCond .ne 11, 3) := by decide +kernel
theorem dX3_tellRest_20 : decode cX3_tellRest 20 = .ok (.aload_n 0, 1) := by decide +kernel
theorem dX3_tellRest_21 : decode cX3_tellRest 21 = .ok (.getfield 15, 3) := by decide +kernel
theorem dX3_tellRest_24 : decode cX3_tellRest 24 = .ok (.iload 4, 2) := by decide +kernel
theorem dX3_tellRest_26 : decode cX3_tellRest 26 = .ok (.iaload, 1) := by decide +kernel
theorem dX3_tellRest_27 : decode cX3_tellRest 27 = .ok (.ireturn, 1) := by decide +kernel
theorem dX3_tellRest_28 : decode cX3_tellRest 28 = .ok (.aload_n 0, 1) := by decide +kernel
theorem dX3_tellRest_29 : decode cX3_tellRest 29 = .ok (.getfield 18, 3) := by decide +kernel
theorem dX3_tellRest_32 : decode cX3_tellRest 32 = .ok (.iload 4, 2) := by decide +kernel
theorem dX3_tellRest_34 : decode cX3_tellRest 34 = .ok (.iaload, 1) := by decide +kernel
theorem dX3_tellRest_35 : decode cX3_tellRest 35 = .ok (.ifCond .ge 6, 3) := by decide +kernel
theorem dX3_tellRest_38 : decode cX3_tellRest 38 = .ok (.bipush (-5), 2) := by decide +kernel
theorem dX3_tellRest_40 : decode cX3_tellRest 40 = .ok (.ireturn, 1) := by decide +kernel
theorem dX3_tellRest_41 : decode cX3_tellRest 41 = .ok (.iload_n 3, 1) := by decide +kernel
theorem dX3_tellRest_42 : decode cX3_tellRest 42 = .ok (.iconst 1, 1) := by decide +kernel
theorem dX3_tellRest_43 : decode cX3_tellRest 43 = .ok (.if_icmp .ne 18, 3) := by decide +kernel
theorem dX3_tellRest_46 : decode cX3_tellRest 46 = .ok (.aload_n 0, 1) := by decide +kernel
theorem dX3_tellRest_47 : decode cX3_tellRest 47 = .ok (.getfield 18, 3) := by decide +kernel
theorem dX3_tellRest_50 : decode cX3_tellRest 50 = .ok (.iload 4, 2) := by decide +kernel
theorem dX3_tellRest_52 : decode cX3_tellRest 52 = .ok (.iaload, 1) := by decide +kernel
theorem dX3_tellRest_53 : decode cX3_tellRest 53 = .ok (.iconst 2, 1) := by decide +kernel
theorem dX3_tellRest_54 : decode cX3_tellRest 54 = .ok (.idiv, 1) := by decide +kernel
theorem dX3_tellRest_55 : decode cX3_tellRest 55 = .ok (.invokestatic 110, 3) := by decide +kernel
theorem dX3_tellRest_58 : decode cX3_tellRest 58 = .ok (.goto 12, 3) := by decide +kernel
theorem dX3_tellRest_61 : decode cX3_tellRest 61 = .ok (.aload_n 0, 1) := by decide +kernel
theorem dX3_tellRest_62 : decode cX3_tellRest 62 = .ok (.getfield 18, 3) := by decide +kernel
theorem dX3_tellRest_65 : decode cX3_tellRest 65 = .ok (.iload 4, 2) := by decide +kernel
theorem dX3_tellRest_67 : decode cX3_tellRest 67 = .ok (.iaload, 1) := by decide +kernel
theorem dX3_tellRest_68 : decode cX3_tellRest 68 = .ok (.iconst 2, 1) := by decide +kernel
theorem dX3_tellRest_69 : decode cX3_tellRest 69 = .ok (.irem, 1) := by decide +kernel
theorem dX3_tellRest_70 : decode cX3_tellRest 70 = .ok (.ireturn, 1) := by decide +kernel
theorem dX3_tellRange_0 : decode cX3_tellRange 0 = .ok (.iload_n 0, 1) := by decide +kernel
theorem dX3_tellRange_1 : decode cX3_tellRange 1 = .ok (.bipush 60, 2) := by decide +kernel
theorem dX3_tellRange_3 : decode cX3_tellRange 3 = .ok (.if_icmp .ge 7, 3) := by decide +kernel
theorem dX3_tellRange_6 : decode cX3_tellRange 6 = .ok (.iload_n 0, 1) := by decide +kernel
theorem dX3_tellRange_7 : decode cX3_tellRange 7 = .ok (.goto 11, 3) := by decide +kernel
theorem dX3_tellRange_10 : decode cX3_tellRange 10 = .ok (.sipush 200, 3) := by decide +kernel
theorem dX3_tellRange_13 : decode cX3_tellRange 13 = .ok (.iload_n 0, 1) := by decide +kernel
theorem dX3_tellRange_14 : decode cX3_tellRange 14 = .ok (.iadd, 1) := by decide +kernel
theorem dX3_tellRange_15 : decode cX3_tellRange 15 = .ok (.bipush 60, 2) := by decide +kernel
theorem dX3_tellRange_17 : decode cX3_tellRange 17 = .ok (.isub, 1) := by decide +kernel
theorem dX3_tellRange_18 : decode cX3_tellRange 18 = .ok (.ireturn, 1) := by decide +kernel
theorem dX3_proveInto_0 : decode cX3_proveInto 0 = .ok (.aload_n 0, 1) := by decide +kernel
theorem dX3_proveInto_1 : decode cX3_proveInto 1 = .ok (.iload_n 2, 1) := by decide +kernel
theorem dX3_proveInto_2 : decode cX3_proveInto 2 = .ok (.iconst 0, 1) := by decide +kernel
theorem dX3_proveInto_3 : decode cX3_proveInto 3 = .ok (.invokevirtual 106, 3) := by decide +kernel
theorem dX3_proveInto_6 : decode cX3_proveInto 6 = .ok (.istore_n 3, 1) := by decide +kernel
theorem dX3_proveInto_7 : decode cX3_proveInto 7 = .ok (.iconst 0, 1) := by decide +kernel
theorem dX3_proveInto_8 : decode cX3_proveInto 8 = .ok (.istore 4, 2) := by decide +kernel
theorem dX3_proveInto_10 : decode cX3_proveInto 10 = .ok (.iload 4, 2) := by decide +kernel
theorem dX3_proveInto_12 : decode cX3_proveInto 12 = .ok (.bipush 100, 2) := by decide +kernel
theorem dX3_proveInto_14 : decode cX3_proveInto 14 = .ok (.if_icmp .ge 74, 3) := by decide +kernel
theorem dX3_proveInto_17 : decode cX3_proveInto 17 = .ok (.iload_n 3, 1) := by decide +kernel
theorem dX3_proveInto_18 : decode cX3_proveInto 18 = .ok (.ifCond .lt 70, 3) := by decide +kernel
theorem dX3_proveInto_21 : decode cX3_proveInto 21 = .ok (.iload 4, 2) := by decide +kernel
theorem dX3_proveInto_23 : decode cX3_proveInto 23 = .ok (.ifCond .le 9, 3) := by decide +kernel
theorem dX3_proveInto_26 : decode cX3_proveInto 26 = .ok (.aload_n 1, 1) := by decide +kernel
theorem dX3_proveInto_27 : decode cX3_proveInto 27 = .ok (.bipush 60, 2) := by decide +kernel
theorem dX3_proveInto_29 : decode cX3_proveInto 29 = .ok (.invokevirtual 113, 3) := by decide +kernel
theorem dX3_proveInto_32 : decode cX3_proveInto 32 = .ok (.aload_n 0, 1) := by decide +kernel
theorem dX3_proveInto_33 : decode cX3_proveInto 33 = .ok (.getfield 15, 3) := by decide +kernel
theorem dX3_proveInto_36 : decode cX3_proveInto 36 = .ok (.iload_n 3, 1) := by decide +kernel
theorem dX3_proveInto_37 : decode cX3_proveInto 37 = .ok (.iaload, 1) := by decide +kernel
theorem dX3_proveInto_38 : decode cX3_proveInto 38 = .ok (.bipush 100, 2) := by decide +kernel
theorem dX3_proveInto_40 : decode cX3_proveInto 40 = .ok (.if_icmp .lt 25, 3) := by decide +kernel
theorem dX3_proveInto_43 : decode cX3_proveInto 43 = .ok (.aload_n 1, 1) := by decide +kernel
theorem dX3_proveInto_44 : decode cX3_proveInto 44 = .ok (.bipush 76, 2) := by decide +kernel
theorem dX3_proveInto_46 : decode cX3_proveInto 46 = .ok (.invokevirtual 113, 3) := by decide +kernel
theorem dX3_proveInto_49 : decode cX3_proveInto 49 = .ok (.aload_n 1, 1) := by decide +kernel
theorem dX3_proveInto_50 : decode cX3_proveInto 50 = .ok (.aload_n 0, 1) := by decide +kernel
theorem dX3_proveInto_51 : decode cX3_proveInto 51 = .ok (.getfield 15, 3) := by decide +kernel
theorem dX3_proveInto_54 : decode cX3_proveInto 54 = .ok (.iload_n 3, 1) := by decide +kernel
theorem dX3_proveInto_55 : decode cX3_proveInto 55 = .ok (.iaload, 1) := by decide +kernel
theorem dX3_proveInto_56 : decode cX3_proveInto 56 = .ok (.bipush 100, 2) := by decide +kernel
theorem dX3_proveInto_58 : decode cX3_proveInto 58 = .ok (.isub, 1) := by decide +kernel
theorem dX3_proveInto_59 : decode cX3_proveInto 59 = .ok (.invokevirtual 118, 3) := by decide +kernel
theorem dX3_proveInto_62 : decode cX3_proveInto 62 = .ok (.goto 13, 3) := by decide +kernel
theorem dX3_proveInto_65 : decode cX3_proveInto 65 = .ok (.aload_n 1, 1) := by decide +kernel
theorem dX3_proveInto_66 : decode cX3_proveInto 66 = .ok (.aload_n 0, 1) := by decide +kernel
theorem dX3_proveInto_67 : decode cX3_proveInto 67 = .ok (.getfield 15, 3) := by decide +kernel
theorem dX3_proveInto_70 : decode cX3_proveInto 70 = .ok (.iload_n 3, 1) := by decide +kernel
theorem dX3_proveInto_71 : decode cX3_proveInto 71 = .ok (.iaload, 1) := by decide +kernel
theorem dX3_proveInto_72 : decode cX3_proveInto 72 = .ok (.invokevirtual 118, 3) := by decide +kernel
theorem dX3_proveInto_75 : decode cX3_proveInto 75 = .ok (.aload_n 0, 1) := by decide +kernel
theorem dX3_proveInto_76 : decode cX3_proveInto 76 = .ok (.iload_n 3, 1) := by decide +kernel
theorem dX3_proveInto_77 : decode cX3_proveInto 77 = .ok (.iconst 1, 1) := by decide +kernel
theorem dX3_proveInto_78 : decode cX3_proveInto 78 = .ok (.invokevirtual 106, 3) := by decide +kernel
theorem dX3_proveInto_81 : decode cX3_proveInto 81 = .ok (.istore_n 3, 1) := by decide +kernel
theorem dX3_proveInto_82 : decode cX3_proveInto 82 = .ok (.iinc 4 1, 3) := by decide +kernel
theorem dX3_proveInto_85 : decode cX3_proveInto 85 = .ok (.goto (-75), 3) := by decide +kernel
theorem dX3_proveInto_88 : decode cX3_proveInto 88 = .ok (.return_, 1) := by decide +kernel
theorem dX4_init_0 : decode cX4_init 0 = .ok (.aload_n 0, 1) := by decide +kernel
theorem dX4_init_1 : decode cX4_init 1 = .ok (.invokespecial 3, 3) := by decide +kernel
theorem dX4_init_4 : decode cX4_init 4 = .ok (.return_, 1) := by decide +kernel
theorem dX4_tellsTwo_0 : decode cX4_tellsTwo 0 = .ok (.iload_n 0, 1) := by decide +kernel
theorem dX4_tellsTwo_1 : decode cX4_tellsTwo 1 = .ok (.iconst 2, 1) := by decide +kernel
theorem dX4_tellsTwo_2 : decode cX4_tellsTwo 2 = .ok (.if_icmp .eq 24, 3) := by decide +kernel
theorem dX4_tellsTwo_5 : decode cX4_tellsTwo 5 = .ok (.iload_n 0, 1) := by decide +kernel
theorem dX4_tellsTwo_6 : decode cX4_tellsTwo 6 = .ok (.iconst 3, 1) := by decide +kernel
theorem dX4_tellsTwo_7 : decode cX4_tellsTwo 7 = .ok (.if_icmp .eq 19, 3) := by decide +kernel
theorem dX4_tellsTwo_10 : decode cX4_tellsTwo 10 = .ok (.iload_n 0, 1) := by decide +kernel
theorem dX4_tellsTwo_11 : decode cX4_tellsTwo 11 = .ok (.iconst 4, 1) := by decide +kernel
theorem dX4_tellsTwo_12 : decode cX4_tellsTwo 12 = .ok (.if_icmp .eq 14, 3) := by decide +kernel
theorem dX4_tellsTwo_15 : decode cX4_tellsTwo 15 = .ok (.iload_n 0, 1) := by decide +kernel
theorem dX4_tellsTwo_16 : decode cX4_tellsTwo 16 = .ok (.iconst 5, 1) := by decide +kernel
theorem dX4_tellsTwo_17 : decode cX4_tellsTwo 17 = .ok (.if_icmp .eq 9, 3) := by decide +kernel
theorem dX4_tellsTwo_20 : decode cX4_tellsTwo 20 = .ok (.iload_n 0, 1) := by decide +kernel
theorem dX4_tellsTwo_21 : decode cX4_tellsTwo 21 = .ok (.bipush 7, 2) := by decide +kernel
theorem dX4_tellsTwo_23 : decode cX4_tellsTwo 23 = .ok (.if_icmp .ne 7, 3) := by decide +kernel
theorem dX4_tellsTwo_26 : decode cX4_tellsTwo 26 = .ok (.iconst 1, 1) := by decide +kernel
theorem dX4_tellsTwo_27 : decode cX4_tellsTwo 27 = .ok (.goto 4, 3) := by decide +kernel
theorem dX4_tellsTwo_30 : decode cX4_tellsTwo 30 = .ok (.iconst 0, 1) := by decide +kernel
theorem dX4_tellsTwo_31 : decode cX4_tellsTwo 31 = .ok (.ireturn, 1) := by decide +kernel
theorem dX4_tellsLow_0 : decode cX4_tellsLow 0 = .ok (.iload_n 0, 1) := by decide +kernel
theorem dX4_tellsLow_1 : decode cX4_tellsLow 1 = .ok (.bipush 6, 2) := by decide +kernel
theorem dX4_tellsLow_3 : decode cX4_tellsLow 3 = .ok (.if_icmp .eq 16, 3) := by decide +kernel
theorem dX4_tellsLow_6 : decode cX4_tellsLow 6 = .ok (.iload_n 0, 1) := by decide +kernel
theorem dX4_tellsLow_7 : decode cX4_tellsLow 7 = .ok (.bipush 7, 2) := by decide +kernel
theorem dX4_tellsLow_9 : decode cX4_tellsLow 9 = .ok (.if_icmp .eq 10, 3) := by decide +kernel
theorem dX4_tellsLow_12 : decode cX4_tellsLow 12 = .ok (.iload_n 0, 1) := by decide +kernel
theorem dX4_tellsLow_13 : decode cX4_tellsLow 13 = .ok (.invokestatic 9, 3) := by decide +kernel
theorem dX4_tellsLow_16 : decode cX4_tellsLow 16 = .ok (.ifCond .eq 7, 3) := by decide +kernel
theorem dX4_tellsLow_19 : decode cX4_tellsLow 19 = .ok (.iconst 1, 1) := by decide +kernel
theorem dX4_tellsLow_20 : decode cX4_tellsLow 20 = .ok (.goto 4, 3) := by decide +kernel
theorem dX4_tellsLow_23 : decode cX4_tellsLow 23 = .ok (.iconst 0, 1) := by decide +kernel
theorem dX4_tellsLow_24 : decode cX4_tellsLow 24 = .ok (.ireturn, 1) := by decide +kernel
theorem dX4_tellsHigh_0 : decode cX4_tellsHigh 0 = .ok (.iload_n 0, 1) := by decide +kernel
theorem dX4_tellsHigh_1 : decode cX4_tellsHigh 1 = .ok (.ifCond .eq 13, 3) := by decide +kernel
theorem dX4_tellsHigh_4 : decode cX4_tellsHigh 4 = .ok (.iload_n 0, 1) := by decide +kernel
theorem dX4_tellsHigh_5 : decode cX4_tellsHigh 5 = .ok (.iconst 1, 1) := by decide +kernel
theorem dX4_tellsHigh_6 : decode cX4_tellsHigh 6 = .ok (.if_icmp .eq 8, 3) := by decide +kernel
theorem dX4_tellsHigh_9 : decode cX4_tellsHigh 9 = .ok (.iload_n 0, 1) := by decide +kernel
theorem dX4_tellsHigh_10 : decode cX4_tellsHigh 10 = .ok (.iconst 4, 1) := by decide +kernel
theorem dX4_tellsHigh_11 : decode cX4_tellsHigh 11 = .ok (.if_icmp .ne 7, 3) := by decide +kernel
theorem dX4_tellsHigh_14 : decode cX4_tellsHigh 14 = .ok (.iconst 1, 1) := by decide +kernel
theorem dX4_tellsHigh_15 : decode cX4_tellsHigh 15 = .ok (.goto 4, 3) := by decide +kernel
theorem dX4_tellsHigh_18 : decode cX4_tellsHigh 18 = .ok (.iconst 0, 1) := by decide +kernel
theorem dX4_tellsHigh_19 : decode cX4_tellsHigh 19 = .ok (.ireturn, 1) := by decide +kernel
theorem dX4_letterOf_0 : decode cX4_letterOf 0 = .ok (.iload_n 0, 1) := by decide +kernel
theorem dX4_letterOf_1 : decode cX4_letterOf 1 = .ok (.ifCond .lt 19, 3) := by decide +kernel
theorem dX4_letterOf_4 : decode cX4_letterOf 4 = .ok (.iload_n 0, 1) := by decide +kernel
theorem dX4_letterOf_5 : decode cX4_letterOf 5 = .ok (.getstatic 15, 3) := by decide +kernel
theorem dX4_letterOf_8 : decode cX4_letterOf 8 = .ok (.arraylength, 1) := by decide +kernel
theorem dX4_letterOf_9 : decode cX4_letterOf 9 = .ok (.if_icmp .ge 11, 3) := by decide +kernel
theorem dX4_letterOf_12 : decode cX4_letterOf 12 = .ok (.getstatic 15, 3) := by decide +kernel
theorem dX4_letterOf_15 : decode cX4_letterOf 15 = .ok (.iload_n 0, 1) := by decide +kernel
theorem dX4_letterOf_16 : decode cX4_letterOf 16 = .ok (.caload, 1) := by decide +kernel
theorem dX4_letterOf_17 : decode cX4_letterOf 17 = .ok (.goto 5, 3) := by decide +kernel
theorem dX4_letterOf_20 : decode cX4_letterOf 20 = .ok (.bipush 32, 2) := by decide +kernel
theorem dX4_letterOf_22 : decode cX4_letterOf 22 = .ok (.ireturn, 1) := by decide +kernel
theorem dX4_makeSame_0 : decode cX4_makeSame 0 = .ok (.aload_n 0, 1) := by decide +kernel
theorem dX4_makeSame_1 : decode cX4_makeSame 1 = .ok (.iconst 5, 1) := by decide +kernel
theorem dX4_makeSame_2 : decode cX4_makeSame 2 = .ok (.putfield 19, 3) := by decide +kernel
theorem dX4_makeSame_5 : decode cX4_makeSame 5 = .ok (.aload_n 0, 1) := by decide +kernel
theorem dX4_makeSame_6 : decode cX4_makeSame 6 = .ok (.iload_n 1, 1) := by decide +kernel
theorem dX4_makeSame_7 : decode cX4_makeSame 7 = .ok (.putfield 23, 3) := by decide +kernel
theorem dX4_makeSame_10 : decode cX4_makeSame 10 = .ok (.aload_n 0, 1) := by decide +kernel
theorem dX4_makeSame_11 : decode cX4_makeSame 11 = .ok (.iload_n 2, 1) := by decide +kernel
theorem dX4_makeSame_12 : decode cX4_makeSame 12 = .ok (.putfield 26, 3) := by decide +kernel
theorem dX4_makeSame_15 : decode cX4_makeSame 15 = .ok (.aload_n 0, 1) := by decide +kernel
theorem dX4_makeSame_16 : decode cX4_makeSame 16 = .ok (.bipush (-5), 2) := by decide +kernel
theorem dX4_makeSame_18 : decode cX4_makeSame 18 = .ok (.putfield 29, 3) := by decide +kernel
theorem dX4_makeSame_21 : decode cX4_makeSame 21 = .ok (.aload_n 0, 1) := by decide +kernel
theorem dX4_makeSame_22 : decode cX4_makeSame 22 = .ok (.bipush (-5), 2) := by decide +kernel
theorem dX4_makeSame_24 : decode cX4_makeSame 24 = .ok (.putfield 32, 3) := by decide +kernel
theorem dX4_makeSame_27 : decode cX4_makeSame 27 = .ok (.return_, 1) := by decide +kernel
theorem dX4_reads_0 : decode cX4_reads 0 = .ok (.aload_n 0, 1) := by decide +kernel
theorem dX4_reads_1 : decode cX4_reads 1 = .ok (.bipush (-5), 2) := by decide +kernel
theorem dX4_reads_3 : decode cX4_reads 3 = .ok (.putfield 26, 3) := by decide +kernel
theorem dX4_reads_6 : decode cX4_reads 6 = .ok (.aload_n 0, 1) := by decide +kernel
theorem dX4_reads_7 : decode cX4_reads 7 = .ok (.bipush (-5), 2) := by decide +kernel
theorem dX4_reads_9 : decode cX4_reads 9 = .ok (.putfield 29, 3) := by decide +kernel
theorem dX4_reads_12 : decode cX4_reads 12 = .ok (.aload_n 0, 1) := by decide +kernel
theorem dX4_reads_13 : decode cX4_reads 13 = .ok (.bipush (-5), 2) := by decide +kernel
theorem dX4_reads_15 : decode cX4_reads 15 = .ok (.putfield 32, 3) := by decide +kernel
theorem dX4_reads_18 : decode cX4_reads 18 = .ok (.aload_n 0, 1) := by decide +kernel
theorem dX4_reads_19 : decode cX4_reads 19 = .ok (.iconst (-1), 1) := by decide +kernel
theorem dX4_reads_20 : decode cX4_reads 20 = .ok (.putfield 35, 3) := by decide +kernel
theorem dX4_reads_23 : decode cX4_reads 23 = .ok (.aload_n 0, 1) := by decide +kernel
theorem dX4_reads_24 : decode cX4_reads 24 = .ok (.aload_n 1, 1) := by decide +kernel
theorem dX4_reads_25 : decode cX4_reads 25 = .ok (.iconst 0, 1) := by decide +kernel
theorem dX4_reads_26 : decode cX4_reads 26 = .ok (.invokevirtual 38, 3) := by decide +kernel
theorem dX4_reads_29 : decode cX4_reads 29 = .ok (.invokestatic 44, 3) := by decide +kernel
theorem dX4_reads_32 : decode cX4_reads 32 = .ok (.putfield 19, 3) := by decide +kernel
theorem dX4_reads_35 : decode cX4_reads 35 = .ok (.aload_n 0, 1) := by decide +kernel
theorem dX4_reads_36 : decode cX4_reads 36 = .ok (.getfield 19, 3) := by decide +kernel
theorem dX4_reads_39 : decode cX4_reads 39 = .ok (.ifCond .ge 10, 3) := by decide +kernel
theorem dX4_reads_42 : decode cX4_reads 42 = .ok (.aload_n 0, 1) := by decide +kernel
theorem dX4_reads_43 : decode cX4_reads 43 = .ok (.iconst 0, 1) := by decide +kernel
theorem dX4_reads_44 : decode cX4_reads 44 = .ok (.putfield 35, 3) := by decide +kernel
theorem dX4_reads_47 : decode cX4_reads 47 = .ok (.iconst 0, 1) := by decide +kernel
theorem dX4_reads_48 : decode cX4_reads 48 = .ok (.ireturn, 1) := by decide +kernel
theorem dX4_reads_49 : decode cX4_reads 49 = .ok (.aload_n 0, 1) := by decide +kernel
theorem dX4_reads_50 : decode cX4_reads 50 = .ok (.iconst 1, 1) := by decide +kernel
theorem dX4_reads_51 : decode cX4_reads 51 = .ok (.putfield 47, 3) := by decide +kernel
theorem dX4_reads_54 : decode cX4_reads 54 = .ok (.aload_n 0, 1) := by decide +kernel
theorem dX4_reads_55 : decode cX4_reads 55 = .ok (.aload_n 0, 1) := by decide +kernel
theorem dX4_reads_56 : decode cX4_reads 56 = .ok (.aload_n 1, 1) := by decide +kernel
theorem dX4_reads_57 : decode cX4_reads 57 = .ok (.iconst 0, 1) := by decide +kernel
theorem dX4_reads_58 : decode cX4_reads 58 = .ok (.iload_n 2, 1) := by decide +kernel
theorem dX4_reads_59 : decode cX4_reads 59 = .ok (.iconst 1, 1) := by decide +kernel
theorem dX4_reads_60 : decode cX4_reads 60 = .ok (.isub, 1) := by decide +kernel
theorem dX4_reads_61 : decode cX4_reads 61 = .ok (.invokevirtual 50, 3) := by decide +kernel
theorem dX4_reads_64 : decode cX4_reads 64 = .ok (.putfield 23, 3) := by decide +kernel
theorem dX4_reads_67 : decode cX4_reads 67 = .ok (.aload_n 0, 1) := by decide +kernel
theorem dX4_reads_68 : decode cX4_reads 68 = .ok (.getfield 19, 3) := by decide +kernel
theorem dX4_reads_71 : decode cX4_reads 71 = .ok (.invokestatic 54, 3) := by decide +kernel
theorem dX4_reads_74 : decode cX4_reads 74 = .ok (.ifCond .eq 42, 3) := by decide +kernel
theorem dX4_reads_77 : decode cX4_reads 77 = .ok (.aload_n 0, 1) := by decide +kernel
theorem dX4_reads_78 : decode cX4_reads 78 = .ok (.aload_n 0, 1) := by decide +kernel
theorem dX4_reads_79 : decode cX4_reads 79 = .ok (.aload_n 1, 1) := by decide +kernel
theorem dX4_reads_80 : decode cX4_reads 80 = .ok (.iconst 0, 1) := by decide +kernel
theorem dX4_reads_81 : decode cX4_reads 81 = .ok (.iload_n 2, 1) := by decide +kernel
theorem dX4_reads_82 : decode cX4_reads 82 = .ok (.iconst 1, 1) := by decide +kernel
theorem dX4_reads_83 : decode cX4_reads 83 = .ok (.isub, 1) := by decide +kernel
theorem dX4_reads_84 : decode cX4_reads 84 = .ok (.invokevirtual 50, 3) := by decide +kernel
theorem dX4_reads_87 : decode cX4_reads 87 = .ok (.putfield 26, 3) := by decide +kernel
theorem dX4_reads_90 : decode cX4_reads 90 = .ok (.aload_n 0, 1) := by decide +kernel
theorem dX4_reads_91 : decode cX4_reads 91 = .ok (.getfield 35, 3) := by decide +kernel
theorem dX4_reads_94 : decode cX4_reads 94 = .ok (.ifCond .ge 22, 3) := by decide +kernel
theorem dX4_reads_97 : decode cX4_reads 97 = .ok (.aload_n 0, 1) := by decide +kernel
theorem dX4_reads_98 : decode cX4_reads 98 = .ok (.getfield 26, 3) := by decide +kernel
theorem dX4_reads_101 : decode cX4_reads 101 = .ok (.aload_n 0, 1) := by decide +kernel
theorem dX4_reads_102 : decode cX4_reads 102 = .ok (.getfield 23, 3) := by decide +kernel
theorem dX4_reads_105 : decode cX4_reads 105 = .ok (.if_icmp .ne 11, 3) := by decide +kernel
theorem dX4_reads_108 : decode cX4_reads 108 = .ok (.aload_n 0, 1) := by decide +kernel
theorem dX4_reads_109 : decode cX4_reads 109 = .ok (.aload_n 0, 1) := by decide +kernel
theorem dX4_reads_110 : decode cX4_reads 110 = .ok (.getfield 57, 3) := by decide +kernel
theorem dX4_reads_113 : decode cX4_reads 113 = .ok (.putfield 35, 3) := by decide +kernel
theorem dX4_reads_116 : decode cX4_reads 116 = .ok (.aload_n 0, 1) := by decide +kernel
theorem dX4_reads_117 : decode cX4_reads 117 = .ok (.getfield 19, 3) := by decide +kernel
theorem dX4_reads_120 : decode cX4_reads 120 = .ok (.invokestatic 60, 3) := by decide +kernel
theorem dX4_reads_123 : decode cX4_reads 123 = .ok (.ifCond .eq 30, 3) := by decide +kernel
theorem dX4_reads_126 : decode cX4_reads 126 = .ok (.aload_n 0, 1) := by decide +kernel
theorem dX4_reads_127 : decode cX4_reads 127 = .ok (.aload_n 0, 1) := by decide +kernel
theorem dX4_reads_128 : decode cX4_reads 128 = .ok (.aload_n 1, 1) := by decide +kernel
theorem dX4_reads_129 : decode cX4_reads 129 = .ok (.iconst 0, 1) := by decide +kernel
theorem dX4_reads_130 : decode cX4_reads 130 = .ok (.aload_n 0, 1) := by decide +kernel
theorem dX4_reads_131 : decode cX4_reads 131 = .ok (.getfield 19, 3) := by decide +kernel
theorem dX4_reads_134 : decode cX4_reads 134 = .ok (.bipush 7, 2) := by decide +kernel
theorem dX4_reads_136 : decode cX4_reads 136 = .ok (.if_icmp .ne 8, 3) := by decide +kernel
theorem dX4_reads_139 : decode cX4_reads 139 = .ok (.bipush 99, 2) := by decide +kernel
theorem dX4_reads_141 : decode cX4_reads 141 = .ok (.goto 6, 3) := by decide +kernel
theorem dX4_reads_144 : decode cX4_reads 144 = .ok (.sipush 3000, 3) := by decide +kernel
theorem dX4_reads_147 : decode cX4_reads 147 = .ok (.invokevirtual 50, 3) := by decide +kernel
theorem dX4_reads_150 : decode cX4_reads 150 = .ok (.putfield 29, 3) := by decide +kernel
theorem dX4_reads_153 : decode cX4_reads 153 = .ok (.aload_n 0, 1) := by decide +kernel
theorem dX4_reads_154 : decode cX4_reads 154 = .ok (.getfield 19, 3) := by decide +kernel
theorem dX4_reads_157 : decode cX4_reads 157 = .ok (.invokestatic 9, 3) := by decide +kernel
theorem dX4_reads_160 : decode cX4_reads 160 = .ok (.ifCond .eq 19, 3) := by decide +kernel
theorem dX4_reads_163 : decode cX4_reads 163 = .ok (.aload_n 0, 1) := by decide +kernel
theorem dX4_reads_164 : decode cX4_reads 164 = .ok (.aload_n 0, 1) := by decide +kernel
theorem dX4_reads_165 : decode cX4_reads 165 = .ok (.aload_n 1, 1) := by decide +kernel
theorem dX4_reads_166 : decode cX4_reads 166 = .ok (.aload_n 0, 1) := by decide +kernel
theorem dX4_reads_167 : decode cX4_reads 167 = .ok (.getfield 29, 3) := by decide +kernel
theorem dX4_reads_170 : decode cX4_reads 170 = .ok (.sipush 3000, 3) := by decide +kernel
theorem dX4_reads_173 : decode cX4_reads 173 = .ok (.invokevirtual 50, 3) := by decide +kernel
theorem dX4_reads_176 : decode cX4_reads 176 = .ok (.putfield 32, 3) := by decide +kernel
theorem dX4_reads_179 : decode cX4_reads 179 = .ok (.aload_n 0, 1) := by decide +kernel
theorem dX4_reads_180 : decode cX4_reads 180 = .ok (.getfield 35, 3) := by decide +kernel
theorem dX4_reads_183 : decode cX4_reads 183 = .ok (.ifCond .ge 22, 3) := by decide +kernel
theorem dX4_reads_186 : decode cX4_reads 186 = .ok (.aload_n 0, 1) := by decide +kernel
theorem dX4_reads_187 : decode cX4_reads 187 = .ok (.getfield 47, 3) := by decide +kernel
theorem dX4_reads_190 : decode cX4_reads 190 = .ok (.aload_n 1, 1) := by decide +kernel
theorem dX4_reads_191 : decode cX4_reads 191 = .ok (.getfield 63, 3) := by decide +kernel
theorem dX4_reads_194 : decode cX4_reads 194 = .ok (.if_icmp .ge 11, 3) := by decide +kernel
theorem dX4_reads_197 : decode cX4_reads 197 = .ok (.aload_n 0, 1) := by decide +kernel
theorem dX4_reads_198 : decode cX4_reads 198 = .ok (.aload_n 0, 1) := by decide +kernel
theorem dX4_reads_199 : decode cX4_reads 199 = .ok (.getfield 47, 3) := by decide +kernel
theorem dX4_reads_202 : decode cX4_reads 202 = .ok (.putfield 35, 3) := by decide +kernel
theorem dX4_reads_205 : decode cX4_reads 205 = .ok (.aload_n 0, 1) := by decide +kernel
theorem dX4_reads_206 : decode cX4_reads 206 = .ok (.getfield 35, 3) := by decide +kernel
theorem dX4_reads_209 : decode cX4_reads 209 = .ok (.ifCond .ge 7, 3) := by decide +kernel
theorem dX4_reads_212 : decode cX4_reads 212 = .ok (.iconst 1, 1) := by decide +kernel
theorem dX4_reads_213 : decode cX4_reads 213 = .ok (.goto 4, 3) := by decide +kernel
theorem dX4_reads_216 : decode cX4_reads 216 = .ok (.iconst 0, 1) := by decide +kernel
theorem dX4_reads_217 : decode cX4_reads 217 = .ok (.ireturn, 1) := by decide +kernel
theorem dX4_sortOf_0 : decode cX4_sortOf 0 = .ok (.iconst 0, 1) := by decide +kernel
theorem dX4_sortOf_1 : decode cX4_sortOf 1 = .ok (.istore_n 1, 1) := by decide +kernel
theorem dX4_sortOf_2 : decode cX4_sortOf 2 = .ok (.iload_n 1, 1) := by decide +kernel
theorem dX4_sortOf_3 : decode cX4_sortOf 3 = .ok (.getstatic 15, 3) := by decide +kernel
theorem dX4_sortOf_6 : decode cX4_sortOf 6 = .ok (.arraylength, 1) := by decide +kernel
theorem dX4_sortOf_7 : decode cX4_sortOf 7 = .ok (.if_icmp .ge 20, 3) := by decide +kernel
theorem dX4_sortOf_10 : decode cX4_sortOf 10 = .ok (.getstatic 15, 3) := by decide +kernel
theorem dX4_sortOf_13 : decode cX4_sortOf 13 = .ok (.iload_n 1, 1) := by decide +kernel
theorem dX4_sortOf_14 : decode cX4_sortOf 14 = .ok (.caload, 1) := by decide +kernel
theorem dX4_sortOf_15 : decode cX4_sortOf 15 = .ok (.iload_n 0, 1) := by decide +kernel
theorem dX4_sortOf_16 : decode cX4_sortOf 16 = .ok (.if_icmp .ne 5, 3) := by decide +kernel
theorem dX4_sortOf_19 : decode cX4_sortOf 19 = .ok (.iload_n 1, 1) := by decide +kernel
theorem dX4_sortOf_20 : decode cX4_sortOf 20 = .ok (.ireturn, 1) := by decide +kernel
theorem dX4_sortOf_21 : decode cX4_sortOf 21 = .ok (.iinc 1 1, 3) := by decide +kernel
theorem dX4_sortOf_24 : decode cX4_sortOf 24 = .ok (.goto (-22), 3) := by decide +kernel
theorem dX4_sortOf_27 : decode cX4_sortOf 27 = .ok (.iconst (-1), 1) := by decide +kernel
theorem dX4_sortOf_28 : decode cX4_sortOf 28 = .ok (.ireturn, 1) := by decide +kernel
theorem dX4_takeNumber_0 : decode cX4_takeNumber 0 = .ok (.aload_n 0, 1) := by decide +kernel
theorem dX4_takeNumber_1 : decode cX4_takeNumber 1 = .ok (.getfield 35, 3) := by decide +kernel
theorem dX4_takeNumber_4 : decode cX4_takeNumber 4 = .ok (.ifCond .lt 6, 3) := by decide +kernel
theorem dX4_takeNumber_7 : decode cX4_takeNumber 7 = .ok (.bipush (-5), 2) := by decide +kernel
theorem dX4_takeNumber_9 : decode cX4_takeNumber 9 = .ok (.ireturn, 1) := by decide +kernel
theorem dX4_takeNumber_10 : decode cX4_takeNumber 10 = .ok (.aload_n 1, 1) := by decide +kernel
theorem dX4_takeNumber_11 : decode cX4_takeNumber 11 = .ok (.aload_n 0, 1) := by decide +kernel
theorem dX4_takeNumber_12 : decode cX4_takeNumber 12 = .ok (.getfield 47, 3) := by decide +kernel
theorem dX4_takeNumber_15 : decode cX4_takeNumber 15 = .ok (.invokevirtual 38, 3) := by decide +kernel
theorem dX4_takeNumber_18 : decode cX4_takeNumber 18 = .ok (.bipush 32, 2) := by decide +kernel
theorem dX4_takeNumber_20 : decode cX4_takeNumber 20 = .ok (.if_icmp .eq 14, 3) := by decide +kernel
theorem dX4_takeNumber_23 : decode cX4_takeNumber 23 = .ok (.aload_n 0, 1) := by decide +kernel
theorem dX4_takeNumber_24 : decode cX4_takeNumber 24 = .ok (.aload_n 0, 1) := by decide +kernel
theorem dX4_takeNumber_25 : decode cX4_takeNumber 25 = .ok (.getfield 47, 3) := by decide +kernel
theorem dX4_takeNumber_28 : decode cX4_takeNumber 28 = .ok (.putfield 35, 3) := by decide +kernel
theorem dX4_takeNumber_31 : decode cX4_takeNumber 31 = .ok (.bipush (-5), 2) := by decide +kernel
theorem dX4_takeNumber_33 : decode cX4_takeNumber 33 = .ok (.ireturn, 1) := by decide +kernel
theorem dX4_takeNumber_34 : decode cX4_takeNumber 34 = .ok (.aload_n 0, 1) := by decide +kernel
theorem dX4_takeNumber_35 : decode cX4_takeNumber 35 = .ok (.aload_n 0, 1) := by decide +kernel
theorem dX4_takeNumber_36 : decode cX4_takeNumber 36 = .ok (.getfield 47, 3) := by decide +kernel
theorem dX4_takeNumber_39 : decode cX4_takeNumber 39 = .ok (.iconst 1, 1) := by decide +kernel
theorem dX4_takeNumber_40 : decode cX4_takeNumber 40 = .ok (.iadd, 1) := by decide +kernel
theorem dX4_takeNumber_41 : decode cX4_takeNumber 41 = .ok (.putfield 57, 3) := by decide +kernel
theorem dX4_takeNumber_44 : decode cX4_takeNumber 44 = .ok (.aload_n 0, 1) := by decide +kernel
theorem dX4_takeNumber_45 : decode cX4_takeNumber 45 = .ok (.aload_n 0, 1) := by decide +kernel
theorem dX4_takeNumber_46 : decode cX4_takeNumber 46 = .ok (.getfield 57, 3) := by decide +kernel
theorem dX4_takeNumber_49 : decode cX4_takeNumber 49 = .ok (.putfield 47, 3) := by decide +kernel
theorem dX4_takeNumber_52 : decode cX4_takeNumber 52 = .ok (.iconst 0, 1) := by decide +kernel
theorem dX4_takeNumber_53 : decode cX4_takeNumber 53 = .ok (.istore 4, 2) := by decide +kernel
theorem dX4_takeNumber_55 : decode cX4_takeNumber 55 = .ok (.iconst 0, 1) := by decide +kernel
theorem dX4_takeNumber_56 : decode cX4_takeNumber 56 = .ok (.istore 5, 2) := by decide +kernel
theorem dX4_takeNumber_58 : decode cX4_takeNumber 58 = .ok (.iload 5, 2) := by decide +kernel
theorem dX4_takeNumber_60 : decode cX4_takeNumber 60 = .ok (.iconst 4, 1) := by decide +kernel
theorem dX4_takeNumber_61 : decode cX4_takeNumber 61 = .ok (.if_icmp .ge 49, 3) := by decide +kernel
theorem dX4_takeNumber_64 : decode cX4_takeNumber 64 = .ok (.aload_n 1, 1) := by decide +kernel
theorem dX4_takeNumber_65 : decode cX4_takeNumber 65 = .ok (.aload_n 0, 1) := by decide +kernel
theorem dX4_takeNumber_66 : decode cX4_takeNumber 66 = .ok (.getfield 47, 3) := by decide +kernel
theorem dX4_takeNumber_69 : decode cX4_takeNumber 69 = .ok (.invokevirtual 66, 3) := by decide +kernel
theorem dX4_takeNumber_72 : decode cX4_takeNumber 72 = .ok (.ifCond .eq 38, 3) := by decide +kernel
theorem dX4_takeNumber_75 : decode cX4_takeNumber 75 = .ok (.bipush 10, 2) := by decide +kernel
theorem dX4_takeNumber_77 : decode cX4_takeNumber 77 = .ok (.iload 4, 2) := by decide +kernel
theorem dX4_takeNumber_79 : decode cX4_takeNumber 79 = .ok (.imul, 1) := by decide +kernel
theorem dX4_takeNumber_80 : decode cX4_takeNumber 80 = .ok (.aload_n 1, 1) := by decide +kernel
theorem dX4_takeNumber_81 : decode cX4_takeNumber 81 = .ok (.aload_n 0, 1) := by decide +kernel
theorem dX4_takeNumber_82 : decode cX4_takeNumber 82 = .ok (.getfield 47, 3) := by decide +kernel
theorem dX4_takeNumber_85 : decode cX4_takeNumber 85 = .ok (.invokevirtual 38, 3) := by decide +kernel
theorem dX4_takeNumber_88 : decode cX4_takeNumber 88 = .ok (.iadd, 1) := by decide +kernel
theorem dX4_takeNumber_89 : decode cX4_takeNumber 89 = .ok (.bipush 48, 2) := by decide +kernel
theorem dX4_takeNumber_91 : decode cX4_takeNumber 91 = .ok (.isub, 1) := by decide +kernel
theorem dX4_takeNumber_92 : decode cX4_takeNumber 92 = .ok (.istore 4, 2) := by decide +kernel
theorem dX4_takeNumber_94 : decode cX4_takeNumber 94 = .ok (.aload_n 0, 1) := by decide +kernel
theorem dX4_takeNumber_95 : decode cX4_takeNumber 95 = .ok (.dup, 1) := by decide +kernel
theorem dX4_takeNumber_96 : decode cX4_takeNumber 96 = .ok (.getfield 47, 3) := by decide +kernel
theorem dX4_takeNumber_99 : decode cX4_takeNumber 99 = .ok (.iconst 1, 1) := by decide +kernel
theorem dX4_takeNumber_100 : decode cX4_takeNumber 100 = .ok (.iadd, 1) := by decide +kernel
theorem dX4_takeNumber_101 : decode cX4_takeNumber 101 = .ok (.putfield 47, 3) := by decide +kernel
theorem dX4_takeNumber_104 : decode cX4_takeNumber 104 = .ok (.iinc 5 1, 3) := by decide +kernel
theorem dX4_takeNumber_107 : decode cX4_takeNumber 107 = .ok (.goto (-49), 3) := by decide +kernel
theorem dX4_takeNumber_110 : decode cX4_takeNumber 110 = .ok (.aload_n 0, 1) := by decide +kernel
theorem dX4_takeNumber_111 : decode cX4_takeNumber 111 = .ok (.getfield 47, 3) := by decide +kernel
theorem dX4_takeNumber_114 : decode cX4_takeNumber 114 = .ok (.aload_n 0, 1) := by decide +kernel
theorem dX4_takeNumber_115 : decode cX4_takeNumber 115 = .ok (.getfield 57, 3) := by decide +kernel
theorem dX4_takeNumber_118 : decode cX4_takeNumber 118 = .ok (.if_icmp .eq 15, 3) := by decide +kernel
theorem dX4_takeNumber_121 : decode cX4_takeNumber 121 = .ok (.iload 4, 2) := by decide +kernel
theorem dX4_takeNumber_123 : decode cX4_takeNumber 123 = .ok (.iload_n 2, 1) := by decide +kernel
theorem dX4_takeNumber_124 : decode cX4_takeNumber 124 = .ok (.if_icmp .lt 9, 3) := by decide +kernel
theorem dX4_takeNumber_127 : decode cX4_takeNumber 127 = .ok (.iload 4, 2) := by decide +kernel
theorem dX4_takeNumber_129 : decode cX4_takeNumber 129 = .ok (.iload_n 3, 1) := by decide +kernel
theorem dX4_takeNumber_130 : decode cX4_takeNumber 130 = .ok (.if_icmp .le 14, 3) := by decide +kernel
theorem dX4_takeNumber_133 : decode cX4_takeNumber 133 = .ok (.aload_n 0, 1) := by decide +kernel
theorem dX4_takeNumber_134 : decode cX4_takeNumber 134 = .ok (.aload_n 0, 1) := by decide +kernel
theorem dX4_takeNumber_135 : decode cX4_takeNumber 135 = .ok (.getfield 57, 3) := by decide +kernel
theorem dX4_takeNumber_138 : decode cX4_takeNumber 138 = .ok (.putfield 35, 3) := by decide +kernel
theorem dX4_takeNumber_141 : decode cX4_takeNumber 141 = .ok (.bipush (-5), 2) := by decide +kernel
theorem dX4_takeNumber_143 : decode cX4_takeNumber 143 = .ok (.ireturn, 1) := by decide +kernel
theorem dX4_takeNumber_144 : decode cX4_takeNumber 144 = .ok (.iload 4, 2) := by decide +kernel
theorem dX4_takeNumber_146 : decode cX4_takeNumber 146 = .ok (.ireturn, 1) := by decide +kernel
theorem dX5_init_0 : decode cX5_init 0 = .ok (.aload_n 0, 1) := by decide +kernel
theorem dX5_init_1 : decode cX5_init 1 = .ok (.invokespecial 3, 3) := by decide +kernel
theorem dX5_init_4 : decode cX5_init 4 = .ok (.aload_n 0, 1) := by decide +kernel
theorem dX5_init_5 : decode cX5_init 5 = .ok (.iload_n 1, 1) := by decide +kernel
theorem dX5_init_6 : decode cX5_init 6 = .ok (.newarray .byte, 2) := by decide +kernel
theorem dX5_init_8 : decode cX5_init 8 = .ok (.putfield 9, 3) := by decide +kernel
theorem dX5_init_11 : decode cX5_init 11 = .ok (.return_, 1) := by decide +kernel
theorem dX5_wipe_0 : decode cX5_wipe 0 = .ok (.aload_n 0, 1) := by decide +kernel
theorem dX5_wipe_1 : decode cX5_wipe 1 = .ok (.iconst 0, 1) := by decide +kernel
theorem dX5_wipe_2 : decode cX5_wipe 2 = .ok (.putfield 15, 3) := by decide +kernel
theorem dX5_wipe_5 : decode cX5_wipe 5 = .ok (.return_, 1) := by decide +kernel
theorem dX5_put_0 : decode cX5_put 0 = .ok (.aload_n 0, 1) := by decide +kernel
theorem dX5_put_1 : decode cX5_put 1 = .ok (.getfield 15, 3) := by decide +kernel
theorem dX5_put_4 : decode cX5_put 4 = .ok (.aload_n 0, 1) := by decide +kernel
theorem dX5_put_5 : decode cX5_put 5 = .ok (.getfield 9, 3) := by decide +kernel
theorem dX5_put_8 : decode cX5_put 8 = .ok (.arraylength, 1) := by decide +kernel
theorem dX5_put_9 : decode cX5_put 9 = .ok (.if_icmp .ge 24, 3) := by decide +kernel
theorem dX5_put_12 : decode cX5_put 12 = .ok (.aload_n 0, 1) := by decide +kernel
theorem dX5_put_13 : decode cX5_put 13 = .ok (.getfield 9, 3) := by decide +kernel
theorem dX5_put_16 : decode cX5_put 16 = .ok (.aload_n 0, 1) := by decide +kernel
theorem dX5_put_17 : decode cX5_put 17 = .ok (.getfield 15, 3) := by decide +kernel
theorem dX5_put_20 : decode cX5_put 20 = .ok (.iload_n 1, 1) := by decide +kernel
theorem dX5_put_21 : decode cX5_put 21 = .ok (.i2b, 1) := by decide +kernel
theorem dX5_put_22 : decode cX5_put 22 = .ok (.bastore, 1) := by decide +kernel
theorem dX5_put_23 : decode cX5_put 23 = .ok (.aload_n 0, 1) := by decide +kernel
theorem dX5_put_24 : decode cX5_put 24 = .ok (.dup, 1) := by decide +kernel
theorem dX5_put_25 : decode cX5_put 25 = .ok (.getfield 15, 3) := by decide +kernel
theorem dX5_put_28 : decode cX5_put 28 = .ok (.iconst 1, 1) := by decide +kernel
theorem dX5_put_29 : decode cX5_put 29 = .ok (.iadd, 1) := by decide +kernel
theorem dX5_put_30 : decode cX5_put 30 = .ok (.putfield 15, 3) := by decide +kernel
theorem dX5_put_33 : decode cX5_put 33 = .ok (.return_, 1) := by decide +kernel
theorem dX5_putAll_0 : decode cX5_putAll 0 = .ok (.iconst 0, 1) := by decide +kernel
theorem dX5_putAll_1 : decode cX5_putAll 1 = .ok (.istore_n 2, 1) := by decide +kernel
theorem dX5_putAll_2 : decode cX5_putAll 2 = .ok (.iload_n 2, 1) := by decide +kernel
theorem dX5_putAll_3 : decode cX5_putAll 3 = .ok (.aload_n 1, 1) := by decide +kernel
theorem dX5_putAll_4 : decode cX5_putAll 4 = .ok (.invokevirtual 19, 3) := by decide +kernel
theorem dX5_putAll_7 : decode cX5_putAll 7 = .ok (.if_icmp .ge 18, 3) := by decide +kernel
theorem dX5_putAll_10 : decode cX5_putAll 10 = .ok (.aload_n 0, 1) := by decide +kernel
theorem dX5_putAll_11 : decode cX5_putAll 11 = .ok (.aload_n 1, 1) := by decide +kernel
theorem dX5_putAll_12 : decode cX5_putAll 12 = .ok (.iload_n 2, 1) := by decide +kernel
theorem dX5_putAll_13 : decode cX5_putAll 13 = .ok (.invokevirtual 24, 3) := by decide +kernel
theorem dX5_putAll_16 : decode cX5_putAll 16 = .ok (.invokevirtual 28, 3) := by decide +kernel
theorem dX5_putAll_19 : decode cX5_putAll 19 = .ok (.iinc 2 1, 3) := by decide +kernel
theorem dX5_putAll_22 : decode cX5_putAll 22 = .ok (.goto (-20), 3) := by decide +kernel
theorem dX5_putAll_25 : decode cX5_putAll 25 = .ok (.return_, 1) := by decide +kernel
theorem dX5_putNumber_0 : decode cX5_putNumber 0 = .ok (.iload_n 1, 1) := by decide +kernel
theorem dX5_putNumber_1 : decode cX5_putNumber 1 = .ok (.sipush 1000, 3) := by decide +kernel
theorem dX5_putNumber_4 : decode cX5_putNumber 4 = .ok (.if_icmp .lt 18, 3) := by decide +kernel
theorem dX5_putNumber_7 : decode cX5_putNumber 7 = .ok (.aload_n 0, 1) := by decide +kernel
theorem dX5_putNumber_8 : decode cX5_putNumber 8 = .ok (.bipush 48, 2) := by decide +kernel
theorem dX5_putNumber_10 : decode cX5_putNumber 10 = .ok (.iload_n 1, 1) := by decide +kernel
theorem dX5_putNumber_11 : decode cX5_putNumber 11 = .ok (.sipush 1000, 3) := by decide +kernel
theorem dX5_putNumber_14 : decode cX5_putNumber 14 = .ok (.idiv, 1) := by decide +kernel
theorem dX5_putNumber_15 : decode cX5_putNumber 15 = .ok (.bipush 10, 2) := by decide +kernel
theorem dX5_putNumber_17 : decode cX5_putNumber 17 = .ok (.irem, 1) := by decide +kernel
theorem dX5_putNumber_18 : decode cX5_putNumber 18 = .ok (.iadd, 1) := by decide +kernel
theorem dX5_putNumber_19 : decode cX5_putNumber 19 = .ok (.invokevirtual 28, 3) := by decide +kernel
theorem dX5_putNumber_22 : decode cX5_putNumber 22 = .ok (.iload_n 1, 1) := by decide +kernel
theorem dX5_putNumber_23 : decode cX5_putNumber 23 = .ok (.bipush 100, 2) := by decide +kernel
theorem dX5_putNumber_25 : decode cX5_putNumber 25 = .ok (.if_icmp .lt 17, 3) := by decide +kernel
theorem dX5_putNumber_28 : decode cX5_putNumber 28 = .ok (.aload_n 0, 1) := by decide +kernel
theorem dX5_putNumber_29 : decode cX5_putNumber 29 = .ok (.bipush 48, 2) := by decide +kernel
theorem dX5_putNumber_31 : decode cX5_putNumber 31 = .ok (.iload_n 1, 1) := by decide +kernel
theorem dX5_putNumber_32 : decode cX5_putNumber 32 = .ok (.bipush 100, 2) := by decide +kernel
theorem dX5_putNumber_34 : decode cX5_putNumber 34 = .ok (.idiv, 1) := by decide +kernel
theorem dX5_putNumber_35 : decode cX5_putNumber 35 = .ok (.bipush 10, 2) := by decide +kernel
theorem dX5_putNumber_37 : decode cX5_putNumber 37 = .ok (.irem, 1) := by decide +kernel
theorem dX5_putNumber_38 : decode cX5_putNumber 38 = .ok (.iadd, 1) := by decide +kernel
theorem dX5_putNumber_39 : decode cX5_putNumber 39 = .ok (.invokevirtual 28, 3) := by decide +kernel
theorem dX5_putNumber_42 : decode cX5_putNumber 42 = .ok (.iload_n 1, 1) := by decide +kernel
theorem dX5_putNumber_43 : decode cX5_putNumber 43 = .ok (.bipush 10, 2) := by decide +kernel
theorem dX5_putNumber_45 : decode cX5_putNumber 45 = .ok (.if_icmp .lt 17, 3) := by decide +kernel
theorem dX5_putNumber_48 : decode cX5_putNumber 48 = .ok (.aload_n 0, 1) := by decide +kernel
theorem dX5_putNumber_49 : decode cX5_putNumber 49 = .ok (.bipush 48, 2) := by decide +kernel
theorem dX5_putNumber_51 : decode cX5_putNumber 51 = .ok (.iload_n 1, 1) := by decide +kernel
theorem dX5_putNumber_52 : decode cX5_putNumber 52 = .ok (.bipush 10, 2) := by decide +kernel
theorem dX5_putNumber_54 : decode cX5_putNumber 54 = .ok (.idiv, 1) := by decide +kernel
theorem dX5_putNumber_55 : decode cX5_putNumber 55 = .ok (.bipush 10, 2) := by decide +kernel
theorem dX5_putNumber_57 : decode cX5_putNumber 57 = .ok (.irem, 1) := by decide +kernel
theorem dX5_putNumber_58 : decode cX5_putNumber 58 = .ok (.iadd, 1) := by decide +kernel
theorem dX5_putNumber_59 : decode cX5_putNumber 59 = .ok (.invokevirtual 28, 3) := by decide +kernel
theorem dX5_putNumber_62 : decode cX5_putNumber 62 = .ok (.aload_n 0, 1) := by decide +kernel
theorem dX5_putNumber_63 : decode cX5_putNumber 63 = .ok (.bipush 48, 2) := by decide +kernel
theorem dX5_putNumber_65 : decode cX5_putNumber 65 = .ok (.iload_n 1, 1) := by decide +kernel
theorem dX5_putNumber_66 : decode cX5_putNumber 66 = .ok (.bipush 10, 2) := by decide +kernel
theorem dX5_putNumber_68 : decode cX5_putNumber 68 = .ok (.irem, 1) := by decide +kernel
theorem dX5_putNumber_69 : decode cX5_putNumber 69 = .ok (.iadd, 1) := by decide +kernel
theorem dX5_putNumber_70 : decode cX5_putNumber 70 = .ok (.invokevirtual 28, 3) := by decide +kernel
theorem dX5_putNumber_73 : decode cX5_putNumber 73 = .ok (.return_, 1) := by decide +kernel
theorem dX5_at_0 : decode cX5_at 0 = .ok (.iload_n 1, 1) := by decide +kernel
theorem dX5_at_1 : decode cX5_at 1 = .ok (.ifCond .lt 20, 3) := by decide +kernel
theorem dX5_at_4 : decode cX5_at 4 = .ok (.iload_n 1, 1) := by decide +kernel
theorem dX5_at_5 : decode cX5_at 5 = .ok (.aload_n 0, 1) := by decide +kernel
theorem dX5_at_6 : decode cX5_at 6 = .ok (.getfield 15, 3) := by decide +kernel
theorem dX5_at_9 : decode cX5_at 9 = .ok (.if_icmp .ge 12, 3) := by decide +kernel
theorem dX5_at_12 : decode cX5_at 12 = .ok (.aload_n 0, 1) := by decide +kernel
theorem dX5_at_13 : decode cX5_at 13 = .ok (.getfield 9, 3) := by decide +kernel
theorem dX5_at_16 : decode cX5_at 16 = .ok (.iload_n 1, 1) := by decide +kernel
theorem dX5_at_17 : decode cX5_at 17 = .ok (.baload, 1) := by decide +kernel
theorem dX5_at_18 : decode cX5_at 18 = .ok (.goto 4, 3) := by decide +kernel
theorem dX5_at_21 : decode cX5_at 21 = .ok (.iconst (-1), 1) := by decide +kernel
theorem dX5_at_22 : decode cX5_at 22 = .ok (.ireturn, 1) := by decide +kernel
theorem dX5_isFigure_0 : decode cX5_isFigure 0 = .ok (.aload_n 0, 1) := by decide +kernel
theorem dX5_isFigure_1 : decode cX5_isFigure 1 = .ok (.iload_n 1, 1) := by decide +kernel
theorem dX5_isFigure_2 : decode cX5_isFigure 2 = .ok (.invokevirtual 32, 3) := by decide +kernel
theorem dX5_isFigure_5 : decode cX5_isFigure 5 = .ok (.istore_n 2, 1) := by decide +kernel
theorem dX5_isFigure_6 : decode cX5_isFigure 6 = .ok (.iload_n 2, 1) := by decide +kernel
theorem dX5_isFigure_7 : decode cX5_isFigure 7 = .ok (.bipush 48, 2) := by decide +kernel
theorem dX5_isFigure_9 : decode cX5_isFigure 9 = .ok (.if_icmp .lt 13, 3) := by decide +kernel
theorem dX5_isFigure_12 : decode cX5_isFigure 12 = .ok (.iload_n 2, 1) := by decide +kernel
theorem dX5_isFigure_13 : decode cX5_isFigure 13 = .ok (.bipush 57, 2) := by decide +kernel
theorem dX5_isFigure_15 : decode cX5_isFigure 15 = .ok (.if_icmp .gt 7, 3) := by decide +kernel
theorem dX5_isFigure_18 : decode cX5_isFigure 18 = .ok (.iconst 1, 1) := by decide +kernel
theorem dX5_isFigure_19 : decode cX5_isFigure 19 = .ok (.goto 4, 3) := by decide +kernel
theorem dX5_isFigure_22 : decode cX5_isFigure 22 = .ok (.iconst 0, 1) := by decide +kernel
theorem dX5_isFigure_23 : decode cX5_isFigure 23 = .ok (.ireturn, 1) := by decide +kernel
theorem dX5_nameFault_0 : decode cX5_nameFault 0 = .ok (.iconst 0, 1) := by decide +kernel
theorem dX5_nameFault_1 : decode cX5_nameFault 1 = .ok (.istore_n 1, 1) := by decide +kernel
theorem dX5_nameFault_2 : decode cX5_nameFault 2 = .ok (.iload_n 1, 1) := by decide +kernel
theorem dX5_nameFault_3 : decode cX5_nameFault 3 = .ok (.aload_n 0, 1) := by decide +kernel
theorem dX5_nameFault_4 : decode cX5_nameFault 4 = .ok (.getfield 15, 3) := by decide +kernel
theorem dX5_nameFault_7 : decode cX5_nameFault 7 = .ok (.if_icmp .ge 39, 3) := by decide +kernel
theorem dX5_nameFault_10 : decode cX5_nameFault 10 = .ok (.iload_n 1, 1) := by decide +kernel
theorem dX5_nameFault_11 : decode cX5_nameFault 11 = .ok (.bipush 7, 2) := by decide +kernel
theorem dX5_nameFault_13 : decode cX5_nameFault 13 = .ok (.if_icmp .ge 25, 3) := by decide +kernel
theorem dX5_nameFault_16 : decode cX5_nameFault 16 = .ok (.aload_n 0, 1) := by decide +kernel
theorem dX5_nameFault_17 : decode cX5_nameFault 17 = .ok (.getfield 9, 3) := by decide +kernel
theorem dX5_nameFault_20 : decode cX5_nameFault 20 = .ok (.iload_n 1, 1) := by decide +kernel
theorem dX5_nameFault_21 : decode cX5_nameFault 21 = .ok (.baload, 1) := by decide +kernel
theorem dX5_nameFault_22 : decode cX5_nameFault 22 = .ok (.bipush 97, 2) := by decide +kernel
theorem dX5_nameFault_24 : decode cX5_nameFault 24 = .ok (.if_icmp .lt 14, 3) := by decide +kernel
theorem dX5_nameFault_27 : decode cX5_nameFault 27 = .ok (.aload_n 0, 1) := by decide +kernel
theorem dX5_nameFault_28 : decode cX5_nameFault 28 = .ok (.getfield 9, 3) := by decide +kernel
theorem dX5_nameFault_31 : decode cX5_nameFault 31 = .ok (.iload_n 1, 1) := by decide +kernel
theorem dX5_nameFault_32 : decode cX5_nameFault 32 = .ok (.baload, 1) := by decide +kernel
theorem dX5_nameFault_33 : decode cX5_nameFault 33 = .ok (.bipush 122, 2) := by decide +kernel
theorem dX5_nameFault_35 : decode cX5_nameFault 35 = .ok (.if_icmp .le 5, 3) := by decide +kernel
theorem dX5_nameFault_38 : decode cX5_nameFault 38 = .ok (.iload_n 1, 1) := by decide +kernel
theorem dX5_nameFault_39 : decode cX5_nameFault 39 = .ok (.ireturn, 1) := by decide +kernel
theorem dX5_nameFault_40 : decode cX5_nameFault 40 = .ok (.iinc 1 1, 3) := by decide +kernel
theorem dX5_nameFault_43 : decode cX5_nameFault 43 = .ok (.goto (-41), 3) := by decide +kernel
theorem dX5_nameFault_46 : decode cX5_nameFault 46 = .ok (.aload_n 0, 1) := by decide +kernel
theorem dX5_nameFault_47 : decode cX5_nameFault 47 = .ok (.getfield 15, 3) := by decide +kernel
theorem dX5_nameFault_50 : decode cX5_nameFault 50 = .ok (.ifCond .ne 7, 3) := by decide +kernel
theorem dX5_nameFault_53 : decode cX5_nameFault 53 = .ok (.iconst 0, 1) := by decide +kernel
theorem dX5_nameFault_54 : decode cX5_nameFault 54 = .ok (.goto 4, 3) := by decide +kernel
theorem dX5_nameFault_57 : decode cX5_nameFault 57 = .ok (.iconst (-1), 1) := by decide +kernel
theorem dX5_nameFault_58 : decode cX5_nameFault 58 = .ok (.ireturn, 1) := by decide +kernel
theorem dX6_putKin_0 : decode cX6_putKin 0 = .ok (.aload_n 1, 1) := by decide +kernel
theorem dX6_putKin_1 : decode cX6_putKin 1 = .ok (.getfield 9, 3) := by decide +kernel
theorem dX6_putKin_4 : decode cX6_putKin 4 = .ok (.istore 4, 2) := by decide +kernel
theorem dX6_putKin_6 : decode cX6_putKin 6 = .ok (.aload_n 1, 1) := by decide +kernel
theorem dX6_putKin_7 : decode cX6_putKin 7 = .ok (.getfield 15, 3) := by decide +kernel
theorem dX6_putKin_10 : decode cX6_putKin 10 = .ok (.istore 5, 2) := by decide +kernel
theorem dX6_putKin_12 : decode cX6_putKin 12 = .ok (.iload_n 2, 1) := by decide +kernel
theorem dX6_putKin_13 : decode cX6_putKin 13 = .ok (.ifCond .eq 9, 3) := by decide +kernel
theorem dX6_putKin_16 : decode cX6_putKin 16 = .ok (.aload_n 0, 1) := by decide +kernel
theorem dX6_putKin_17 : decode cX6_putKin 17 = .ok (.ldc 18, 2) := by decide +kernel
theorem dX6_putKin_19 : decode cX6_putKin 19 = .ok (.invokevirtual 20, 3) := by decide +kernel
theorem dX6_putKin_22 : decode cX6_putKin 22 = .ok (.iload 4, 2) := by decide +kernel
theorem dX6_putKin_24 : decode cX6_putKin 24 = .ok (.ifCond .ne 17, 3) := by decide +kernel
theorem dX6_putKin_27 : decode cX6_putKin 27 = .ok (.iload 5, 2) := by decide +kernel
theorem dX6_putKin_29 : decode cX6_putKin 29 = .ok (.ifCond .ne 12, 3) := by decide +kernel
theorem dX6_putKin_32 : decode cX6_putKin 32 = .ok (.aload_n 0, 1) := by decide +kernel
theorem dX6_putKin_33 : decode cX6_putKin 33 = .ok (.ldc 26, 2) := by decide +kernel
theorem dX6_putKin_35 : decode cX6_putKin 35 = .ok (.invokevirtual 20, 3) := by decide +kernel
theorem dX6_putKin_38 : decode cX6_putKin 38 = .ok (.goto 147, 3) := by decide +kernel
theorem dX6_putKin_41 : decode cX6_putKin 41 = .ok (.iload 4, 2) := by decide +kernel
theorem dX6_putKin_43 : decode cX6_putKin 43 = .ok (.ifCond .ne 25, 3) := by decide +kernel
theorem dX6_putKin_46 : decode cX6_putKin 46 = .ok (.aload_n 0, 1) := by decide +kernel
theorem dX6_putKin_47 : decode cX6_putKin 47 = .ok (.iload 5, 2) := by decide +kernel
theorem dX6_putKin_49 : decode cX6_putKin 49 = .ok (.iconst 1, 1) := by decide +kernel
theorem dX6_putKin_50 : decode cX6_putKin 50 = .ok (.isub, 1) := by decide +kernel
theorem dX6_putKin_51 : decode cX6_putKin 51 = .ok (.invokestatic 28, 3) := by decide +kernel
theorem dX6_putKin_54 : decode cX6_putKin 54 = .ok (.aload_n 0, 1) := by decide +kernel
theorem dX6_putKin_55 : decode cX6_putKin 55 = .ok (.iload_n 3, 1) := by decide +kernel
theorem dX6_putKin_56 : decode cX6_putKin 56 = .ok (.ldc 34, 2) := by decide +kernel
theorem dX6_putKin_58 : decode cX6_putKin 58 = .ok (.ldc 36, 2) := by decide +kernel
theorem dX6_putKin_60 : decode cX6_putKin 60 = .ok (.ldc 38, 2) := by decide +kernel
theorem dX6_putKin_62 : decode cX6_putKin 62 = .ok (.invokestatic 40, 3) := by decide +kernel
theorem dX6_putKin_65 : decode cX6_putKin 65 = .ok (.goto 120, 3) := by decide +kernel
theorem dX6_putKin_68 : decode cX6_putKin 68 = .ok (.iload 5, 2) := by decide +kernel
theorem dX6_putKin_70 : decode cX6_putKin 70 = .ok (.ifCond .ne 25, 3) := by decide +kernel
theorem dX6_putKin_73 : decode cX6_putKin 73 = .ok (.aload_n 0, 1) := by decide +kernel
theorem dX6_putKin_74 : decode cX6_putKin 74 = .ok (.iload 4, 2) := by decide +kernel
theorem dX6_putKin_76 : decode cX6_putKin 76 = .ok (.iconst 1, 1) := by decide +kernel
theorem dX6_putKin_77 : decode cX6_putKin 77 = .ok (.isub, 1) := by decide +kernel
theorem dX6_putKin_78 : decode cX6_putKin 78 = .ok (.invokestatic 28, 3) := by decide +kernel
theorem dX6_putKin_81 : decode cX6_putKin 81 = .ok (.aload_n 0, 1) := by decide +kernel
theorem dX6_putKin_82 : decode cX6_putKin 82 = .ok (.iload_n 3, 1) := by decide +kernel
theorem dX6_putKin_83 : decode cX6_putKin 83 = .ok (.ldc 44, 2) := by decide +kernel
theorem dX6_putKin_85 : decode cX6_putKin 85 = .ok (.ldc 46, 2) := by decide +kernel
theorem dX6_putKin_87 : decode cX6_putKin 87 = .ok (.ldc 48, 2) := by decide +kernel
theorem dX6_putKin_89 : decode cX6_putKin 89 = .ok (.invokestatic 40, 3) := by decide +kernel
theorem dX6_putKin_92 : decode cX6_putKin 92 = .ok (.goto 93, 3) := by decide +kernel
theorem dX6_putKin_95 : decode cX6_putKin 95 = .ok (.iload 4, 2) := by decide +kernel
theorem dX6_putKin_97 : decode cX6_putKin 97 = .ok (.iconst 1, 1) := by decide +kernel
theorem dX6_putKin_98 : decode cX6_putKin 98 = .ok (.if_icmp .ne 23, 3) := by decide +kernel
theorem dX6_putKin_101 : decode cX6_putKin 101 = .ok (.iload 5, 2) := by decide +kernel
theorem dX6_putKin_103 : decode cX6_putKin 103 = .ok (.iconst 1, 1) := by decide +kernel
theorem dX6_putKin_104 : decode cX6_putKin 104 = .ok (.if_icmp .ne 17, 3) := by decide +kernel
theorem dX6_putKin_107 : decode cX6_putKin 107 = .ok (.aload_n 0, 1) := by decide +kernel
theorem dX6_putKin_108 : decode cX6_putKin 108 = .ok (.iload_n 3, 1) := by decide +kernel
theorem dX6_putKin_109 : decode cX6_putKin 109 = .ok (.ldc 50, 2) := by decide +kernel
theorem dX6_putKin_111 : decode cX6_putKin 111 = .ok (.ldc 52, 2) := by decide +kernel
theorem dX6_putKin_113 : decode cX6_putKin 113 = .ok (.ldc 54, 2) := by decide +kernel
theorem dX6_putKin_115 : decode cX6_putKin 115 = .ok (.invokestatic 40, 3) := by decide +kernel
theorem dX6_putKin_118 : decode cX6_putKin 118 = .ok (.goto 67, 3) := by decide +kernel
theorem dX6_putKin_121 : decode cX6_putKin 121 = .ok (.iload 4, 2) := by decide +kernel
theorem dX6_putKin_123 : decode cX6_putKin 123 = .ok (.iconst 1, 1) := by decide +kernel
theorem dX6_putKin_124 : decode cX6_putKin 124 = .ok (.if_icmp .ne 25, 3) := by decide +kernel
theorem dX6_putKin_127 : decode cX6_putKin 127 = .ok (.aload_n 0, 1) := by decide +kernel
theorem dX6_putKin_128 : decode cX6_putKin 128 = .ok (.iload 5, 2) := by decide +kernel
theorem dX6_putKin_130 : decode cX6_putKin 130 = .ok (.iconst 2, 1) := by decide +kernel
theorem dX6_putKin_131 : decode cX6_putKin 131 = .ok (.isub, 1) := by decide +kernel
theorem dX6_putKin_132 : decode cX6_putKin 132 = .ok (.invokestatic 28, 3) := by decide +kernel
theorem dX6_putKin_135 : decode cX6_putKin 135 = .ok (.aload_n 0, 1) := by decide +kernel
theorem dX6_putKin_136 : decode cX6_putKin 136 = .ok (.iload_n 3, 1) := by decide +kernel
theorem dX6_putKin_137 : decode cX6_putKin 137 = .ok (.ldc 56, 2) := by decide +kernel
theorem dX6_putKin_139 : decode cX6_putKin 139 = .ok (.ldc 58, 2) := by decide +kernel
theorem dX6_putKin_141 : decode cX6_putKin 141 = .ok (.ldc 60, 2) := by decide +kernel
theorem dX6_putKin_143 : decode cX6_putKin 143 = .ok (.invokestatic 40, 3) := by decide +kernel
theorem dX6_putKin_146 : decode cX6_putKin 146 = .ok (.goto 39, 3) := by decide +kernel
theorem dX6_putKin_149 : decode cX6_putKin 149 = .ok (.iload 5, 2) := by decide +kernel
theorem dX6_putKin_151 : decode cX6_putKin 151 = .ok (.iconst 1, 1) := by decide +kernel
theorem dX6_putKin_152 : decode cX6_putKin 152 = .ok (.if_icmp .ne 25, 3) := by decide +kernel
theorem dX6_putKin_155 : decode cX6_putKin 155 = .ok (.aload_n 0, 1) := by decide +kernel
theorem dX6_putKin_156 : decode cX6_putKin 156 = .ok (.iload 4, 2) := by decide +kernel
theorem dX6_putKin_158 : decode cX6_putKin 158 = .ok (.iconst 2, 1) := by decide +kernel
theorem dX6_putKin_159 : decode cX6_putKin 159 = .ok (.isub, 1) := by decide +kernel
theorem dX6_putKin_160 : decode cX6_putKin 160 = .ok (.invokestatic 28, 3) := by decide +kernel
theorem dX6_putKin_163 : decode cX6_putKin 163 = .ok (.aload_n 0, 1) := by decide +kernel
theorem dX6_putKin_164 : decode cX6_putKin 164 = .ok (.iload_n 3, 1) := by decide +kernel
theorem dX6_putKin_165 : decode cX6_putKin 165 = .ok (.ldc 62, 2) := by decide +kernel
theorem dX6_putKin_167 : decode cX6_putKin 167 = .ok (.ldc 64, 2) := by decide +kernel
theorem dX6_putKin_169 : decode cX6_putKin 169 = .ok (.ldc 66, 2) := by decide +kernel
theorem dX6_putKin_171 : decode cX6_putKin 171 = .ok (.invokestatic 40, 3) := by decide +kernel
theorem dX6_putKin_174 : decode cX6_putKin 174 = .ok (.goto 11, 3) := by decide +kernel
theorem dX6_putKin_177 : decode cX6_putKin 177 = .ok (.aload_n 0, 1) := by decide +kernel
theorem dX6_putKin_178 : decode cX6_putKin 178 = .ok (.iload 4, 2) := by decide +kernel
theorem dX6_putKin_180 : decode cX6_putKin 180 = .ok (.iload 5, 2) := by decide +kernel
theorem dX6_putKin_182 : decode cX6_putKin 182 = .ok (.invokestatic 68, 3) := by decide +kernel
theorem dX6_putKin_185 : decode cX6_putKin 185 = .ok (.return_, 1) := by decide +kernel
theorem dX6_putBySex_0 : decode cX6_putBySex 0 = .ok (.aload_n 0, 1) := by decide +kernel
theorem dX6_putBySex_1 : decode cX6_putBySex 1 = .ok (.iload_n 1, 1) := by decide +kernel
theorem dX6_putBySex_2 : decode cX6_putBySex 2 = .ok (.iconst 1, 1) := by decide +kernel
theorem dX6_putBySex_3 : decode cX6_putBySex 3 = .ok (.if_icmp .ne 7, 3) := by decide +kernel
theorem dX6_putBySex_6 : decode cX6_putBySex 6 = .ok (.aload_n 2, 1) := by decide +kernel
theorem dX6_putBySex_7 : decode cX6_putBySex 7 = .ok (.goto 14, 3) := by decide +kernel
theorem dX6_putBySex_10 : decode cX6_putBySex 10 = .ok (.iload_n 1, 1) := by decide +kernel
theorem dX6_putBySex_11 : decode cX6_putBySex 11 = .ok (.iconst 2, 1) := by decide +kernel
theorem dX6_putBySex_12 : decode cX6_putBySex 12 = .ok (.if_icmp .ne 7, 3) := by decide +kernel
theorem dX6_putBySex_15 : decode cX6_putBySex 15 = .ok (.aload_n 3, 1) := by decide +kernel
theorem dX6_putBySex_16 : decode cX6_putBySex 16 = .ok (.goto 5, 3) := by decide +kernel
theorem dX6_putBySex_19 : decode cX6_putBySex 19 = .ok (.aload 4, 2) := by decide +kernel
theorem dX6_putBySex_21 : decode cX6_putBySex 21 = .ok (.invokevirtual 20, 3) := by decide +kernel
theorem dX6_putBySex_24 : decode cX6_putBySex 24 = .ok (.return_, 1) := by decide +kernel
theorem dX6_putGrand_0 : decode cX6_putGrand 0 = .ok (.iconst 0, 1) := by decide +kernel
theorem dX6_putGrand_1 : decode cX6_putGrand 1 = .ok (.istore_n 2, 1) := by decide +kernel
theorem dX6_putGrand_2 : decode cX6_putGrand 2 = .ok (.iload_n 2, 1) := by decide +kernel
theorem dX6_putGrand_3 : decode cX6_putGrand 3 = .ok (.iload_n 1, 1) := by decide +kernel
theorem dX6_putGrand_4 : decode cX6_putGrand 4 = .ok (.if_icmp .ge 21, 3) := by decide +kernel
theorem dX6_putGrand_7 : decode cX6_putGrand 7 = .ok (.iload_n 2, 1) := by decide +kernel
theorem dX6_putGrand_8 : decode cX6_putGrand 8 = .ok (.bipush 30, 2) := by decide +kernel
theorem dX6_putGrand_10 : decode cX6_putGrand 10 = .ok (.if_icmp .ge 15, 3) := by decide +kernel
theorem dX6_putGrand_13 : decode cX6_putGrand 13 = .ok (.aload_n 0, 1) := by decide +kernel
theorem dX6_putGrand_14 : decode cX6_putGrand 14 = .ok (.ldc 72, 2) := by decide +kernel
theorem dX6_putGrand_16 : decode cX6_putGrand 16 = .ok (.invokevirtual 20, 3) := by decide +kernel
