theorem kltC : kLt NC kdC := fun _ h => kdC_lt h
theorem kltM : kLt NM kdM := fun _ h => kdM_lt h
theorem kzC_0 : kdC 0 = (0, 8, 14) := by decide +kernel
theorem kzC_1 : kdC 1 = (0, 0, 11) := by decide +kernel
theorem kzC_2 : kdC 2 = (3, 30, 2) := by decide +kernel
theorem kzC_3 : kdC 3 = (2, 7, 0) := by decide +kernel
theorem kzC_4 : kdC 4 = (2, 7, 0) := by decide +kernel
theorem kzC_5 : kdC 5 = (2, 7, 0) := by decide +kernel
theorem kzC_6 : kdC 6 = (2, 7, 0) := by decide +kernel
theorem kzC_7 : kdC 7 = (2, 7, 0) := by decide +kernel
theorem kzC_8 : kdC 8 = (2, 7, 0) := by decide +kernel
theorem kzC_9 : kdC 9 = (2, 7, 0) := by decide +kernel
theorem kzC_10 : kdC 10 = (2, 7, 0) := by decide +kernel
theorem kzC_11 : kdC 11 = (2, 7, 0) := by decide +kernel
theorem kzC_12 : kdC 12 = (2, 7, 0) := by decide +kernel
theorem kzC_13 : kdC 13 = (2, 7, 0) := by decide +kernel
theorem kzC_14 : kdC 14 = (2, 7, 0) := by decide +kernel
theorem kzC_15 : kdC 15 = (2, 7, 0) := by decide +kernel
theorem kzC_16 : kdC 16 = (2, 7, 0) := by decide +kernel
theorem kzC_17 : kdC 17 = (2, 7, 0) := by decide +kernel
theorem kzC_18 : kdC 18 = (2, 7, 0) := by decide +kernel
theorem kzC_19 : kdC 19 = (2, 7, 0) := by decide +kernel
theorem kzC_20 : kdC 20 = (2, 7, 0) := by decide +kernel
theorem kzC_21 : kdC 21 = (2, 7, 0) := by decide +kernel
theorem kzC_22 : kdC 22 = (2, 7, 0) := by decide +kernel
theorem kzC_23 : kdC 23 = (2, 7, 0) := by decide +kernel
theorem kzC_24 : kdC 24 = (2, 7, 0) := by decide +kernel
theorem kzC_25 : kdC 25 = (2, 7, 0) := by decide +kernel
theorem kzC_26 : kdC 26 = (2, 7, 0) := by decide +kernel
theorem kzC_27 : kdC 27 = (2, 7, 0) := by decide +kernel
theorem kzC_28 : kdC 28 = (2, 7, 0) := by decide +kernel
theorem kzC_29 : kdC 29 = (2, 7, 0) := by decide +kernel
theorem kzC_30 : kdC 30 = (2, 7, 0) := by decide +kernel
theorem kzC_31 : kdC 31 = (2, 7, 0) := by decide +kernel
theorem kzC_32 : kdC 32 = (2, 7, 0) := by decide +kernel
theorem kzC_33 : kdC 33 = (1, 30, 0) := by decide +kernel
theorem kzC_34 : kdC 34 = (1, 30, 0) := by decide +kernel
theorem kzC_35 : kdC 35 = (1, 61, 0) := by decide +kernel
theorem kzC_36 : kdC 36 = (1, 61, 0) := by decide +kernel
theorem kzC_37 : kdC 37 = (1, 61, 0) := by decide +kernel
theorem kzC_38 : kdC 38 = (1, 61, 0) := by decide +kernel
theorem kzC_39 : kdC 39 = (1, 61, 0) := by decide +kernel
theorem kzC_40 : kdC 40 = (1, 61, 0) := by decide +kernel
theorem kzC_41 : kdC 41 = (0, 0, 11) := by decide +kernel
theorem kzC_42 : kdC 42 = (3, 30, 2) := by decide +kernel
theorem kzC_43 : kdC 43 = (2, 7, 0) := by decide +kernel
theorem kzC_44 : kdC 44 = (2, 7, 0) := by decide +kernel
theorem kzC_45 : kdC 45 = (2, 7, 0) := by decide +kernel
theorem kzC_46 : kdC 46 = (2, 7, 0) := by decide +kernel
theorem kzC_47 : kdC 47 = (2, 7, 0) := by decide +kernel
theorem kzC_48 : kdC 48 = (2, 7, 0) := by decide +kernel
theorem kzC_49 : kdC 49 = (2, 7, 0) := by decide +kernel
theorem kzC_50 : kdC 50 = (2, 7, 0) := by decide +kernel
theorem kzC_51 : kdC 51 = (2, 7, 0) := by decide +kernel
theorem kzC_52 : kdC 52 = (2, 7, 0) := by decide +kernel
theorem kzC_53 : kdC 53 = (2, 7, 0) := by decide +kernel
theorem kzC_54 : kdC 54 = (2, 7, 0) := by decide +kernel
theorem kzC_55 : kdC 55 = (2, 7, 0) := by decide +kernel
theorem kzC_56 : kdC 56 = (2, 7, 0) := by decide +kernel
theorem kzC_57 : kdC 57 = (2, 7, 0) := by decide +kernel
theorem kzC_58 : kdC 58 = (2, 7, 0) := by decide +kernel
theorem kzC_59 : kdC 59 = (2, 7, 0) := by decide +kernel
theorem kzC_60 : kdC 60 = (2, 7, 0) := by decide +kernel
theorem kzC_61 : kdC 61 = (2, 7, 0) := by decide +kernel
theorem kzC_62 : kdC 62 = (2, 7, 0) := by decide +kernel
theorem kzC_63 : kdC 63 = (2, 7, 0) := by decide +kernel
theorem kzC_64 : kdC 64 = (2, 7, 0) := by decide +kernel
theorem kzC_65 : kdC 65 = (2, 7, 0) := by decide +kernel
theorem kzC_66 : kdC 66 = (2, 7, 0) := by decide +kernel
theorem kzC_67 : kdC 67 = (2, 7, 0) := by decide +kernel
theorem kzC_68 : kdC 68 = (2, 7, 0) := by decide +kernel
theorem kzC_69 : kdC 69 = (2, 7, 0) := by decide +kernel
theorem kzC_70 : kdC 70 = (2, 7, 0) := by decide +kernel
theorem kzC_71 : kdC 71 = (2, 7, 0) := by decide +kernel
theorem kzC_72 : kdC 72 = (2, 7, 0) := by decide +kernel
theorem kzC_73 : kdC 73 = (1, 30, 0) := by decide +kernel
theorem kzC_74 : kdC 74 = (1, 30, 0) := by decide +kernel
theorem kzC_75 : kdC 75 = (1, 61, 0) := by decide +kernel
theorem kzC_76 : kdC 76 = (1, 61, 0) := by decide +kernel
theorem kzC_77 : kdC 77 = (1, 61, 0) := by decide +kernel
theorem kzC_78 : kdC 78 = (1, 61, 0) := by decide +kernel
theorem kzC_79 : kdC 79 = (1, 61, 0) := by decide +kernel
theorem kzC_80 : kdC 80 = (1, 61, 0) := by decide +kernel
theorem kzC_81 : kdC 81 = (0, 5, 2) := by decide +kernel
theorem kzC_82 : kdC 82 = (2, 60, 0) := by decide +kernel
theorem kzC_83 : kdC 83 = (0, 5, 2) := by decide +kernel
theorem kzC_84 : kdC 84 = (2, 400, 0) := by decide +kernel
theorem kzC_85 : kdC 85 = (0, 4, 8) := by decide +kernel
theorem kzC_86 : kdC 86 = (0, 7, 7) := by decide +kernel
theorem kzC_87 : kdC 87 = (1, 61, 0) := by decide +kernel
theorem kzC_88 : kdC 88 = (0, 1, 13) := by decide +kernel
theorem kzC_89 : kdC 89 = (1, 30, 0) := by decide +kernel
theorem kzC_90 : kdC 90 = (1, 30, 0) := by decide +kernel
theorem kzC_91 : kdC 91 = (1, 30, 0) := by decide +kernel
theorem kzC_92 : kdC 92 = (1, 30, 0) := by decide +kernel
theorem kzC_93 : kdC 93 = (1, 30, 0) := by decide +kernel
theorem kzC_94 : kdC 94 = (1, 30, 0) := by decide +kernel
theorem kzC_95 : kdC 95 = (1, 30, 0) := by decide +kernel
theorem kzC_96 : kdC 96 = (1, 30, 0) := by decide +kernel
theorem kzC_97 : kdC 97 = (1, 30, 0) := by decide +kernel
theorem kzC_98 : kdC 98 = (1, 30, 0) := by decide +kernel
theorem kzC_99 : kdC 99 = (0, 3, 12) := by decide +kernel
theorem kzC_100 : kdC 100 = (1, 242, 0) := by decide +kernel
theorem kzC_101 : kdC 101 = (1, 242, 0) := by decide +kernel
theorem kzC_102 : kdC 102 = (1, 242, 0) := by decide +kernel
theorem kzC_103 : kdC 103 = (1, 335, 0) := by decide +kernel
theorem kzC_104 : kdC 104 = (1, 335, 0) := by decide +kernel
theorem kzC_105 : kdC 105 = (1, 335, 0) := by decide +kernel
theorem kzC_106 : kdC 106 = (1, 335, 0) := by decide +kernel
theorem kzC_107 : kdC 107 = (1, 335, 0) := by decide +kernel
theorem kzC_108 : kdC 108 = (1, 30, 0) := by decide +kernel
theorem kzC_109 : kdC 109 = (0, 7, 7) := by decide +kernel
theorem kzC_110 : kdC 110 = (1, 61, 0) := by decide +kernel
theorem kzC_111 : kdC 111 = (0, 1, 13) := by decide +kernel
theorem kzC_112 : kdC 112 = (1, 30, 0) := by decide +kernel
theorem kzC_113 : kdC 113 = (1, 30, 0) := by decide +kernel
theorem kzC_114 : kdC 114 = (1, 30, 0) := by decide +kernel
theorem kzC_115 : kdC 115 = (1, 30, 0) := by decide +kernel
theorem kzC_116 : kdC 116 = (1, 30, 0) := by decide +kernel
theorem kzC_117 : kdC 117 = (1, 30, 0) := by decide +kernel
theorem kzC_118 : kdC 118 = (1, 30, 0) := by decide +kernel
theorem kzC_119 : kdC 119 = (1, 30, 0) := by decide +kernel
theorem kzC_120 : kdC 120 = (1, 30, 0) := by decide +kernel
theorem kzC_121 : kdC 121 = (1, 30, 0) := by decide +kernel
theorem kzC_122 : kdC 122 = (0, 3, 12) := by decide +kernel
theorem kzC_123 : kdC 123 = (1, 242, 0) := by decide +kernel
theorem kzC_124 : kdC 124 = (1, 242, 0) := by decide +kernel
theorem kzC_125 : kdC 125 = (1, 242, 0) := by decide +kernel
theorem kzC_126 : kdC 126 = (1, 335, 0) := by decide +kernel
theorem kzC_127 : kdC 127 = (1, 335, 0) := by decide +kernel
theorem kzC_128 : kdC 128 = (1, 335, 0) := by decide +kernel
theorem kzC_129 : kdC 129 = (1, 335, 0) := by decide +kernel
theorem kzC_130 : kdC 130 = (1, 335, 0) := by decide +kernel
theorem kzC_131 : kdC 131 = (1, 30, 0) := by decide +kernel
theorem kzC_132 : kdC 132 = (1, 60, 0) := by decide +kernel
theorem kzC_133 : kdC 133 = (0, 6, 5) := by decide +kernel
theorem kzC_134 : kdC 134 = (1, 30, 0) := by decide +kernel
theorem kzC_135 : kdC 135 = (1, 30, 0) := by decide +kernel
theorem kzC_136 : kdC 136 = (0, 2, 2) := by decide +kernel
theorem kzC_137 : kdC 137 = (3, 4, 3) := by decide +kernel
theorem kzC_138 : kdC 138 = (1, 40, 0) := by decide +kernel
theorem kzC_139 : kdC 139 = (1, 40, 0) := by decide +kernel
theorem kzC_140 : kdC 140 = (1, 40, 0) := by decide +kernel
theorem kzC_141 : kdC 141 = (1, 40, 0) := by decide +kernel
theorem kzC_142 : kdC 142 = (1, 4, 0) := by decide +kernel
theorem kzM_0 : kdM 0 = (0, 9, 31) := by decide +kernel
theorem kzM_1 : kdM 1 = (1, 608, 0) := by decide +kernel
theorem kzM_2 : kdM 2 = (1, 608, 0) := by decide +kernel
theorem kzM_3 : kdM 3 = (1, 60, 0) := by decide +kernel
theorem kzM_4 : kdM 4 = (1, 640, 0) := by decide +kernel
theorem kzM_5 : kdM 5 = (1, 6, 0) := by decide +kernel
theorem kzM_6 : kdM 6 = (1, 30, 0) := by decide +kernel
theorem kzM_7 : kdM 7 = (1, 30, 0) := by decide +kernel
theorem kzM_8 : kdM 8 = (1, 30, 0) := by decide +kernel
theorem kzM_9 : kdM 9 = (1, 30, 0) := by decide +kernel
theorem kzM_10 : kdM 10 = (1, 240, 0) := by decide +kernel
theorem kzM_11 : kdM 11 = (1, 240, 0) := by decide +kernel
theorem kzM_12 : kdM 12 = (1, 240, 0) := by decide +kernel
theorem kzM_13 : kdM 13 = (1, 30, 0) := by decide +kernel
theorem kzM_14 : kdM 14 = (1, 30, 0) := by decide +kernel
theorem kzM_15 : kdM 15 = (1, 60, 0) := by decide +kernel
theorem kzM_16 : kdM 16 = (1, 30, 0) := by decide +kernel
theorem kzM_17 : kdM 17 = (1, 30, 0) := by decide +kernel
theorem kzM_18 : kdM 18 = (1, 4, 0) := by decide +kernel
theorem kzM_19 : kdM 19 = (1, 160, 0) := by decide +kernel
theorem lk_X0_99 : GoodIn GW (wsV RX0 99 RX5 yX5_at (Cond.code yX5_at cX5_at 2 (some .int) :: GW)) := k_lkV GW_good mw412 mw299 mw300 mw3 mw301
theorem lk_X0_95 : GoodIn GW (wsV RX0 95 RX0 yX0_isNamed (Cond.code yX0_isNamed cX0_isNamed 4 (some .boolean) :: GW)) := k_lkV GW_good mw409 mw410 mw1275 mw2 mw411
theorem lk_X0_102 : GoodIn GW (wsV RX0 102 RX0 yX0_compareNames (Cond.code yX0_compareNames cX0_compareNames 4 (some .int) :: GW)) := k_lkV GW_good mw421 mw422 mw1276 mw2 mw423
theorem lk_X5_28 : GoodIn GW (wsV RX5 28 RX5 yX5_put (Cond.code yX5_put cX5_put 2 none :: GW)) := k_lkV GW_good mw396 mw283 mw284 mw3 mw285
theorem lk_X0_84 : GoodIn GW (wsV RX0 84 RX5 yX5_put (Cond.code yX5_put cX5_put 2 none :: GW)) := k_lkV GW_good mw388 mw283 mw284 mw3 mw285
theorem lk_X0_92 : GoodIn GW (wsV RX0 92 RX5 yX5_putNumber (Cond.code yX5_putNumber cX5_putNumber 2 none :: GW)) := k_lkV GW_good mw392 mw393 mw394 mw3 mw395
theorem lk_X0_80 : GoodIn GW (Cond.methodLink RX0 80 yX4_letterOf :: Cond.static yX4_letterOf :: Cond.initialized yX4_letterOf.cls :: Cond.code yX4_letterOf cX4_letterOf 1 (some .int) :: GW) := k_lkS GW_good mw385 mw386 mw4 mw387
theorem lk_X0_88 : GoodIn GW (Cond.methodLink RX0 88 yX0_spellNumber :: Cond.static yX0_spellNumber :: Cond.initialized yX0_spellNumber.cls :: Cond.code yX0_spellNumber cX0_spellNumber 2 none :: GW) := k_lkS GW_good mw389 mw390 mw2 mw391
theorem lk_X10_89 : GoodIn GW (Cond.methodLink RX10 89 yX10_has :: Cond.static yX10_has :: Cond.initialized yX10_has.cls :: Cond.code yX10_has cX10_has 2 (some .boolean) :: GW) := k_lkS GW_good mw880 mw881 mw10 mw882
theorem lk_X10_72 : GoodIn GW (Cond.methodLink RX10 72 yX10_isIn :: Cond.static yX10_isIn :: Cond.initialized yX10_isIn.cls :: Cond.code yX10_isIn cX10_isIn 3 (some .boolean) :: GW) := k_lkS GW_good mw988 mw989 mw10 mw990
theorem lk_X10_170 : GoodIn GW (wsV RX10 170 RX10 yX10_isPerson (Cond.code yX10_isPerson cX10_isPerson 2 (some .boolean) :: GW)) := k_lkV GW_good mw1010 mw1011 mw1318 mw10 mw1012
theorem lk_X10_128 : GoodIn GW (Cond.methodLink RX10 128 yX10_bornOf :: Cond.static yX10_bornOf :: Cond.initialized yX10_bornOf.cls :: Cond.code yX10_bornOf cX10_bornOf 1 (some .int) :: GW) := k_lkS GW_good mw901 mw902 mw10 mw903
theorem lk_X10_268 : GoodIn GW (wsV RX10 268 RX10 yX10_areTwo (Cond.code yX10_areTwo cX10_areTwo 3 (some .boolean) :: GW)) := k_lkV GW_good mw1160 mw1161 mw1336 mw10 mw1162
theorem lk_X10_246 : GoodIn GW (wsV RX10 246 RX10 yX10_endOf (Cond.code yX10_endOf cX10_endOf 4 (some .int) :: GW)) := k_lkV GW_good mw1105 mw1106 mw1333 mw10 mw1107
theorem lk_X10_124 : GoodIn GW (wsV RX10 124 RX10 yX10_narrows (Cond.code yX10_narrows cX10_narrows 5 none :: GW)) := k_lkV GW_good mw907 mw908 mw1313 mw10 mw909
theorem lk_X10_131 : GoodIn GW (wsV RX10 131 RX10 yX10_differ (Cond.code yX10_differ cX10_differ 6 none :: GW)) := k_lkV GW_good mw904 mw905 mw1312 mw10 mw906
theorem lk_X10_76 : GoodIn GW (wsV RX10 76 RX10 yX10_told (Cond.code yX10_told cX10_told 3 (some .int) :: GW)) := k_lkV GW_good mw873 mw874 mw1305 mw10 mw875
theorem lk_X10_135 : GoodIn GW (wsV RX10 135 RX10 yX10_isWithin (Cond.code yX10_isWithin cX10_isWithin 4 none :: GW)) := k_lkV GW_good mw913 mw914 mw1315 mw10 mw915
theorem lk_X10_138 : GoodIn GW (Cond.methodLink RX10 138 yX10_yearOf :: Cond.static yX10_yearOf :: Cond.initialized yX10_yearOf.cls :: Cond.code yX10_yearOf cX10_yearOf 1 (some .int) :: GW) := k_lkS GW_good mw916 mw917 mw10 mw918
theorem lk_X10_141 : GoodIn GW (wsV RX10 141 RX10 yX10_weds (Cond.code yX10_weds cX10_weds 3 none :: GW)) := k_lkV GW_good mw919 mw920 mw1316 mw10 mw921
theorem lk_X10_219 : GoodIn GW (wsV RX10 219 RX10 yX10_letterOf (Cond.code yX10_letterOf cX10_letterOf 3 (some .int) :: GW)) := k_lkV GW_good mw1067 mw1068 mw1327 mw10 mw1069
theorem lk_X10_225 : GoodIn GW (wsV RX10 225 RX10 yX10_compares (Cond.code yX10_compares cX10_compares 4 (some .int) :: GW)) := k_lkV GW_good mw1078 mw1079 mw1328 mw10 mw1080
theorem lk_X10_249 : GoodIn GW (Cond.methodLink RX10 249 yX10_toldRange :: Cond.static yX10_toldRange :: Cond.initialized yX10_toldRange.cls :: Cond.code yX10_toldRange cX10_toldRange 1 (some .int) :: GW) := k_lkS GW_good mw1122 mw1123 mw10 mw1124
theorem lk_X10_80 : GoodIn GW (wsV RX10 80 RX10 yX10_isLive (Cond.code yX10_isLive cX10_isLive 3 (some .boolean) :: GW)) := k_lkV GW_good mw870 mw871 mw1304 mw10 mw872
theorem lk_X10_92 : GoodIn GW (wsV RX10 92 RX10 yX10_sexOf (Cond.code yX10_sexOf cX10_sexOf 2 (some .int) :: GW)) := k_lkV GW_good mw892 mw893 mw1310 mw10 mw894
theorem lk_X10_110 : GoodIn GW (wsV RX10 110 RX10 yX10_clashes (Cond.code yX10_clashes cX10_clashes 3 none :: GW)) := k_lkV GW_good mw895 mw896 mw1311 mw10 mw897
theorem lk_X10_114 : GoodIn GW (Cond.methodLink RX10 114 yX10_ones :: Cond.static yX10_ones :: Cond.initialized yX10_ones.cls :: Cond.code yX10_ones cX10_ones 3 (some .int) :: GW) := k_lkS GW_good mw898 mw899 mw10 mw900
theorem lk_X10_103 : GoodIn GW (wsV RX10 103 RX10 yX10_isOne (Cond.code yX10_isOne cX10_isOne 2 (some .boolean) :: GW)) := k_lkV GW_good mw886 mw887 mw1308 mw10 mw888
theorem lk_X10_107 : GoodIn GW (wsV RX10 107 RX10 yX10_sexes (Cond.code yX10_sexes cX10_sexes 4 (some .int) :: GW)) := k_lkV GW_good mw889 mw890 mw1309 mw10 mw891
theorem lk_X10_144 : GoodIn GW (wsV RX10 144 RX10 yX10_joins (Cond.code yX10_joins cX10_joins 6 none :: GW)) := k_lkV GW_good mw867 mw868 mw1303 mw10 mw869
theorem lk_X10_147 : GoodIn GW (wsV RX10 147 RX10 yX10_parents (Cond.code yX10_parents cX10_parents 5 none :: GW)) := k_lkV GW_good mw877 mw878 mw1306 mw10 mw879
theorem lk_X10_153 : GoodIn GW (wsV RX10 153 RX10 yX10_looks (Cond.code yX10_looks cX10_looks 2 none :: GW)) := k_lkV GW_good mw883 mw884 mw1307 mw10 mw885
theorem lk_X10_156 : GoodIn GW (wsV RX10 156 RX10 yX10_applies (Cond.code yX10_applies cX10_applies 5 none :: GW)) := k_lkV GW_good mw910 mw911 mw1314 mw10 mw912
theorem lk_X10_69 : GoodIn GW (wsV RX10 69 RX10 yX10_works (Cond.code yX10_works cX10_works 2 none :: GW)) := k_lkV GW_good mw864 mw865 mw1302 mw10 mw866
theorem lk_X10_261 : GoodIn GW (wsV RX10 261 RX10 yX10_steps (Cond.code yX10_steps cX10_steps 6 none :: GW)) := k_lkV GW_good mw1166 mw1167 mw1338 mw10 mw1168
theorem lk_X10_271 : GoodIn GW (wsV RX10 271 RX10 yX10_meets (Cond.code yX10_meets cX10_meets 6 (some .boolean) :: GW)) := k_lkV GW_good mw1163 mw1164 mw1337 mw10 mw1165
theorem lk_X10_243 : GoodIn GW (wsV RX10 243 RX10 yX10_isEnd (Cond.code yX10_isEnd cX10_isEnd 4 (some .boolean) :: GW)) := k_lkV GW_good mw1102 mw1103 mw1332 mw10 mw1104
theorem lk_X10_222 : GoodIn GW (wsV RX10 222 RX10 yX10_lengthOf (Cond.code yX10_lengthOf cX10_lengthOf 3 (some .int) :: GW)) := k_lkV GW_good mw1064 mw1065 mw1326 mw10 mw1066
theorem lk_X10_355 : GoodIn GW (Cond.methodLink RX10 355 yX10_isList :: Cond.static yX10_isList :: Cond.initialized yX10_isList.cls :: Cond.code yX10_isList cX10_isList 1 (some .boolean) :: GW) := k_lkS GW_good mw1240 mw1241 mw10 mw1242
theorem lk_X10_208 : GoodIn GW (wsV RX10 208 RX10 yX10_writes (Cond.code yX10_writes cX10_writes 2 none :: GW)) := k_lkV GW_good mw1054 mw1055 mw1324 mw10 mw1056
theorem lk_X10_213 : GoodIn GW (wsV RX10 213 RJ0 yJ0_charAt_5068e (Cond.code yJ0_charAt_5068e cJ0_charAt_5068e 2 (some .char) :: GW)) := k_lkV GW_good mw1053 mw709 mw710 mw12 mw711
theorem lk_X10_281 : GoodIn GW (wsV RX10 281 RJ0 yJ0_length_8abf5 (Cond.code yJ0_length_8abf5 cJ0_length_8abf5 1 (some .int) :: GW)) := k_lkV GW_good mw1196 mw700 mw701 mw12 mw702
theorem lk_X10_284 : GoodIn GW (wsV RX10 284 RX10 yX10_writes_ (Cond.code yX10_writes_ cX10_writes_ 3 none :: GW)) := k_lkV GW_good mw1193 mw1194 mw1343 mw10 mw1195
theorem lk_X10_274 : GoodIn GW (wsV RX10 274 RX10 yX10_under (Cond.code yX10_under cX10_under 4 (some .int) :: GW)) := k_lkV GW_good mw1180 mw1181 mw1340 mw10 mw1182
theorem lk_X10_231 : GoodIn GW (Cond.methodLink RX10 231 yX10_least :: Cond.static yX10_least :: Cond.initialized yX10_least.cls :: Cond.code yX10_least cX10_least 2 (some .int) :: GW) := k_lkS GW_good mw1085 mw1086 mw10 mw1087
theorem lk_X10_278 : GoodIn GW (wsV RX10 278 RX10 yX10_isHalf (Cond.code yX10_isHalf cX10_isHalf 4 (some .boolean) :: GW)) := k_lkV GW_good mw1177 mw1178 mw1339 mw10 mw1179
theorem lk_X10_358 : GoodIn GW (Cond.methodLink RX10 358 yX10_copies :: Cond.static yX10_copies :: Cond.initialized yX10_copies.cls :: Cond.code yX10_copies cX10_copies 3 none :: GW) := k_lkS GW_good mw1263 mw1264 mw10 mw1265
theorem lk_X10_349 : GoodIn GW (wsV RX10 349 RX10 yX10_isBornAhead (Cond.code yX10_isBornAhead cX10_isBornAhead 5 (some .boolean) :: GW)) := k_lkV GW_good mw1225 mw1226 mw1346 mw10 mw1227
theorem lk_X10_352 : GoodIn GW (wsV RX10 352 RX10 yX10_orders (Cond.code yX10_orders cX10_orders 4 (some .int) :: GW)) := k_lkV GW_good mw1222 mw1223 mw1345 mw10 mw1224
theorem lk_X10_202 : GoodIn GW (wsV RX10 202 RX10 yX10_isStatement (Cond.code yX10_isStatement cX10_isStatement 2 (some .boolean) :: GW)) := k_lkV GW_good mw1042 mw1043 mw1323 mw10 mw1044
theorem lk_X10_179 : GoodIn GW (wsV RX10 179 RX10 yX10_fails (Cond.code yX10_fails cX10_fails 2 none :: GW)) := k_lkV GW_good mw1023 mw1024 mw1320 mw10 mw1025
theorem lk_X10_185 : GoodIn GW (wsV RX10 185 RX10 yX10_number (Cond.code yX10_number cX10_number 6 (some .int) :: GW)) := k_lkV GW_good mw1026 mw1027 mw1321 mw10 mw1028
theorem lk_X10_189 : GoodIn GW (Cond.methodLink RX10 189 yX10_isOfTwo :: Cond.static yX10_isOfTwo :: Cond.initialized yX10_isOfTwo.cls :: Cond.code yX10_isOfTwo cX10_isOfTwo 1 (some .boolean) :: GW) := k_lkS GW_good mw1029 mw1030 mw10 mw1031
theorem lk_X10_192 : GoodIn GW (Cond.methodLink RX10 192 yX10_isOfYears :: Cond.static yX10_isOfYears :: Cond.initialized yX10_isOfYears.cls :: Cond.code yX10_isOfYears cX10_isOfYears 1 (some .boolean) :: GW) := k_lkS GW_good mw1032 mw1033 mw10 mw1034
theorem lk_X10_182 : GoodIn GW (Cond.methodLink RX10 182 yX10_sortOf :: Cond.static yX10_sortOf :: Cond.initialized yX10_sortOf.cls :: Cond.code yX10_sortOf cX10_sortOf 1 (some .int) :: GW) := k_lkS GW_good mw1020 mw1021 mw10 mw1022
theorem lk_X10_195 : GoodIn GW (wsV RX10 195 RX10 yX10_reads (Cond.code yX10_reads cX10_reads 2 (some .boolean) :: GW)) := k_lkV GW_good mw1017 mw1018 mw1319 mw10 mw1019
theorem lk_X10_258 : GoodIn GW (wsV RX10 258 RX10 yX10_widthOf (Cond.code yX10_widthOf cX10_widthOf 4 (some .int) :: GW)) := k_lkV GW_good mw1149 mw1150 mw1335 mw10 mw1151
theorem lk_X10_199 : GoodIn GW (wsV RX10 199 RX10 yX10_comes (Cond.code yX10_comes cX10_comes 3 none :: GW)) := k_lkV GW_good mw1035 mw1036 mw1322 mw10 mw1037
theorem lk_X10_234 : GoodIn GW (wsV RX10 234 RX10 yX10_childrenOf (Cond.code yX10_childrenOf cX10_childrenOf 4 (some .int) :: GW)) := k_lkV GW_good mw1088 mw1089 mw1329 mw10 mw1090
theorem lk_X10_237 : GoodIn GW (wsV RX10 237 RX10 yX10_marriages (Cond.code yX10_marriages cX10_marriages 4 (some .int) :: GW)) := k_lkV GW_good mw1091 mw1092 mw1330 mw10 mw1093
theorem lk_X10_240 : GoodIn GW (wsV RX10 240 RX10 yX10_ages (Cond.code yX10_ages cX10_ages 4 (some .boolean) :: GW)) := k_lkV GW_good mw1094 mw1095 mw1331 mw10 mw1096
theorem lk_X10_166 : GoodIn GW (wsV RX10 166 RX10 yX10_lettersOnTape (Cond.code yX10_lettersOnTape cX10_lettersOnTape 2 (some .int) :: GW)) := k_lkV GW_good mw1003 mw1004 mw1317 mw10 mw1005
theorem lk_X10_252 : GoodIn GW (Cond.methodLink RX10 252 yX10_isLink :: Cond.static yX10_isLink :: Cond.initialized yX10_isLink.cls :: Cond.code yX10_isLink cX10_isLink 2 (some .boolean) :: GW) := k_lkS GW_good mw1116 mw1117 mw10 mw1118
theorem lk_X10_255 : GoodIn GW (wsV RX10 255 RX10 yX10_rests (Cond.code yX10_rests cX10_rests 6 (some .int) :: GW)) := k_lkV GW_good mw1119 mw1120 mw1334 mw10 mw1121
theorem lk_X10_205 : GoodIn GW (wsV RX10 205 RX10 yX10_writesNumber (Cond.code yX10_writesNumber cX10_writesNumber 2 none :: GW)) := k_lkV GW_good mw1057 mw1058 mw1325 mw10 mw1059
theorem lk_X10_289 : GoodIn GW (wsV RX10 289 RX10 yX10_marriedTo (Cond.code yX10_marriedTo cX10_marriedTo 6 (some .int) :: GW)) := k_lkV GW_good mw1187 mw1188 mw1341 mw10 mw1189
theorem lk_X10_308 : GoodIn GW (wsV RX10 308 RX10 yX10_grands (Cond.code yX10_grands cX10_grands 3 none :: GW)) := k_lkV GW_good mw1197 mw1198 mw1344 mw10 mw1199
theorem lk_X10_298 : GoodIn GW (wsV RX10 298 RX10 yX10_writesBy (Cond.code yX10_writesBy cX10_writesBy 5 none :: GW)) := k_lkV GW_good mw1190 mw1191 mw1342 mw10 mw1192
theorem lk_X1_42 : GoodIn GW (Cond.methodLink RX1 42 yX1_has :: Cond.static yX1_has :: Cond.initialized yX1_has.cls :: Cond.code yX1_has cX1_has 2 (some .boolean) :: GW) := k_lkS GW_good mw470 mw471 mw6 mw472
theorem lk_X1_124 : GoodIn GW (Cond.methodLink RX1 124 yX1_holders :: Cond.static yX1_holders :: Cond.initialized yX1_holders.cls :: Cond.code yX1_holders cX1_holders 4 (some .int) :: GW) := k_lkS GW_good mw559 mw560 mw6 mw561
theorem lk_X1_107 : GoodIn GW (wsV RX1 107 RX1 yX1_leastRing (Cond.code yX1_leastRing cX1_leastRing 2 (some .int) :: GW)) := k_lkV GW_good mw473 mw474 mw475 mw6 mw476
theorem lk_X1_115 : GoodIn GW (wsV RX1 115 RX1 yX1_generationOver (Cond.code yX1_generationOver cX1_generationOver 4 (some .int) :: GW)) := k_lkV GW_good mw477 mw478 mw1283 mw6 mw479
theorem lk_X1_97 : GoodIn GW (wsV RX1 97 RX1 yX1_rename (Cond.code yX1_rename cX1_rename 5 none :: GW)) := k_lkV GW_good mw452 mw453 mw1280 mw6 mw454
theorem lk_X1_46 : GoodIn GW (wsV RX1 46 RX1 yX1_wipe (Cond.code yX1_wipe cX1_wipe 2 none :: GW)) := k_lkV GW_good mw440 mw441 mw1278 mw6 mw442
theorem lk_X1_49 : GoodIn GW (wsV RX1 49 RX1 yX1_joinSames (Cond.code yX1_joinSames cX1_joinSames 8 none :: GW)) := k_lkV GW_good mw443 mw444 mw1279 mw6 mw445
theorem lk_X1_63 : GoodIn GW (Cond.methodLink RX1 63 yJ6_bitCount_0f7a4 :: Cond.static yJ6_bitCount_0f7a4 :: Cond.initialized yJ6_bitCount_0f7a4.cls :: Cond.code yJ6_bitCount_0f7a4 cJ6_bitCount_0f7a4 1 (some .int) :: GW) := k_lkS GW_good mw455 mw456 mw16 mw457
theorem lk_X1_76 : GoodIn GW (wsV RX1 76 RX1 yX1_climb (Cond.code yX1_climb cX1_climb 5 none :: GW)) := k_lkV GW_good mw464 mw465 mw1282 mw6 mw466
theorem lk_X1_72 : GoodIn GW (wsV RX1 72 RX1 yX1_hear (Cond.code yX1_hear cX1_hear 6 none :: GW)) := k_lkV GW_good mw461 mw462 mw1281 mw6 mw463
theorem lk_X1_118 : GoodIn GW (Cond.methodLink RX1 118 yX1_least :: Cond.static yX1_least :: Cond.initialized yX1_least.cls :: Cond.code yX1_least cX1_least 2 (some .int) :: GW) := k_lkS GW_good mw552 mw553 mw6 mw554
theorem lk_X1_121 : GoodIn GW (wsV RX1 121 RX1 yX1_children (Cond.code yX1_children cX1_children 2 (some .int) :: GW)) := k_lkV GW_good mw555 mw556 mw557 mw6 mw558
theorem lk_X3_53 : GoodIn GW (wsV RX3 53 RX3 yX3_addLess (Cond.code yX3_addLess cX3_addLess 6 none :: GW)) := k_lkV GW_good mw510 mw511 mw1286 mw7 mw512
theorem lk_X3_50 : GoodIn GW (Cond.methodLink RX3 50 yX3_born :: Cond.static yX3_born :: Cond.initialized yX3_born.cls :: Cond.code yX3_born cX3_born 1 (some .int) :: GW) := k_lkS GW_good mw507 mw508 mw7 mw509
theorem lk_X3_46 : GoodIn GW (Cond.methodLink RX3 46 yX3_died :: Cond.static yX3_died :: Cond.initialized yX3_died.cls :: Cond.code yX3_died cX3_died 1 (some .int) :: GW) := k_lkS GW_good mw504 mw505 mw7 mw506
theorem lk_X3_103 : GoodIn GW (wsV RX3 103 RX3 yX3_change (Cond.code yX3_change cX3_change 6 none :: GW)) := k_lkV GW_good mw535 mw536 mw1291 mw7 mw537
theorem lk_X3_97 : GoodIn GW (wsV RX3 97 RX3 yX3_raise (Cond.code yX3_raise cX3_raise 5 none :: GW)) := k_lkV GW_good mw532 mw533 mw1290 mw7 mw534
theorem lk_X3_100 : GoodIn GW (wsV RX3 100 RX3 yX3_lower (Cond.code yX3_lower cX3_lower 5 none :: GW)) := k_lkV GW_good mw538 mw539 mw1292 mw7 mw540
theorem lk_X3_93 : GoodIn GW (wsV RX3 93 RX3 yX3_apply (Cond.code yX3_apply cX3_apply 4 none :: GW)) := k_lkV GW_good mw529 mw530 mw1289 mw7 mw531
theorem lk_X3_106 : GoodIn GW (wsV RX3 106 RX3 yX3_follow (Cond.code yX3_follow cX3_follow 5 (some .int) :: GW)) := k_lkV GW_good mw587 mw588 mw1295 mw7 mw589
theorem lk_X3_118 : GoodIn GW (wsV RX3 118 RX5 yX5_putNumber (Cond.code yX5_putNumber cX5_putNumber 2 none :: GW)) := k_lkV GW_good mw602 mw393 mw394 mw3 mw395
theorem lk_X3_113 : GoodIn GW (wsV RX3 113 RX5 yX5_put (Cond.code yX5_put cX5_put 2 none :: GW)) := k_lkV GW_good mw601 mw283 mw284 mw3 mw285
theorem lk_X3_79 : GoodIn GW (wsV RX3 79 RX3 yX3_addIn (Cond.code yX3_addIn cX3_addIn 5 none :: GW)) := k_lkV GW_good mw517 mw518 mw1287 mw7 mw519
theorem lk_X3_84 : GoodIn GW (wsV RX3 84 RX3 yX3_addMarriedOne (Cond.code yX3_addMarriedOne cX3_addMarriedOne 4 none :: GW)) := k_lkV GW_good mw521 mw522 mw1288 mw7 mw523
theorem lk_X3_110 : GoodIn GW (Cond.methodLink RX3 110 yX3_tellRange :: Cond.static yX3_tellRange :: Cond.initialized yX3_tellRange.cls :: Cond.code yX3_tellRange cX3_tellRange 1 (some .int) :: GW) := k_lkS GW_good mw590 mw591 mw7 mw592
theorem lk_X5_32 : GoodIn GW (wsV RX5 32 RX5 yX5_at (Cond.code yX5_at cX5_at 2 (some .int) :: GW)) := k_lkV GW_good mw351 mw299 mw300 mw3 mw301
theorem lk_X4_38 : GoodIn GW (wsV RX4 38 RX5 yX5_at (Cond.code yX5_at cX5_at 2 (some .int) :: GW)) := k_lkV GW_good mw339 mw299 mw300 mw3 mw301
theorem lk_X4_66 : GoodIn GW (wsV RX4 66 RX5 yX5_isFigure (Cond.code yX5_isFigure cX5_isFigure 3 (some .boolean) :: GW)) := k_lkV GW_good mw347 mw348 mw349 mw3 mw350
theorem lk_X4_9 : GoodIn GW (Cond.methodLink RX4 9 yX4_tellsHigh :: Cond.static yX4_tellsHigh :: Cond.initialized yX4_tellsHigh.cls :: Cond.code yX4_tellsHigh cX4_tellsHigh 1 (some .boolean) :: GW) := k_lkS GW_good mw358 mw359 mw4 mw360
theorem lk_X4_44 : GoodIn GW (Cond.methodLink RX4 44 yX4_sortOf :: Cond.static yX4_sortOf :: Cond.initialized yX4_sortOf.cls :: Cond.code yX4_sortOf cX4_sortOf 2 (some .int) :: GW) := k_lkS GW_good mw340 mw341 mw4 mw342
theorem lk_X4_50 : GoodIn GW (wsV RX4 50 RX4 yX4_takeNumber (Cond.code yX4_takeNumber cX4_takeNumber 6 (some .int) :: GW)) := k_lkV GW_good mw344 mw345 mw1274 mw4 mw346
theorem lk_X4_54 : GoodIn GW (Cond.methodLink RX4 54 yX4_tellsTwo :: Cond.static yX4_tellsTwo :: Cond.initialized yX4_tellsTwo.cls :: Cond.code yX4_tellsTwo cX4_tellsTwo 1 (some .boolean) :: GW) := k_lkS GW_good mw352 mw353 mw4 mw354
theorem lk_X4_60 : GoodIn GW (Cond.methodLink RX4 60 yX4_tellsLow :: Cond.static yX4_tellsLow :: Cond.initialized yX4_tellsLow.cls :: Cond.code yX4_tellsLow cX4_tellsLow 1 (some .boolean) :: GW) := k_lkS GW_good mw355 mw356 mw4 mw357
theorem lk_X5_24 : GoodIn GW (wsV RX5 24 RJ0 yJ0_charAt_5068e (Cond.code yJ0_charAt_5068e cJ0_charAt_5068e 2 (some .char) :: GW)) := k_lkV GW_good mw708 mw709 mw710 mw12 mw711
theorem lk_X5_19 : GoodIn GW (wsV RX5 19 RJ0 yJ0_length_8abf5 (Cond.code yJ0_length_8abf5 cJ0_length_8abf5 1 (some .int) :: GW)) := k_lkV GW_good mw699 mw700 mw701 mw12 mw702
theorem lk_X6_20 : GoodIn GW (wsV RX6 20 RX5 yX5_putAll (Cond.code yX5_putAll cX5_putAll 3 none :: GW)) := k_lkV GW_good mw695 mw696 mw697 mw3 mw698
theorem lk_X6_82 : GoodIn GW (wsV RX6 82 RX5 yX5_putNumber (Cond.code yX5_putNumber cX5_putNumber 2 none :: GW)) := k_lkV GW_good mw752 mw393 mw394 mw3 mw395
theorem lk_X6_86 : GoodIn GW (wsV RX6 86 RX5 yX5_put (Cond.code yX5_put cX5_put 2 none :: GW)) := k_lkV GW_good mw753 mw283 mw284 mw3 mw285
theorem lk_X6_68 : GoodIn GW (Cond.methodLink RX6 68 yX6_putCousin :: Cond.static yX6_putCousin :: Cond.initialized yX6_putCousin.cls :: Cond.code yX6_putCousin cX6_putCousin 3 none :: GW) := k_lkS GW_good mw748 mw749 mw18 mw750
theorem lk_X6_28 : GoodIn GW (Cond.methodLink RX6 28 yX6_putGrand :: Cond.static yX6_putGrand :: Cond.initialized yX6_putGrand.cls :: Cond.code yX6_putGrand cX6_putGrand 3 none :: GW) := k_lkS GW_good mw742 mw743 mw18 mw744
theorem lk_X6_40 : GoodIn GW (Cond.methodLink RX6 40 yX6_putBySex :: Cond.static yX6_putBySex :: Cond.initialized yX6_putBySex.cls :: Cond.code yX6_putBySex cX6_putBySex 5 none :: GW) := k_lkS GW_good mw745 mw746 mw18 mw747
theorem lk_X7_36 : GoodIn GW (Cond.methodLink RX7 36 yX1_has :: Cond.static yX1_has :: Cond.initialized yX1_has.cls :: Cond.code yX1_has cX1_has 2 (some .boolean) :: GW) := k_lkS GW_good mw662 mw471 mw6 mw472
theorem lk_X7_45 : GoodIn GW (Cond.methodLink RX7 45 yX7_stepDown :: Cond.static yX7_stepDown :: Cond.initialized yX7_stepDown.cls :: Cond.code yX7_stepDown cX7_stepDown 4 (some .int) :: GW) := k_lkS GW_good mw681 mw682 mw8 mw683
theorem lk_X7_49 : GoodIn GW (wsV RX7 49 RX7 yX7_descend (Cond.code yX7_descend cX7_descend 6 (some .int) :: GW)) := k_lkV GW_good mw678 mw679 mw1301 mw8 mw680
theorem lk_X7_52 : GoodIn GW (wsV RX7 52 RX1 yX1_haveAlikeParents (Cond.code yX1_haveAlikeParents cX1_haveAlikeParents 3 (some .boolean) :: GW)) := k_lkV GW_good mw684 mw685 mw686 mw6 mw687
theorem lk_X7_18 : GoodIn GW (Cond.methodLink RX7 18 yX7_count :: Cond.static yX7_count :: Cond.initialized yX7_count.cls :: Cond.code yX7_count cX7_count 7 none :: GW) := k_lkS GW_good mw659 mw660 mw8 mw661
theorem lk_X7_26 : GoodIn GW (wsV RX7 26 RX7 yX7_isNearer (Cond.code yX7_isNearer cX7_isNearer 3 (some .boolean) :: GW)) := k_lkV GW_good mw663 mw664 mw1300 mw8 mw665
theorem lk_X8_79 : GoodIn GW (Cond.methodLink RX8 79 yX1_has :: Cond.static yX1_has :: Cond.initialized yX1_has.cls :: Cond.code yX1_has cX1_has 2 (some .boolean) :: GW) := k_lkS GW_good mw499 mw471 mw6 mw472
theorem lk_X8_98 : GoodIn GW (wsV RX8 98 RX8 yX8_isBornAhead (Cond.code yX8_isBornAhead cX8_isBornAhead 4 (some .boolean) :: GW)) := k_lkV GW_good mw545 mw546 mw1293 mw5 mw547
theorem lk_X8_87 : GoodIn GW (wsV RX8 87 RX3 yX3_takeStatement (Cond.code yX3_takeStatement cX3_takeStatement 7 none :: GW)) := k_lkV GW_good mw513 mw514 mw515 mw7 mw516
theorem lk_X8_83 : GoodIn GW (wsV RX8 83 RX3 yX3_takeLife (Cond.code yX3_takeLife cX3_takeLife 2 none :: GW)) := k_lkV GW_good mw500 mw501 mw502 mw7 mw503
theorem lk_X8_94 : GoodIn GW (Cond.methodLink RX8 94 yX3_tellRange :: Cond.static yX3_tellRange :: Cond.initialized yX3_tellRange.cls :: Cond.code yX3_tellRange cX3_tellRange 1 (some .int) :: GW) := k_lkS GW_good mw611 mw591 mw7 mw592
theorem lk_X8_41 : GoodIn GW (wsV RX8 41 RX1 yX1_gather (Cond.code yX1_gather cX1_gather 6 none :: GW)) := k_lkV GW_good mw436 mw437 mw438 mw6 mw439
theorem lk_X8_45 : GoodIn GW (wsV RX8 45 RX3 yX3_wipe (Cond.code yX3_wipe cX3_wipe 2 none :: GW)) := k_lkV GW_good mw480 mw481 mw482 mw7 mw483
theorem lk_X8_54 : GoodIn GW (wsV RX8 54 RX1 yX1_leastOfBothSexes (Cond.code yX1_leastOfBothSexes cX1_leastOfBothSexes 2 (some .int) :: GW)) := k_lkV GW_good mw484 mw485 mw486 mw6 mw487
theorem lk_X8_58 : GoodIn GW (wsV RX8 58 RX8 yX8_note (Cond.code yX8_note cX8_note 3 none :: GW)) := k_lkV GW_good mw488 mw489 mw1284 mw5 mw490
theorem lk_X8_62 : GoodIn GW (wsV RX8 62 RX1 yX1_leastOfUnlikeParents (Cond.code yX1_leastOfUnlikeParents cX1_leastOfUnlikeParents 2 (some .int) :: GW)) := k_lkV GW_good mw491 mw492 mw493 mw6 mw494
theorem lk_X8_65 : GoodIn GW (wsV RX8 65 RX1 yX1_leastRing (Cond.code yX1_leastRing cX1_leastRing 2 (some .int) :: GW)) := k_lkV GW_good mw495 mw474 mw475 mw6 mw476
theorem lk_X8_68 : GoodIn GW (wsV RX8 68 RX8 yX8_takeRules (Cond.code yX8_takeRules cX8_takeRules 3 none :: GW)) := k_lkV GW_good mw496 mw497 mw1285 mw5 mw498
theorem lk_X8_72 : GoodIn GW (wsV RX8 72 RX3 yX3_narrow (Cond.code yX3_narrow cX3_narrow 4 (some .boolean) :: GW)) := k_lkV GW_good mw525 mw526 mw527 mw7 mw528
theorem lk_X9_100 : GoodIn GW (wsV RX9 100 RX0 yX0_isPerson (Cond.code yX0_isPerson cX0_isPerson 2 (some .boolean) :: GW)) := k_lkV GW_good mw324 mw325 mw326 mw2 mw327
theorem lk_X9_346 : GoodIn GW (wsV RX9 346 RX8 yX8_work (Cond.code yX8_work cX8_work 6 none :: GW)) := k_lkV GW_good mw432 mw433 mw434 mw5 mw435
theorem lk_X9_350 : GoodIn GW (wsV RX9 350 RX8 yX8_sortPeople (Cond.code yX8_sortPeople cX8_sortPeople 5 none :: GW)) := k_lkV GW_good mw541 mw542 mw543 mw5 mw544
theorem lk_X9_220 : GoodIn GW (wsV RX9 220 RX9 yX9_arePersons (Cond.code yX9_arePersons cX9_arePersons 3 (some .boolean) :: GW)) := k_lkV GW_good mw627 mw628 mw1297 mw1 mw629
theorem lk_X9_161 : GoodIn GW (wsV RX9 161 RX9 yX9_settle (Cond.code yX9_settle cX9_settle 1 none :: GW)) := k_lkV GW_good mw428 mw429 mw1277 mw1 mw430
theorem lk_X9_190 : GoodIn GW (Cond.methodLink RX9 190 yX9_personEnd :: Cond.static yX9_personEnd :: Cond.initialized yX9_personEnd.cls :: Cond.code yX9_personEnd cX9_personEnd 4 (some .int) :: GW) := k_lkS GW_good mw569 mw570 mw1 mw571
theorem lk_X9_158 : GoodIn GW (wsV RX9 158 RX0 yX0_placeByName (Cond.code yX0_placeByName cX0_placeByName 5 (some .int) :: GW)) := k_lkV GW_good mw417 mw418 mw419 mw2 mw420
theorem lk_X9_106 : GoodIn GW (Cond.methodLink RX9 106 yX9_isFlag :: Cond.static yX9_isFlag :: Cond.initialized yX9_isFlag.cls :: Cond.code yX9_isFlag cX9_isFlag 1 (some .boolean) :: GW) := k_lkS GW_good mw332 mw333 mw1 mw334
theorem lk_X9_208 : GoodIn GW (wsV RX9 208 RX8 yX8_tellClashing (Cond.code yX8_tellClashing cX8_tellClashing 1 (some .int) :: GW)) := k_lkV GW_good mw607 mw608 mw609 mw5 mw610
theorem lk_X9_75 : GoodIn GW (wsV RX9 75 RX5 yX5_wipe (Cond.code yX5_wipe cX5_wipe 1 none :: GW)) := k_lkV GW_good mw290 mw291 mw292 mw3 mw293
theorem lk_X9_356 : GoodIn GW (wsV RX9 356 RX7 yX7_seek (Cond.code yX7_seek cX7_seek 5 none :: GW)) := k_lkV GW_good mw655 mw656 mw657 mw8 mw658
theorem lk_X9_237 : GoodIn GW (wsV RX9 237 RX9 yX9_seekWays (Cond.code yX9_seekWays cX9_seekWays 3 none :: GW)) := k_lkV GW_good mw652 mw653 mw1299 mw1 mw654
theorem lk_X9_214 : GoodIn GW (wsV RX9 214 RX9 yX9_settleCulprits (Cond.code yX9_settleCulprits cX9_settleCulprits 2 none :: GW)) := k_lkV GW_good mw620 mw621 mw1296 mw1 mw622
theorem lk_X9_297 : GoodIn GW (wsV RX9 297 RX1 yX1_below (Cond.code yX1_below cX1_below 2 (some .int) :: GW)) := k_lkV GW_good mw789 mw790 mw791 mw6 mw792
theorem lk_X9_177 : GoodIn GW (wsV RX9 177 RX9 yX9_isEnd (Cond.code yX9_isEnd cX9_isEnd 4 (some .boolean) :: GW)) := k_lkV GW_good mw566 mw567 mw1294 mw1 mw568
theorem lk_X9_72 : GoodIn GW (wsV RX9 72 RX5 yX5_put (Cond.code yX5_put cX5_put 2 none :: GW)) := k_lkV GW_good mw282 mw283 mw284 mw3 mw285
theorem lk_X9_154 : GoodIn GW (wsV RX9 154 RX0 yX0_findNamed (Cond.code yX0_findNamed cX0_findNamed 5 (some .int) :: GW)) := k_lkV GW_good mw405 mw406 mw407 mw2 mw408
theorem lk_X9_315 : GoodIn GW (wsV RX9 315 RX2 yX2_isList (Cond.code yX2_isList cX2_isList 2 (some .boolean) :: GW)) := k_lkV GW_good mw817 mw818 mw819 mw9 mw820
theorem lk_X9_324 : GoodIn GW (wsV RX9 324 RX2 yX2_hasPlace (Cond.code yX2_hasPlace cX2_hasPlace 4 (some .boolean) :: GW)) := k_lkV GW_good mw829 mw830 mw831 mw9 mw832
theorem lk_X9_249 : GoodIn GW (wsV RX9 249 RX7 yX7_isHalf (Cond.code yX7_isHalf cX7_isHalf 2 (some .boolean) :: GW)) := k_lkV GW_good mw674 mw675 mw676 mw8 mw677
theorem lk_X9_331 : GoodIn GW (wsV RX9 331 RX0 yX0_copyFrom (Cond.code yX0_copyFrom cX0_copyFrom 3 none :: GW)) := k_lkV GW_good mw849 mw850 mw851 mw2 mw852
theorem lk_X9_318 : GoodIn GW (wsV RX9 318 RX2 yX2_begin (Cond.code yX2_begin cX2_begin 4 none :: GW)) := k_lkV GW_good mw821 mw822 mw823 mw9 mw824
theorem lk_X9_123 : GoodIn GW (wsV RX9 123 RX0 yX0_isStatement (Cond.code yX0_isStatement cX0_isStatement 2 (some .boolean) :: GW)) := k_lkV GW_good mw369 mw370 mw371 mw2 mw372
theorem lk_X9_97 : GoodIn GW (wsV RX9 97 RX9 yX9_unsettle (Cond.code yX9_unsettle cX9_unsettle 1 none :: GW)) := k_lkV GW_good mw317 mw318 mw1273 mw1 mw319
theorem lk_X9_119 : GoodIn GW (wsV RX9 119 RX0 yX0_write (Cond.code yX0_write cX0_write 4 none :: GW)) := k_lkV GW_good mw361 mw362 mw363 mw2 mw364
theorem lk_X9_112 : GoodIn GW (wsV RX9 112 RX4 yX4_reads (Cond.code yX4_reads cX4_reads 3 (some .boolean) :: GW)) := k_lkV GW_good mw335 mw336 mw337 mw4 mw338
theorem lk_X9_227 : GoodIn GW (wsV RX9 227 RX9 yX9_workOneMore (Cond.code yX9_workOneMore cX9_workOneMore 1 none :: GW)) := k_lkV GW_good mw634 mw635 mw1298 mw1 mw636
theorem lk_X9_230 : GoodIn GW (Cond.methodLink RX9 230 yX9_yearsBetween :: Cond.static yX9_yearsBetween :: Cond.initialized yX9_yearsBetween.cls :: Cond.code yX9_yearsBetween cX9_yearsBetween 4 (some .int) :: GW) := k_lkS GW_good mw641 mw642 mw1 mw643
theorem lk_X9_78 : GoodIn GW (wsV RX9 78 RX5 yX5_at (Cond.code yX5_at cX5_at 2 (some .int) :: GW)) := k_lkV GW_good mw298 mw299 mw300 mw3 mw301
theorem lk_X9_279 : GoodIn GW (wsV RX9 279 RX7 yX7_stop (Cond.code yX7_stop cX7_stop 3 (some .int) :: GW)) := k_lkV GW_good mw767 mw768 mw769 mw8 mw770
theorem lk_X9_173 : GoodIn GW (wsV RX9 173 RX1 yX1_tell (Cond.code yX1_tell cX1_tell 3 (some .int) :: GW)) := k_lkV GW_good mw548 mw549 mw550 mw6 mw551
theorem lk_X9_82 : GoodIn GW (Cond.methodLink RX9 82 yX9_isSex :: Cond.static yX9_isSex :: Cond.initialized yX9_isSex.cls :: Cond.code yX9_isSex cX9_isSex 1 (some .boolean) :: GW) := k_lkS GW_good mw306 mw307 mw1 mw308
theorem lk_X9_89 : GoodIn GW (wsV RX9 89 RX5 yX5_nameFault (Cond.code yX5_nameFault cX5_nameFault 2 (some .int) :: GW)) := k_lkV GW_good mw309 mw310 mw311 mw3 mw312
theorem lk_X9_93 : GoodIn GW (wsV RX9 93 RX0 yX0_addPerson (Cond.code yX0_addPerson cX0_addPerson 4 none :: GW)) := k_lkV GW_good mw313 mw314 mw315 mw2 mw316
theorem lk_X9_194 : GoodIn GW (Cond.methodLink RX9 194 yX9_isLinkPart :: Cond.static yX9_isLinkPart :: Cond.initialized yX9_isLinkPart.cls :: Cond.code yX9_isLinkPart cX9_isLinkPart 2 (some .boolean) :: GW) := k_lkS GW_good mw580 mw581 mw1 mw582
theorem lk_X9_198 : GoodIn GW (wsV RX9 198 RX3 yX3_tellRest (Cond.code yX3_tellRest cX3_tellRest 5 (some .int) :: GW)) := k_lkV GW_good mw583 mw584 mw585 mw7 mw586
theorem lk_X9_202 : GoodIn GW (wsV RX9 202 RX3 yX3_proveInto (Cond.code yX3_proveInto cX3_proveInto 5 none :: GW)) := k_lkV GW_good mw597 mw598 mw599 mw7 mw600
theorem lk_X9_288 : GoodIn GW (wsV RX9 288 RX1 yX1_siblings (Cond.code yX1_siblings cX1_siblings 4 (some .int) :: GW)) := k_lkV GW_good mw777 mw778 mw779 mw6 mw780
theorem lk_X9_285 : GoodIn GW (wsV RX9 285 RX1 yX1_children (Cond.code yX1_children cX1_children 2 (some .int) :: GW)) := k_lkV GW_good mw776 mw556 mw557 mw6 mw558
theorem lk_X9_223 : GoodIn GW (wsV RX9 223 RX4 yX4_makeSame (Cond.code yX4_makeSame cX4_makeSame 3 none :: GW)) := k_lkV GW_good mw630 mw631 mw632 mw4 mw633
theorem lk_X9_144 : GoodIn GW (wsV RX9 144 RX0 yX0_spellInto (Cond.code yX0_spellInto cX0_spellInto 3 none :: GW)) := k_lkV GW_good mw381 mw382 mw383 mw2 mw384
theorem lk_X9_260 : GoodIn GW (wsV RX9 260 RX1 yX1_areMarried (Cond.code yX1_areMarried cX1_areMarried 3 (some .boolean) :: GW)) := k_lkV GW_good mw757 mw758 mw759 mw6 mw760
theorem lk_X9_275 : GoodIn GW (wsV RX9 275 RX5 yX5_putAll (Cond.code yX5_putAll cX5_putAll 3 none :: GW)) := k_lkV GW_good mw762 mw696 mw697 mw3 mw698
theorem lk_X9_269 : GoodIn GW (Cond.methodLink RX9 269 yX6_putBySex :: Cond.static yX6_putBySex :: Cond.initialized yX6_putBySex.cls :: Cond.code yX6_putBySex cX6_putBySex 5 none :: GW) := k_lkS GW_good mw761 mw746 mw18 mw747
theorem lk_X9_254 : GoodIn GW (Cond.methodLink RX9 254 yX6_putKin :: Cond.static yX6_putKin :: Cond.initialized yX6_putKin.cls :: Cond.code yX6_putKin cX6_putKin 6 none :: GW) := k_lkS GW_good mw692 mw693 mw18 mw694
theorem lk_X9_309 : GoodIn GW (wsV RX9 309 RX0 yX0_unlikeNames (Cond.code yX0_unlikeNames cX0_unlikeNames 5 (some .int) :: GW)) := k_lkV GW_good mw805 mw806 mw807 mw2 mw808
theorem lk_X9_312 : GoodIn GW (wsV RX9 312 RX1 yX1_greatestGeneration (Cond.code yX1_greatestGeneration cX1_greatestGeneration 3 (some .int) :: GW)) := k_lkV GW_good mw809 mw810 mw811 mw6 mw812
theorem yo_X5_at : kyOk yX5_at 1 := ⟨by decide +kernel, by decide +kernel, by decide +kernel⟩
theorem yo_X0_isNamed : kyOk yX0_isNamed 2 := ⟨by decide +kernel, by decide +kernel, by decide +kernel⟩
theorem yo_X0_compareNames : kyOk yX0_compareNames 2 := ⟨by decide +kernel, by decide +kernel, by decide +kernel⟩
theorem yo_X5_put : kyOk yX5_put 1 := ⟨by decide +kernel, by decide +kernel, by decide +kernel⟩
theorem yo_X5_putNumber : kyOk yX5_putNumber 1 := ⟨by decide +kernel, by decide +kernel, by decide +kernel⟩
theorem yo_X4_letterOf : kyOk yX4_letterOf 1 := ⟨by decide +kernel, by decide +kernel, by decide +kernel⟩
theorem yo_X0_spellNumber : kyOk yX0_spellNumber 2 := ⟨by decide +kernel, by decide +kernel, by decide +kernel⟩
theorem yo_X10_has : kyOk yX10_has 2 := ⟨by decide +kernel, by decide +kernel, by decide +kernel⟩
theorem yo_X10_isIn : kyOk yX10_isIn 3 := ⟨by decide +kernel, by decide +kernel, by decide +kernel⟩
theorem yo_X10_isPerson : kyOk yX10_isPerson 1 := ⟨by decide +kernel, by decide +kernel, by decide +kernel⟩
theorem yo_X10_bornOf : kyOk yX10_bornOf 1 := ⟨by decide +kernel, by decide +kernel, by decide +kernel⟩
theorem yo_X10_areTwo : kyOk yX10_areTwo 2 := ⟨by decide +kernel, by decide +kernel, by decide +kernel⟩
theorem yo_X10_endOf : kyOk yX10_endOf 3 := ⟨by decide +kernel, by decide +kernel, by decide +kernel⟩
theorem yo_X10_narrows : kyOk yX10_narrows 3 := ⟨by decide +kernel, by decide +kernel, by decide +kernel⟩
theorem yo_X10_differ : kyOk yX10_differ 4 := ⟨by decide +kernel, by decide +kernel, by decide +kernel⟩
theorem yo_X10_told : kyOk yX10_told 2 := ⟨by decide +kernel, by decide +kernel, by decide +kernel⟩
theorem yo_X10_isWithin : kyOk yX10_isWithin 3 := ⟨by decide +kernel, by decide +kernel, by decide +kernel⟩
theorem yo_X10_yearOf : kyOk yX10_yearOf 1 := ⟨by decide +kernel, by decide +kernel, by decide +kernel⟩
theorem yo_X10_weds : kyOk yX10_weds 2 := ⟨by decide +kernel, by decide +kernel, by decide +kernel⟩
theorem yo_X10_letterOf : kyOk yX10_letterOf 2 := ⟨by decide +kernel, by decide +kernel, by decide +kernel⟩
theorem yo_X10_compares : kyOk yX10_compares 2 := ⟨by decide +kernel, by decide +kernel, by decide +kernel⟩
theorem yo_X10_toldRange : kyOk yX10_toldRange 1 := ⟨by decide +kernel, by decide +kernel, by decide +kernel⟩
theorem yo_X10_isLive : kyOk yX10_isLive 2 := ⟨by decide +kernel, by decide +kernel, by decide +kernel⟩
theorem yo_X10_sexOf : kyOk yX10_sexOf 1 := ⟨by decide +kernel, by decide +kernel, by decide +kernel⟩
theorem yo_X10_clashes : kyOk yX10_clashes 2 := ⟨by decide +kernel, by decide +kernel, by decide +kernel⟩
theorem yo_X10_ones : kyOk yX10_ones 1 := ⟨by decide +kernel, by decide +kernel, by decide +kernel⟩
theorem yo_X10_isOne : kyOk yX10_isOne 1 := ⟨by decide +kernel, by decide +kernel, by decide +kernel⟩
theorem yo_X10_sexes : kyOk yX10_sexes 1 := ⟨by decide +kernel, by decide +kernel, by decide +kernel⟩
theorem yo_X10_joins : kyOk yX10_joins 0 := ⟨by decide +kernel, by decide +kernel, by decide +kernel⟩
theorem yo_X10_parents : kyOk yX10_parents 0 := ⟨by decide +kernel, by decide +kernel, by decide +kernel⟩
theorem yo_X10_looks : kyOk yX10_looks 0 := ⟨by decide +kernel, by decide +kernel, by decide +kernel⟩
theorem yo_X10_applies : kyOk yX10_applies 1 := ⟨by decide +kernel, by decide +kernel, by decide +kernel⟩
theorem yo_X10_works : kyOk yX10_works 0 := ⟨by decide +kernel, by decide +kernel, by decide +kernel⟩
theorem yo_X10_steps : kyOk yX10_steps 2 := ⟨by decide +kernel, by decide +kernel, by decide +kernel⟩
theorem yo_X10_meets : kyOk yX10_meets 2 := ⟨by decide +kernel, by decide +kernel, by decide +kernel⟩
theorem yo_X10_isEnd : kyOk yX10_isEnd 3 := ⟨by decide +kernel, by decide +kernel, by decide +kernel⟩
theorem yo_X10_lengthOf : kyOk yX10_lengthOf 1 := ⟨by decide +kernel, by decide +kernel, by decide +kernel⟩
theorem yo_X10_isList : kyOk yX10_isList 1 := ⟨by decide +kernel, by decide +kernel, by decide +kernel⟩
theorem yo_X10_writes : kyOk yX10_writes 1 := ⟨by decide +kernel, by decide +kernel, by decide +kernel⟩
theorem yo_X10_writes_ : kyOk yX10_writes_ 1 := ⟨by decide +kernel, by decide +kernel, by decide +kernel⟩
theorem yo_X10_under : kyOk yX10_under 2 := ⟨by decide +kernel, by decide +kernel, by decide +kernel⟩
theorem yo_X10_least : kyOk yX10_least 1 := ⟨by decide +kernel, by decide +kernel, by decide +kernel⟩
theorem yo_X10_isHalf : kyOk yX10_isHalf 0 := ⟨by decide +kernel, by decide +kernel, by decide +kernel⟩
theorem yo_X10_copies : kyOk yX10_copies 2 := ⟨by decide +kernel, by decide +kernel, by decide +kernel⟩
theorem yo_X10_isBornAhead : kyOk yX10_isBornAhead 2 := ⟨by decide +kernel, by decide +kernel, by decide +kernel⟩
theorem yo_X10_orders : kyOk yX10_orders 0 := ⟨by decide +kernel, by decide +kernel, by decide +kernel⟩
theorem yo_X10_isStatement : kyOk yX10_isStatement 1 := ⟨by decide +kernel, by decide +kernel, by decide +kernel⟩
theorem yo_X10_fails : kyOk yX10_fails 1 := ⟨by decide +kernel, by decide +kernel, by decide +kernel⟩
theorem yo_X10_number : kyOk yX10_number 3 := ⟨by decide +kernel, by decide +kernel, by decide +kernel⟩
theorem yo_X10_isOfTwo : kyOk yX10_isOfTwo 1 := ⟨by decide +kernel, by decide +kernel, by decide +kernel⟩
theorem yo_X10_isOfYears : kyOk yX10_isOfYears 1 := ⟨by decide +kernel, by decide +kernel, by decide +kernel⟩
theorem yo_X10_sortOf : kyOk yX10_sortOf 1 := ⟨by decide +kernel, by decide +kernel, by decide +kernel⟩
theorem yo_X10_reads : kyOk yX10_reads 0 := ⟨by decide +kernel, by decide +kernel, by decide +kernel⟩
theorem yo_X10_widthOf : kyOk yX10_widthOf 2 := ⟨by decide +kernel, by decide +kernel, by decide +kernel⟩
theorem yo_X10_comes : kyOk yX10_comes 1 := ⟨by decide +kernel, by decide +kernel, by decide +kernel⟩
theorem yo_X10_childrenOf : kyOk yX10_childrenOf 1 := ⟨by decide +kernel, by decide +kernel, by decide +kernel⟩
theorem yo_X10_marriages : kyOk yX10_marriages 1 := ⟨by decide +kernel, by decide +kernel, by decide +kernel⟩
theorem yo_X10_ages : kyOk yX10_ages 0 := ⟨by decide +kernel, by decide +kernel, by decide +kernel⟩
theorem yo_X10_lettersOnTape : kyOk yX10_lettersOnTape 0 := ⟨by decide +kernel, by decide +kernel, by decide +kernel⟩
theorem yo_X10_isLink : kyOk yX10_isLink 2 := ⟨by decide +kernel, by decide +kernel, by decide +kernel⟩
theorem yo_X10_rests : kyOk yX10_rests 3 := ⟨by decide +kernel, by decide +kernel, by decide +kernel⟩
theorem yo_X10_writesNumber : kyOk yX10_writesNumber 1 := ⟨by decide +kernel, by decide +kernel, by decide +kernel⟩
theorem yo_X10_marriedTo : kyOk yX10_marriedTo 1 := ⟨by decide +kernel, by decide +kernel, by decide +kernel⟩
theorem yo_X10_grands : kyOk yX10_grands 1 := ⟨by decide +kernel, by decide +kernel, by decide +kernel⟩
theorem yo_X10_writesBy : kyOk yX10_writesBy 4 := ⟨by decide +kernel, by decide +kernel, by decide +kernel⟩
theorem yo_X1_has : kyOk yX1_has 2 := ⟨by decide +kernel, by decide +kernel, by decide +kernel⟩
theorem yo_X1_holders : kyOk yX1_holders 2 := ⟨by decide +kernel, by decide +kernel, by decide +kernel⟩
theorem yo_X1_leastRing : kyOk yX1_leastRing 0 := ⟨by decide +kernel, by decide +kernel, by decide +kernel⟩
theorem yo_X1_generationOver : kyOk yX1_generationOver 1 := ⟨by decide +kernel, by decide +kernel, by decide +kernel⟩
theorem yo_X1_rename : kyOk yX1_rename 3 := ⟨by decide +kernel, by decide +kernel, by decide +kernel⟩
theorem yo_X1_wipe : kyOk yX1_wipe 0 := ⟨by decide +kernel, by decide +kernel, by decide +kernel⟩
theorem yo_X1_joinSames : kyOk yX1_joinSames 3 := ⟨by decide +kernel, by decide +kernel, by decide +kernel⟩
theorem yo_J6_bitCount_0f7a4 : kyOk yJ6_bitCount_0f7a4 1 := ⟨by decide +kernel, by decide +kernel, by decide +kernel⟩
theorem yo_X1_climb : kyOk yX1_climb 0 := ⟨by decide +kernel, by decide +kernel, by decide +kernel⟩
theorem yo_X1_hear : kyOk yX1_hear 2 := ⟨by decide +kernel, by decide +kernel, by decide +kernel⟩
theorem yo_X1_least : kyOk yX1_least 1 := ⟨by decide +kernel, by decide +kernel, by decide +kernel⟩
theorem yo_X1_children : kyOk yX1_children 1 := ⟨by decide +kernel, by decide +kernel, by decide +kernel⟩
theorem yo_X3_addLess : kyOk yX3_addLess 5 := ⟨by decide +kernel, by decide +kernel, by decide +kernel⟩
theorem yo_X3_born : kyOk yX3_born 1 := ⟨by decide +kernel, by decide +kernel, by decide +kernel⟩
theorem yo_X3_died : kyOk yX3_died 1 := ⟨by decide +kernel, by decide +kernel, by decide +kernel⟩
theorem yo_X3_change : kyOk yX3_change 4 := ⟨by decide +kernel, by decide +kernel, by decide +kernel⟩
theorem yo_X3_raise : kyOk yX3_raise 4 := ⟨by decide +kernel, by decide +kernel, by decide +kernel⟩
theorem yo_X3_lower : kyOk yX3_lower 4 := ⟨by decide +kernel, by decide +kernel, by decide +kernel⟩
theorem yo_X3_apply : kyOk yX3_apply 1 := ⟨by decide +kernel, by decide +kernel, by decide +kernel⟩
theorem yo_X3_follow : kyOk yX3_follow 2 := ⟨by decide +kernel, by decide +kernel, by decide +kernel⟩
theorem yo_X3_addIn : kyOk yX3_addIn 4 := ⟨by decide +kernel, by decide +kernel, by decide +kernel⟩
theorem yo_X3_addMarriedOne : kyOk yX3_addMarriedOne 2 := ⟨by decide +kernel, by decide +kernel, by decide +kernel⟩
theorem yo_X3_tellRange : kyOk yX3_tellRange 1 := ⟨by decide +kernel, by decide +kernel, by decide +kernel⟩
theorem yo_X5_isFigure : kyOk yX5_isFigure 1 := ⟨by decide +kernel, by decide +kernel, by decide +kernel⟩
theorem yo_X4_tellsHigh : kyOk yX4_tellsHigh 1 := ⟨by decide +kernel, by decide +kernel, by decide +kernel⟩
theorem yo_X4_sortOf : kyOk yX4_sortOf 1 := ⟨by decide +kernel, by decide +kernel, by decide +kernel⟩
theorem yo_X4_takeNumber : kyOk yX4_takeNumber 3 := ⟨by decide +kernel, by decide +kernel, by decide +kernel⟩
theorem yo_X4_tellsTwo : kyOk yX4_tellsTwo 1 := ⟨by decide +kernel, by decide +kernel, by decide +kernel⟩
theorem yo_X4_tellsLow : kyOk yX4_tellsLow 1 := ⟨by decide +kernel, by decide +kernel, by decide +kernel⟩
theorem yo_X5_putAll : kyOk yX5_putAll 1 := ⟨by decide +kernel, by decide +kernel, by decide +kernel⟩
theorem yo_X6_putCousin : kyOk yX6_putCousin 3 := ⟨by decide +kernel, by decide +kernel, by decide +kernel⟩
theorem yo_X6_putGrand : kyOk yX6_putGrand 2 := ⟨by decide +kernel, by decide +kernel, by decide +kernel⟩
theorem yo_X6_putBySex : kyOk yX6_putBySex 5 := ⟨by decide +kernel, by decide +kernel, by decide +kernel⟩
theorem yo_X7_stepDown : kyOk yX7_stepDown 3 := ⟨by decide +kernel, by decide +kernel, by decide +kernel⟩
theorem yo_X7_descend : kyOk yX7_descend 3 := ⟨by decide +kernel, by decide +kernel, by decide +kernel⟩
theorem yo_X1_haveAlikeParents : kyOk yX1_haveAlikeParents 2 := ⟨by decide +kernel, by decide +kernel, by decide +kernel⟩
theorem yo_X7_count : kyOk yX7_count 3 := ⟨by decide +kernel, by decide +kernel, by decide +kernel⟩
theorem yo_X7_isNearer : kyOk yX7_isNearer 1 := ⟨by decide +kernel, by decide +kernel, by decide +kernel⟩
theorem yo_X8_isBornAhead : kyOk yX8_isBornAhead 2 := ⟨by decide +kernel, by decide +kernel, by decide +kernel⟩
theorem yo_X3_takeStatement : kyOk yX3_takeStatement 3 := ⟨by decide +kernel, by decide +kernel, by decide +kernel⟩
theorem yo_X3_takeLife : kyOk yX3_takeLife 1 := ⟨by decide +kernel, by decide +kernel, by decide +kernel⟩
theorem yo_X1_gather : kyOk yX1_gather 3 := ⟨by decide +kernel, by decide +kernel, by decide +kernel⟩
theorem yo_X3_wipe : kyOk yX3_wipe 0 := ⟨by decide +kernel, by decide +kernel, by decide +kernel⟩
theorem yo_X1_leastOfBothSexes : kyOk yX1_leastOfBothSexes 0 := ⟨by decide +kernel, by decide +kernel, by decide +kernel⟩
theorem yo_X8_note : kyOk yX8_note 2 := ⟨by decide +kernel, by decide +kernel, by decide +kernel⟩
theorem yo_X1_leastOfUnlikeParents : kyOk yX1_leastOfUnlikeParents 0 := ⟨by decide +kernel, by decide +kernel, by decide +kernel⟩
theorem yo_X8_takeRules : kyOk yX8_takeRules 1 := ⟨by decide +kernel, by decide +kernel, by decide +kernel⟩
theorem yo_X3_narrow : kyOk yX3_narrow 1 := ⟨by decide +kernel, by decide +kernel, by decide +kernel⟩
theorem yo_X0_isPerson : kyOk yX0_isPerson 1 := ⟨by decide +kernel, by decide +kernel, by decide +kernel⟩
theorem yo_X8_work : kyOk yX8_work 4 := ⟨by decide +kernel, by decide +kernel, by decide +kernel⟩
theorem yo_X8_sortPeople : kyOk yX8_sortPeople 0 := ⟨by decide +kernel, by decide +kernel, by decide +kernel⟩
theorem yo_X9_arePersons : kyOk yX9_arePersons 2 := ⟨by decide +kernel, by decide +kernel, by decide +kernel⟩
theorem yo_X9_settle : kyOk yX9_settle 0 := ⟨by decide +kernel, by decide +kernel, by decide +kernel⟩
theorem yo_X9_personEnd : kyOk yX9_personEnd 4 := ⟨by decide +kernel, by decide +kernel, by decide +kernel⟩
theorem yo_X0_placeByName : kyOk yX0_placeByName 1 := ⟨by decide +kernel, by decide +kernel, by decide +kernel⟩
theorem yo_X9_isFlag : kyOk yX9_isFlag 1 := ⟨by decide +kernel, by decide +kernel, by decide +kernel⟩
theorem yo_X8_tellClashing : kyOk yX8_tellClashing 0 := ⟨by decide +kernel, by decide +kernel, by decide +kernel⟩
theorem yo_X5_wipe : kyOk yX5_wipe 0 := ⟨by decide +kernel, by decide +kernel, by decide +kernel⟩
theorem yo_X7_seek : kyOk yX7_seek 3 := ⟨by decide +kernel, by decide +kernel, by decide +kernel⟩
theorem yo_X9_seekWays : kyOk yX9_seekWays 2 := ⟨by decide +kernel, by decide +kernel, by decide +kernel⟩
theorem yo_X9_settleCulprits : kyOk yX9_settleCulprits 0 := ⟨by decide +kernel, by decide +kernel, by decide +kernel⟩
theorem yo_X1_below : kyOk yX1_below 1 := ⟨by decide +kernel, by decide +kernel, by decide +kernel⟩
theorem yo_X9_isEnd : kyOk yX9_isEnd 3 := ⟨by decide +kernel, by decide +kernel, by decide +kernel⟩
theorem yo_X0_findNamed : kyOk yX0_findNamed 2 := ⟨by decide +kernel, by decide +kernel, by decide +kernel⟩
theorem yo_X2_isList : kyOk yX2_isList 1 := ⟨by decide +kernel, by decide +kernel, by decide +kernel⟩
theorem yo_X2_hasPlace : kyOk yX2_hasPlace 3 := ⟨by decide +kernel, by decide +kernel, by decide +kernel⟩
theorem yo_X7_isHalf : kyOk yX7_isHalf 1 := ⟨by decide +kernel, by decide +kernel, by decide +kernel⟩
theorem yo_X0_copyFrom : kyOk yX0_copyFrom 1 := ⟨by decide +kernel, by decide +kernel, by decide +kernel⟩
theorem yo_X2_begin : kyOk yX2_begin 2 := ⟨by decide +kernel, by decide +kernel, by decide +kernel⟩
theorem yo_X0_isStatement : kyOk yX0_isStatement 1 := ⟨by decide +kernel, by decide +kernel, by decide +kernel⟩
theorem yo_X9_unsettle : kyOk yX9_unsettle 0 := ⟨by decide +kernel, by decide +kernel, by decide +kernel⟩
theorem yo_X0_write : kyOk yX0_write 3 := ⟨by decide +kernel, by decide +kernel, by decide +kernel⟩
theorem yo_X4_reads : kyOk yX4_reads 2 := ⟨by decide +kernel, by decide +kernel, by decide +kernel⟩
theorem yo_X9_workOneMore : kyOk yX9_workOneMore 0 := ⟨by decide +kernel, by decide +kernel, by decide +kernel⟩
theorem yo_X9_yearsBetween : kyOk yX9_yearsBetween 3 := ⟨by decide +kernel, by decide +kernel, by decide +kernel⟩
theorem yo_X7_stop : kyOk yX7_stop 2 := ⟨by decide +kernel, by decide +kernel, by decide +kernel⟩
theorem yo_X1_tell : kyOk yX1_tell 2 := ⟨by decide +kernel, by decide +kernel, by decide +kernel⟩
theorem yo_X9_isSex : kyOk yX9_isSex 1 := ⟨by decide +kernel, by decide +kernel, by decide +kernel⟩
theorem yo_X5_nameFault : kyOk yX5_nameFault 0 := ⟨by decide +kernel, by decide +kernel, by decide +kernel⟩
theorem yo_X0_addPerson : kyOk yX0_addPerson 2 := ⟨by decide +kernel, by decide +kernel, by decide +kernel⟩
theorem yo_X9_isLinkPart : kyOk yX9_isLinkPart 2 := ⟨by decide +kernel, by decide +kernel, by decide +kernel⟩
theorem yo_X3_tellRest : kyOk yX3_tellRest 3 := ⟨by decide +kernel, by decide +kernel, by decide +kernel⟩
theorem yo_X3_proveInto : kyOk yX3_proveInto 2 := ⟨by decide +kernel, by decide +kernel, by decide +kernel⟩
theorem yo_X1_siblings : kyOk yX1_siblings 1 := ⟨by decide +kernel, by decide +kernel, by decide +kernel⟩
theorem yo_X4_makeSame : kyOk yX4_makeSame 2 := ⟨by decide +kernel, by decide +kernel, by decide +kernel⟩
theorem yo_X0_spellInto : kyOk yX0_spellInto 2 := ⟨by decide +kernel, by decide +kernel, by decide +kernel⟩
theorem yo_X1_areMarried : kyOk yX1_areMarried 2 := ⟨by decide +kernel, by decide +kernel, by decide +kernel⟩
theorem yo_X6_putKin : kyOk yX6_putKin 4 := ⟨by decide +kernel, by decide +kernel, by decide +kernel⟩
theorem yo_X0_unlikeNames : kyOk yX0_unlikeNames 0 := ⟨by decide +kernel, by decide +kernel, by decide +kernel⟩
theorem yo_X1_greatestGeneration : kyOk yX1_greatestGeneration 0 := ⟨by decide +kernel, by decide +kernel, by decide +kernel⟩
theorem fk_X0_48 : kF RX0 48 5 1 2 := ⟨RX5, TX5, rfl, by decide, inG5, mw89⟩
theorem fk_X0_16 : kF RX0 16 0 3 11 := ⟨RX0, TX0, rfl, by decide, inG0, mw40⟩
theorem fk_X0_41 : kF RX0 41 0 0 11 := ⟨RX0, TX0, rfl, by decide, inG0, mw33⟩
theorem fk_X0_20 : kF RX0 20 0 4 11 := ⟨RX0, TX0, rfl, by decide, inG0, mw42⟩
theorem fp_X0_41 : kFP RX0 41 0 0 11 .int := ⟨RX0, TX0, tyX0, rfl, by decide, inG0, mw33, tyX0_ok, nmX0, rfl, rfl⟩
theorem fk_X0_11 : kF RX0 11 0 2 11 := ⟨RX0, TX0, rfl, by decide, inG0, mw38⟩
theorem fk_X0_53 : kF RX0 53 5 0 2 := ⟨RX5, TX5, rfl, by decide, inG5, mw86⟩
theorem fk_X0_45 : kF RX0 45 0 1 11 := ⟨RX0, TX0, rfl, by decide, inG0, mw36⟩
theorem fp_X0_45 : kFP RX0 45 0 1 11 .int := ⟨RX0, TX0, tyX0, rfl, by decide, inG0, mw36, tyX0_ok, nmX0, rfl, rfl⟩
theorem fk_X0_23 : kF RX0 23 0 5 11 := ⟨RX0, TX0, rfl, by decide, inG0, mw45⟩
theorem fk_X0_26 : kF RX0 26 0 6 11 := ⟨RX0, TX0, rfl, by decide, inG0, mw49⟩
theorem fk_X0_29 : kF RX0 29 0 7 11 := ⟨RX0, TX0, rfl, by decide, inG0, mw53⟩
theorem fk_X0_32 : kF RX0 32 0 8 11 := ⟨RX0, TX0, rfl, by decide, inG0, mw57⟩
theorem fk_X0_35 : kF RX0 35 0 9 11 := ⟨RX0, TX0, rfl, by decide, inG0, mw60⟩
theorem fk_X0_38 : kF RX0 38 0 10 11 := ⟨RX0, TX0, rfl, by decide, inG0, mw63⟩
theorem fk_X5_15 : kF RX5 15 5 1 2 := ⟨RX5, TX5, rfl, by decide, inG5, mw87⟩
theorem fk_X5_9 : kF RX5 9 5 0 2 := ⟨RX5, TX5, rfl, by decide, inG5, mw85⟩
theorem fp_X5_15 : kFP RX5 15 5 1 2 .int := ⟨RX5, TX5, tyX5, rfl, by decide, inG5, mw87, tyX5_ok, nmX5, rfl, rfl⟩
theorem fk_X0_57 : kF RX0 57 4 0 8 := ⟨RX4, TX4, rfl, by decide, inG4, mw98⟩
theorem fk_X0_62 : kF RX0 62 4 1 8 := ⟨RX4, TX4, rfl, by decide, inG4, mw100⟩
theorem fk_X0_65 : kF RX0 65 4 2 8 := ⟨RX4, TX4, rfl, by decide, inG4, mw102⟩
theorem fk_X0_68 : kF RX0 68 4 3 8 := ⟨RX4, TX4, rfl, by decide, inG4, mw104⟩
theorem fk_X0_71 : kF RX0 71 4 4 8 := ⟨RX4, TX4, rfl, by decide, inG4, mw106⟩
theorem fk_X10_11 : kF RX10 11 9 0 31 := ⟨RX10, TX10, rfl, by decide, inG10, mw922⟩
theorem fk_X10_60 : kF RX10 60 9 26 31 := ⟨RX10, TX10, rfl, by decide, inG10, mw948⟩
theorem fk_X10_30 : kF RX10 30 9 11 31 := ⟨RX10, TX10, rfl, by decide, inG10, mw933⟩
theorem fk_X10_33 : kF RX10 33 9 12 31 := ⟨RX10, TX10, rfl, by decide, inG10, mw934⟩
theorem fk_X10_36 : kF RX10 36 9 13 31 := ⟨RX10, TX10, rfl, by decide, inG10, mw935⟩
theorem fk_X10_27 : kF RX10 27 9 10 31 := ⟨RX10, TX10, rfl, by decide, inG10, mw932⟩
theorem fk_X10_39 : kF RX10 39 9 14 31 := ⟨RX10, TX10, rfl, by decide, inG10, mw936⟩
theorem fk_X10_96 : kF RX10 96 9 17 31 := ⟨RX10, TX10, rfl, by decide, inG10, mw939⟩
theorem fk_X10_42 : kF RX10 42 9 15 31 := ⟨RX10, TX10, rfl, by decide, inG10, mw937⟩
theorem fk_X10_117 : kF RX10 117 9 20 31 := ⟨RX10, TX10, rfl, by decide, inG10, mw942⟩
theorem fk_X10_45 : kF RX10 45 9 16 31 := ⟨RX10, TX10, rfl, by decide, inG10, mw938⟩
theorem fp_X10_120 : kFP RX10 120 9 21 31 .boolean := ⟨RX10, TX10, tyX10, rfl, by decide, inG10, mw943, tyX10_ok, nmX10, rfl, rfl⟩
theorem fp_X10_96 : kFP RX10 96 9 17 31 .int := ⟨RX10, TX10, tyX10, rfl, by decide, inG10, mw939, tyX10_ok, nmX10, rfl, rfl⟩
theorem fp_X10_100 : kFP RX10 100 9 18 31 .int := ⟨RX10, TX10, tyX10, rfl, by decide, inG10, mw940, tyX10_ok, nmX10, rfl, rfl⟩
theorem fp_X10_117 : kFP RX10 117 9 20 31 .int := ⟨RX10, TX10, tyX10, rfl, by decide, inG10, mw942, tyX10_ok, nmX10, rfl, rfl⟩
theorem fk_X10_100 : kF RX10 100 9 18 31 := ⟨RX10, TX10, rfl, by decide, inG10, mw940⟩
theorem fk_X10_160 : kF RX10 160 9 6 31 := ⟨RX10, TX10, rfl, by decide, inG10, mw928⟩
theorem fp_X10_160 : kFP RX10 160 9 6 31 .int := ⟨RX10, TX10, tyX10, rfl, by decide, inG10, mw928, tyX10_ok, nmX10, rfl, rfl⟩
theorem fp_X10_150 : kFP RX10 150 9 19 31 .int := ⟨RX10, TX10, tyX10, rfl, by decide, inG10, mw941, tyX10_ok, nmX10, rfl, rfl⟩
theorem fk_X10_120 : kF RX10 120 9 21 31 := ⟨RX10, TX10, rfl, by decide, inG10, mw943⟩
theorem fk_X10_150 : kF RX10 150 9 19 31 := ⟨RX10, TX10, rfl, by decide, inG10, mw941⟩
theorem fk_X10_24 : kF RX10 24 9 5 31 := ⟨RX10, TX10, rfl, by decide, inG10, mw927⟩
theorem fk_X10_48 : kF RX10 48 9 22 31 := ⟨RX10, TX10, rfl, by decide, inG10, mw944⟩
theorem fk_X10_51 : kF RX10 51 9 23 31 := ⟨RX10, TX10, rfl, by decide, inG10, mw945⟩
theorem fp_X10_265 : kFP RX10 265 9 27 31 .int := ⟨RX10, TX10, tyX10, rfl, by decide, inG10, mw949, tyX10_ok, nmX10, rfl, rfl⟩
theorem fk_X10_265 : kF RX10 265 9 27 31 := ⟨RX10, TX10, rfl, by decide, inG10, mw949⟩
theorem fk_X10_173 : kF RX10 173 9 9 31 := ⟨RX10, TX10, rfl, by decide, inG10, mw931⟩
theorem fp_X10_173 : kFP RX10 173 9 9 31 .int := ⟨RX10, TX10, tyX10, rfl, by decide, inG10, mw931, tyX10_ok, nmX10, rfl, rfl⟩
theorem fk_X10_18 : kF RX10 18 9 3 31 := ⟨RX10, TX10, rfl, by decide, inG10, mw925⟩
theorem fk_X10_63 : kF RX10 63 9 29 31 := ⟨RX10, TX10, rfl, by decide, inG10, mw951⟩
theorem fk_X10_66 : kF RX10 66 9 30 31 := ⟨RX10, TX10, rfl, by decide, inG10, mw952⟩
theorem fk_X10_21 : kF RX10 21 9 4 31 := ⟨RX10, TX10, rfl, by decide, inG10, mw926⟩
theorem fk_X10_163 : kF RX10 163 9 7 31 := ⟨RX10, TX10, rfl, by decide, inG10, mw929⟩
theorem fp_X10_163 : kFP RX10 163 9 7 31 .int := ⟨RX10, TX10, tyX10, rfl, by decide, inG10, mw929, tyX10_ok, nmX10, rfl, rfl⟩
theorem fk_X10_15 : kF RX10 15 9 1 31 := ⟨RX10, TX10, rfl, by decide, inG10, mw923⟩
theorem fp_X10_362 : kFP RX10 362 9 2 31 .boolean := ⟨RX10, TX10, tyX10, rfl, by decide, inG10, mw924, tyX10_ok, nmX10, rfl, rfl⟩
theorem fk_X10_57 : kF RX10 57 9 25 31 := ⟨RX10, TX10, rfl, by decide, inG10, mw947⟩
theorem fk_X10_176 : kF RX10 176 9 8 31 := ⟨RX10, TX10, rfl, by decide, inG10, mw930⟩
theorem fp_X10_176 : kFP RX10 176 9 8 31 .int := ⟨RX10, TX10, tyX10, rfl, by decide, inG10, mw930, tyX10_ok, nmX10, rfl, rfl⟩
theorem fp_X10_344 : kFP RX10 344 9 28 31 .int := ⟨RX10, TX10, tyX10, rfl, by decide, inG10, mw950, tyX10_ok, nmX10, rfl, rfl⟩
theorem fk_X10_344 : kF RX10 344 9 28 31 := ⟨RX10, TX10, rfl, by decide, inG10, mw950⟩
theorem fk_X10_54 : kF RX10 54 9 24 31 := ⟨RX10, TX10, rfl, by decide, inG10, mw946⟩
theorem fk_X10_362 : kF RX10 362 9 2 31 := ⟨RX10, TX10, rfl, by decide, inG10, mw924⟩
theorem fk_X1_33 : kF RX1 33 1 9 13 := ⟨RX1, TX1, rfl, by decide, inG1, mw146⟩
theorem fk_X1_30 : kF RX1 30 1 8 13 := ⟨RX1, TX1, rfl, by decide, inG1, mw144⟩
theorem fk_X1_27 : kF RX1 27 1 7 13 := ⟨RX1, TX1, rfl, by decide, inG1, mw142⟩
theorem fk_X1_39 : kF RX1 39 1 11 13 := ⟨RX1, TX1, rfl, by decide, inG1, mw149⟩
theorem fk_X1_111 : kF RX1 111 1 12 13 := ⟨RX1, TX1, rfl, by decide, inG1, mw150⟩
theorem fp_X1_111 : kFP RX1 111 1 12 13 .boolean := ⟨RX1, TX1, tyX1, rfl, by decide, inG1, mw150, tyX1_ok, nmX1, rfl, rfl⟩
theorem fk_X1_79 : kF RX1 79 0 5 11 := ⟨RX0, TX0, rfl, by decide, inG0, mw47⟩
theorem fk_X1_9 : kF RX1 9 1 2 13 := ⟨RX1, TX1, rfl, by decide, inG1, mw134⟩
theorem fk_X1_82 : kF RX1 82 0 6 11 := ⟨RX0, TX0, rfl, by decide, inG0, mw51⟩
theorem fk_X1_85 : kF RX1 85 0 7 11 := ⟨RX0, TX0, rfl, by decide, inG0, mw55⟩
theorem fk_X1_24 : kF RX1 24 1 6 13 := ⟨RX1, TX1, rfl, by decide, inG1, mw141⟩
theorem fk_X1_18 : kF RX1 18 1 4 13 := ⟨RX1, TX1, rfl, by decide, inG1, mw138⟩
theorem fk_X1_21 : kF RX1 21 1 5 13 := ⟨RX1, TX1, rfl, by decide, inG1, mw140⟩
theorem fk_X1_36 : kF RX1 36 1 10 13 := ⟨RX1, TX1, rfl, by decide, inG1, mw148⟩
theorem fk_X1_53 : kF RX1 53 0 0 11 := ⟨RX0, TX0, rfl, by decide, inG0, mw34⟩
theorem fp_X1_59 : kFP RX1 59 1 1 13 .int := ⟨RX1, TX1, tyX1, rfl, by decide, inG1, mw133, tyX1_ok, nmX1, rfl, rfl⟩
theorem fk_X1_15 : kF RX1 15 1 3 13 := ⟨RX1, TX1, rfl, by decide, inG1, mw137⟩
theorem fk_X1_59 : kF RX1 59 1 1 13 := ⟨RX1, TX1, rfl, by decide, inG1, mw133⟩
theorem fp_X1_69 : kFP RX1 69 1 0 13 .int := ⟨RX1, TX1, tyX1, rfl, by decide, inG1, mw130, tyX1_ok, nmX1, rfl, rfl⟩
theorem fk_X1_62 : kF RX1 62 0 4 11 := ⟨RX0, TX0, rfl, by decide, inG0, mw43⟩
theorem fk_X1_69 : kF RX1 69 1 0 13 := ⟨RX1, TX1, rfl, by decide, inG1, mw130⟩
theorem fk_X2_14 : kF RX2 14 2 1 2 := ⟨RX2, TX2, rfl, by decide, inG2, mw246⟩
theorem fk_X2_11 : kF RX2 11 2 0 2 := ⟨RX2, TX2, rfl, by decide, inG2, mw244⟩
theorem fk_X3_36 : kF RX3 36 3 8 12 := ⟨RX3, TX3, rfl, by decide, inG3, mw179⟩
theorem fk_X3_21 : kF RX3 21 3 3 12 := ⟨RX3, TX3, rfl, by decide, inG3, mw174⟩
theorem fk_X3_24 : kF RX3 24 3 4 12 := ⟨RX3, TX3, rfl, by decide, inG3, mw175⟩
theorem fk_X3_27 : kF RX3 27 3 5 12 := ⟨RX3, TX3, rfl, by decide, inG3, mw176⟩
theorem fk_X3_30 : kF RX3 30 3 6 12 := ⟨RX3, TX3, rfl, by decide, inG3, mw177⟩
theorem fk_X3_33 : kF RX3 33 3 7 12 := ⟨RX3, TX3, rfl, by decide, inG3, mw178⟩
theorem fp_X3_36 : kFP RX3 36 3 8 12 .int := ⟨RX3, TX3, tyX3, rfl, by decide, inG3, mw179, tyX3_ok, nmX3, rfl, rfl⟩
theorem fk_X3_9 : kF RX3 9 3 0 12 := ⟨RX3, TX3, rfl, by decide, inG3, mw169⟩
theorem fk_X3_15 : kF RX3 15 3 1 12 := ⟨RX3, TX3, rfl, by decide, inG3, mw172⟩
theorem fk_X3_18 : kF RX3 18 3 2 12 := ⟨RX3, TX3, rfl, by decide, inG3, mw173⟩
theorem fp_X3_89 : kFP RX3 89 3 11 12 .boolean := ⟨RX3, TX3, tyX3, rfl, by decide, inG3, mw185, tyX3_ok, nmX3, rfl, rfl⟩
theorem fp_X3_43 : kFP RX3 43 3 10 12 .int := ⟨RX3, TX3, tyX3, rfl, by decide, inG3, mw182, tyX3_ok, nmX3, rfl, rfl⟩
theorem fk_X3_43 : kF RX3 43 3 10 12 := ⟨RX3, TX3, rfl, by decide, inG3, mw182⟩
theorem fk_X3_40 : kF RX3 40 3 9 12 := ⟨RX3, TX3, rfl, by decide, inG3, mw180⟩
theorem fp_X3_40 : kFP RX3 40 3 9 12 .int := ⟨RX3, TX3, tyX3, rfl, by decide, inG3, mw180, tyX3_ok, nmX3, rfl, rfl⟩
theorem fk_X3_89 : kF RX3 89 3 11 12 := ⟨RX3, TX3, rfl, by decide, inG3, mw185⟩
theorem fk_X3_57 : kF RX3 57 1 2 13 := ⟨RX1, TX1, rfl, by decide, inG1, mw135⟩
theorem fk_X3_62 : kF RX3 62 0 6 11 := ⟨RX0, TX0, rfl, by decide, inG0, mw50⟩
theorem fk_X3_67 : kF RX3 67 0 7 11 := ⟨RX0, TX0, rfl, by decide, inG0, mw54⟩
theorem fk_X3_70 : kF RX3 70 0 8 11 := ⟨RX0, TX0, rfl, by decide, inG0, mw58⟩
theorem fk_X3_73 : kF RX3 73 0 5 11 := ⟨RX0, TX0, rfl, by decide, inG0, mw46⟩
theorem fk_X3_76 : kF RX3 76 0 9 11 := ⟨RX0, TX0, rfl, by decide, inG0, mw61⟩
theorem fp_X4_19 : kFP RX4 19 4 0 8 .int := ⟨RX4, TX4, tyX4, rfl, by decide, inG4, mw99, tyX4_ok, nmX4, rfl, rfl⟩
theorem fp_X4_23 : kFP RX4 23 4 1 8 .int := ⟨RX4, TX4, tyX4, rfl, by decide, inG4, mw101, tyX4_ok, nmX4, rfl, rfl⟩
theorem fp_X4_26 : kFP RX4 26 4 2 8 .int := ⟨RX4, TX4, tyX4, rfl, by decide, inG4, mw103, tyX4_ok, nmX4, rfl, rfl⟩
theorem fp_X4_29 : kFP RX4 29 4 3 8 .int := ⟨RX4, TX4, tyX4, rfl, by decide, inG4, mw105, tyX4_ok, nmX4, rfl, rfl⟩
theorem fp_X4_32 : kFP RX4 32 4 4 8 .int := ⟨RX4, TX4, tyX4, rfl, by decide, inG4, mw107, tyX4_ok, nmX4, rfl, rfl⟩
theorem fk_X4_35 : kF RX4 35 4 5 8 := ⟨RX4, TX4, rfl, by decide, inG4, mw108⟩
theorem fk_X4_47 : kF RX4 47 4 6 8 := ⟨RX4, TX4, rfl, by decide, inG4, mw110⟩
theorem fp_X4_57 : kFP RX4 57 4 7 8 .int := ⟨RX4, TX4, tyX4, rfl, by decide, inG4, mw111, tyX4_ok, nmX4, rfl, rfl⟩
theorem fk_X4_57 : kF RX4 57 4 7 8 := ⟨RX4, TX4, rfl, by decide, inG4, mw111⟩
theorem fp_X4_47 : kFP RX4 47 4 6 8 .int := ⟨RX4, TX4, tyX4, rfl, by decide, inG4, mw110, tyX4_ok, nmX4, rfl, rfl⟩
theorem fp_X4_35 : kFP RX4 35 4 5 8 .int := ⟨RX4, TX4, tyX4, rfl, by decide, inG4, mw108, tyX4_ok, nmX4, rfl, rfl⟩
theorem fk_X4_19 : kF RX4 19 4 0 8 := ⟨RX4, TX4, rfl, by decide, inG4, mw99⟩
theorem fk_X4_63 : kF RX4 63 5 1 2 := ⟨RX5, TX5, rfl, by decide, inG5, mw90⟩
theorem fk_X4_29 : kF RX4 29 4 3 8 := ⟨RX4, TX4, rfl, by decide, inG4, mw105⟩
theorem fk_X4_26 : kF RX4 26 4 2 8 := ⟨RX4, TX4, rfl, by decide, inG4, mw103⟩
theorem fk_X4_23 : kF RX4 23 4 1 8 := ⟨RX4, TX4, rfl, by decide, inG4, mw101⟩
theorem fk_X6_9 : kF RX6 9 6 3 5 := ⟨RX7, TX7, rfl, by decide, inG7, mw227⟩
theorem fk_X6_15 : kF RX6 15 6 4 5 := ⟨RX7, TX7, rfl, by decide, inG7, mw230⟩
theorem fk_X7_42 : kF RX7 42 1 7 13 := ⟨RX1, TX1, rfl, by decide, inG1, mw143⟩
theorem fk_X7_22 : kF RX7 22 6 2 5 := ⟨RX7, TX7, rfl, by decide, inG7, mw225⟩
theorem fk_X7_30 : kF RX7 30 6 3 5 := ⟨RX7, TX7, rfl, by decide, inG7, mw228⟩
theorem fk_X7_33 : kF RX7 33 6 4 5 := ⟨RX7, TX7, rfl, by decide, inG7, mw231⟩
theorem fk_X7_9 : kF RX7 9 6 0 5 := ⟨RX7, TX7, rfl, by decide, inG7, mw223⟩
theorem fk_X7_15 : kF RX7 15 6 1 5 := ⟨RX7, TX7, rfl, by decide, inG7, mw224⟩
theorem fp_X7_22 : kFP RX7 22 6 2 5 .int := ⟨RX7, TX7, tyX7, rfl, by decide, inG7, mw225, tyX7_ok, nmX7, rfl, rfl⟩
theorem fp_X7_30 : kFP RX7 30 6 3 5 .int := ⟨RX7, TX7, tyX7, rfl, by decide, inG7, mw228, tyX7_ok, nmX7, rfl, rfl⟩
theorem fp_X7_33 : kFP RX7 33 6 4 5 .int := ⟨RX7, TX7, tyX7, rfl, by decide, inG7, mw231, tyX7_ok, nmX7, rfl, rfl⟩
theorem fk_X8_25 : kF RX8 25 7 3 7 := ⟨RX8, TX8, rfl, by decide, inG8, mw204⟩
theorem fk_X8_101 : kF RX8 101 3 0 12 := ⟨RX3, TX3, rfl, by decide, inG3, mw170⟩
theorem fk_X8_48 : kF RX8 48 7 4 7 := ⟨RX8, TX8, rfl, by decide, inG8, mw206⟩
theorem fp_X8_48 : kFP RX8 48 7 4 7 .int := ⟨RX8, TX8, tyX8, rfl, by decide, inG8, mw206, tyX8_ok, nmX8, rfl, rfl⟩
theorem fp_X8_51 : kFP RX8 51 7 5 7 .int := ⟨RX8, TX8, tyX8, rfl, by decide, inG8, mw208, tyX8_ok, nmX8, rfl, rfl⟩
theorem fk_X8_18 : kF RX8 18 7 2 7 := ⟨RX8, TX8, rfl, by decide, inG8, mw202⟩
theorem fk_X8_76 : kF RX8 76 1 1 13 := ⟨RX1, TX1, rfl, by decide, inG1, mw132⟩
theorem fk_X8_29 : kF RX8 29 7 6 7 := ⟨RX8, TX8, rfl, by decide, inG8, mw209⟩
theorem fk_X8_32 : kF RX8 32 7 1 7 := ⟨RX8, TX8, rfl, by decide, inG8, mw200⟩
theorem fk_X8_9 : kF RX8 9 7 0 7 := ⟨RX8, TX8, rfl, by decide, inG8, mw198⟩
theorem fk_X8_51 : kF RX8 51 7 5 7 := ⟨RX8, TX8, rfl, by decide, inG8, mw208⟩
theorem fk_X8_91 : kF RX8 91 3 10 12 := ⟨RX3, TX3, rfl, by decide, inG3, mw183⟩
theorem fp_X8_32 : kFP RX8 32 7 1 7 .int := ⟨RX8, TX8, tyX8, rfl, by decide, inG8, mw200, tyX8_ok, nmX8, rfl, rfl⟩
theorem fk_X8_36 : kF RX8 36 0 10 11 := ⟨RX0, TX0, rfl, by decide, inG0, mw64⟩
theorem fk_X9_14 : kF RX9 14 8 0 14 := ⟨RX9, TX9, rfl, by decide, inG9, mw250⟩
theorem fk_X9_164 : kF RX9 164 7 2 7 := ⟨RX8, TX8, rfl, by decide, inG8, mw203⟩
theorem fk_X9_168 : kF RX9 168 1 2 13 := ⟨RX1, TX1, rfl, by decide, inG1, mw136⟩
theorem fk_X9_339 : kF RX9 339 8 8 14 := ⟨RX9, TX9, rfl, by decide, inG9, mw258⟩
theorem fk_X9_43 : kF RX9 43 8 6 14 := ⟨RX9, TX9, rfl, by decide, inG9, mw256⟩
theorem fk_X9_109 : kF RX9 109 0 1 11 := ⟨RX0, TX0, rfl, by decide, inG0, mw37⟩
theorem fp_X9_339 : kFP RX9 339 8 8 14 .boolean := ⟨RX9, TX9, tyX9, rfl, by decide, inG9, mw258, tyX9_ok, nmX9, rfl, rfl⟩
theorem fk_X9_181 : kF RX9 181 7 3 7 := ⟨RX8, TX8, rfl, by decide, inG8, mw205⟩
theorem fk_X9_185 : kF RX9 185 3 0 12 := ⟨RX3, TX3, rfl, by decide, inG3, mw171⟩
theorem fk_X9_294 : kF RX9 294 1 8 13 := ⟨RX1, TX1, rfl, by decide, inG1, mw145⟩
theorem fk_X9_86 : kF RX9 86 0 0 11 := ⟨RX0, TX0, rfl, by decide, inG0, mw35⟩
theorem fk_X9_205 : kF RX9 205 7 4 7 := ⟨RX8, TX8, rfl, by decide, inG8, mw207⟩
theorem fk_X9_26 : kF RX9 26 8 3 14 := ⟨RX9, TX9, rfl, by decide, inG9, mw253⟩
theorem fk_X9_68 : kF RX9 68 5 1 2 := ⟨RX5, TX5, rfl, by decide, inG5, mw88⟩
theorem fk_X9_57 : kF RX9 57 8 12 14 := ⟨RX9, TX9, rfl, by decide, inG9, mw262⟩
theorem fk_X9_240 : kF RX9 240 6 2 5 := ⟨RX7, TX7, rfl, by decide, inG7, mw226⟩
theorem fk_X9_342 : kF RX9 342 8 11 14 := ⟨RX9, TX9, rfl, by decide, inG9, mw261⟩
theorem fp_X9_217 : kFP RX9 217 8 10 14 .int := ⟨RX9, TX9, tyX9, rfl, by decide, inG9, mw260, tyX9_ok, nmX9, rfl, rfl⟩
theorem fk_X9_306 : kF RX9 306 7 1 7 := ⟨RX8, TX8, rfl, by decide, inG8, mw201⟩
theorem fp_X9_342 : kFP RX9 342 8 11 14 .boolean := ⟨RX9, TX9, tyX9, rfl, by decide, inG9, mw261, tyX9_ok, nmX9, rfl, rfl⟩
theorem fk_X9_47 : kF RX9 47 8 7 14 := ⟨RX9, TX9, rfl, by decide, inG9, mw257⟩
theorem fk_X9_353 : kF RX9 353 7 0 7 := ⟨RX8, TX8, rfl, by decide, inG8, mw199⟩
theorem fk_X9_217 : kF RX9 217 8 10 14 := ⟨RX9, TX9, rfl, by decide, inG9, mw260⟩
theorem fk_X9_50 : kF RX9 50 8 9 14 := ⟨RX9, TX9, rfl, by decide, inG9, mw259⟩
theorem fk_X9_64 : kF RX9 64 8 13 14 := ⟨RX9, TX9, rfl, by decide, inG9, mw263⟩
theorem fk_X9_327 : kF RX9 327 2 0 2 := ⟨RX2, TX2, rfl, by decide, inG2, mw245⟩
theorem fk_X9_18 : kF RX9 18 8 1 14 := ⟨RX9, TX9, rfl, by decide, inG9, mw251⟩
theorem fp_X9_335 : kFP RX9 335 8 2 14 .boolean := ⟨RX9, TX9, tyX9, rfl, by decide, inG9, mw252, tyX9_ok, nmX9, rfl, rfl⟩
theorem fk_X9_321 : kF RX9 321 2 1 2 := ⟨RX2, TX2, rfl, by decide, inG2, mw247⟩
theorem fk_X9_300 : kF RX9 300 1 0 13 := ⟨RX1, TX1, rfl, by decide, inG1, mw131⟩
theorem fk_X9_303 : kF RX9 303 7 6 7 := ⟨RX8, TX8, rfl, by decide, inG8, mw210⟩
theorem fk_X9_243 : kF RX9 243 6 3 5 := ⟨RX7, TX7, rfl, by decide, inG7, mw229⟩
theorem fk_X9_246 : kF RX9 246 6 4 5 := ⟨RX7, TX7, rfl, by decide, inG7, mw232⟩
theorem fk_X9_126 : kF RX9 126 0 10 11 := ⟨RX0, TX0, rfl, by decide, inG0, mw65⟩
theorem fk_X9_147 : kF RX9 147 0 3 11 := ⟨RX0, TX0, rfl, by decide, inG0, mw41⟩
theorem fk_X9_150 : kF RX9 150 0 2 11 := ⟨RX0, TX0, rfl, by decide, inG0, mw39⟩
theorem fk_X9_36 : kF RX9 36 8 5 14 := ⟨RX9, TX9, rfl, by decide, inG9, mw255⟩
theorem fk_X9_116 : kF RX9 116 4 5 8 := ⟨RX4, TX4, rfl, by decide, inG4, mw109⟩
theorem fk_X9_129 : kF RX9 129 0 5 11 := ⟨RX0, TX0, rfl, by decide, inG0, mw48⟩
theorem fk_X9_132 : kF RX9 132 0 6 11 := ⟨RX0, TX0, rfl, by decide, inG0, mw52⟩
theorem fk_X9_135 : kF RX9 135 0 7 11 := ⟨RX0, TX0, rfl, by decide, inG0, mw56⟩
theorem fk_X9_138 : kF RX9 138 0 8 11 := ⟨RX0, TX0, rfl, by decide, inG0, mw59⟩
theorem fk_X9_141 : kF RX9 141 0 9 11 := ⟨RX0, TX0, rfl, by decide, inG0, mw62⟩
theorem fk_X9_30 : kF RX9 30 8 4 14 := ⟨RX9, TX9, rfl, by decide, inG9, mw254⟩
theorem fk_X9_291 : kF RX9 291 1 9 13 := ⟨RX1, TX1, rfl, by decide, inG1, mw147⟩
theorem fk_X9_234 : kF RX9 234 3 9 12 := ⟨RX3, TX3, rfl, by decide, inG3, mw181⟩
theorem fk_X9_103 : kF RX9 103 0 4 11 := ⟨RX0, TX0, rfl, by decide, inG0, mw44⟩
theorem fp_X9_109 : kFP RX9 109 0 1 11 .int := ⟨RX0, TX0, tyX0, rfl, by decide, inG0, mw37, tyX0_ok, nmX0, rfl, rfl⟩
theorem fk_X9_253 : kF RX9 253 1 4 13 := ⟨RX1, TX1, rfl, by decide, inG1, mw139⟩
theorem fk_X9_335 : kF RX9 335 8 2 14 := ⟨RX9, TX9, rfl, by decide, inG9, mw252⟩
theorem fk_X9_211 : kF RX9 211 3 10 12 := ⟨RX3, TX3, rfl, by decide, inG3, mw184⟩
