/-! THE SMALL MACHINE: what the tables say, one by one (wip/whole/gen_emit.py writes this and the parts behind it) -/
theorem F_0_9 : mm_fld 0 9 = some (0, 1) := by decide +kernel
theorem F_0_15 : mm_fld 0 15 = some (0, 2) := by decide +kernel
theorem F_0_19 : mm_fld 0 19 = some (0, 3) := by decide +kernel
theorem F_0_22 : mm_fld 0 22 = some (0, 4) := by decide +kernel
theorem F_0_27 : mm_fld 0 27 = some (0, 5) := by decide +kernel
theorem F_0_30 : mm_fld 0 30 = some (0, 6) := by decide +kernel
theorem F_0_33 : mm_fld 0 33 = some (0, 7) := by decide +kernel
theorem F_0_36 : mm_fld 0 36 = some (0, 8) := by decide +kernel
theorem F_0_39 : mm_fld 0 39 = some (0, 9) := by decide +kernel
theorem F_0_42 : mm_fld 0 42 = some (0, 0) := by decide +kernel
theorem F_0_50 : mm_fld 0 50 = some (2, 1) := by decide +kernel
theorem F_0_53 : mm_fld 0 53 = some (2, 9) := by decide +kernel
theorem F_0_60 : mm_fld 0 60 = some (2, 10) := by decide +kernel
theorem F_0_61 : mm_fld 0 61 = some (2, 14) := by decide +kernel
theorem F_0_64 : mm_fld 0 64 = some (2, 0) := by decide +kernel
theorem F_0_67 : mm_fld 0 67 = some (2, 6) := by decide +kernel
theorem F_0_70 : mm_fld 0 70 = some (2, 7) := by decide +kernel
theorem F_0_73 : mm_fld 0 73 = some (2, 16) := by decide +kernel
theorem F_0_76 : mm_fld 0 76 = some (2, 15) := by decide +kernel
theorem F_0_86 : mm_fld 0 86 = some (2, 8) := by decide +kernel
theorem F_0_89 : mm_fld 0 89 = some (2, 19) := by decide +kernel
theorem F_0_92 : mm_fld 0 92 = some (2, 17) := by decide +kernel
theorem F_0_95 : mm_fld 0 95 = some (2, 18) := by decide +kernel
theorem F_0_98 : mm_fld 0 98 = some (2, 11) := by decide +kernel
theorem F_0_100 : mm_fld 0 100 = some (2, 12) := by decide +kernel
theorem F_0_103 : mm_fld 0 103 = some (2, 13) := by decide +kernel
theorem F_0_113 : mm_fld 0 113 = some (2, 5) := by decide +kernel
theorem F_0_116 : mm_fld 0 116 = some (2, 2) := by decide +kernel
theorem F_1_11 : mm_fld 1 11 = some (1, 2) := by decide +kernel
theorem F_1_16 : mm_fld 1 16 = some (1, 3) := by decide +kernel
theorem F_1_19 : mm_fld 1 19 = some (1, 4) := by decide +kernel
theorem F_1_23 : mm_fld 1 23 = some (1, 5) := by decide +kernel
theorem F_1_26 : mm_fld 1 26 = some (1, 0) := by decide +kernel
theorem F_1_30 : mm_fld 1 30 = some (1, 1) := by decide +kernel
theorem F_1_38 : mm_fld 1 38 = some (2, 12) := by decide +kernel
theorem F_1_44 : mm_fld 1 44 = some (2, 13) := by decide +kernel
theorem F_1_59 : mm_fld 1 59 = some (0, 4) := by decide +kernel
theorem F_1_62 : mm_fld 1 62 = some (2, 0) := by decide +kernel
theorem F_1_69 : mm_fld 1 69 = some (0, 7) := by decide +kernel
theorem F_1_72 : mm_fld 1 72 = some (2, 14) := by decide +kernel
theorem F_2_9 : mm_fld 2 9 = some (2, 0) := by decide +kernel
theorem F_2_15 : mm_fld 2 15 = some (2, 1) := by decide +kernel
theorem F_2_18 : mm_fld 2 18 = some (2, 2) := by decide +kernel
theorem F_2_21 : mm_fld 2 21 = some (2, 3) := by decide +kernel
theorem F_2_24 : mm_fld 2 24 = some (2, 4) := by decide +kernel
theorem F_2_27 : mm_fld 2 27 = some (2, 5) := by decide +kernel
theorem F_2_30 : mm_fld 2 30 = some (2, 6) := by decide +kernel
theorem F_2_33 : mm_fld 2 33 = some (2, 7) := by decide +kernel
theorem F_2_36 : mm_fld 2 36 = some (2, 8) := by decide +kernel
theorem F_2_39 : mm_fld 2 39 = some (2, 9) := by decide +kernel
theorem F_2_43 : mm_fld 2 43 = some (2, 10) := by decide +kernel
theorem F_2_46 : mm_fld 2 46 = some (2, 11) := by decide +kernel
theorem F_2_49 : mm_fld 2 49 = some (2, 12) := by decide +kernel
theorem F_2_52 : mm_fld 2 52 = some (2, 13) := by decide +kernel
theorem F_2_55 : mm_fld 2 55 = some (2, 14) := by decide +kernel
theorem F_2_58 : mm_fld 2 58 = some (2, 15) := by decide +kernel
theorem F_2_61 : mm_fld 2 61 = some (2, 16) := by decide +kernel
theorem F_2_64 : mm_fld 2 64 = some (2, 17) := by decide +kernel
theorem F_2_67 : mm_fld 2 67 = some (2, 18) := by decide +kernel
theorem F_2_70 : mm_fld 2 70 = some (2, 19) := by decide +kernel
theorem F_3_12 : mm_fld 3 12 = some (3, 1) := by decide +kernel
theorem F_3_18 : mm_fld 3 18 = some (3, 2) := by decide +kernel
theorem F_3_22 : mm_fld 3 22 = some (3, 3) := by decide +kernel
theorem F_3_25 : mm_fld 3 25 = some (3, 4) := by decide +kernel
theorem F_3_28 : mm_fld 3 28 = some (3, 5) := by decide +kernel
theorem F_3_31 : mm_fld 3 31 = some (3, 6) := by decide +kernel
theorem F_3_34 : mm_fld 3 34 = some (3, 7) := by decide +kernel
theorem F_3_37 : mm_fld 3 37 = some (3, 0) := by decide +kernel
theorem F_3_50 : mm_fld 3 50 = some (2, 4) := by decide +kernel
theorem F_3_91 : mm_fld 3 91 = some (2, 0) := by decide +kernel
theorem F_3_95 : mm_fld 3 95 = some (2, 1) := by decide +kernel
theorem F_3_99 : mm_fld 3 99 = some (2, 2) := by decide +kernel
theorem F_3_103 : mm_fld 3 103 = some (2, 3) := by decide +kernel
theorem F_3_105 : mm_fld 3 105 = some (2, 5) := by decide +kernel
theorem F_3_118 : mm_fld 3 118 = some (2, 6) := by decide +kernel
theorem F_3_133 : mm_fld 3 133 = some (2, 7) := by decide +kernel
theorem F_3_145 : mm_fld 3 145 = some (8, 0) := by decide +kernel
theorem F_3_155 : mm_fld 3 155 = some (8, 1) := by decide +kernel
theorem F_4_9 : mm_fld 4 9 = some (4, 0) := by decide +kernel
theorem F_4_15 : mm_fld 4 15 = some (4, 1) := by decide +kernel
theorem F_4_19 : mm_fld 4 19 = some (4, 2) := by decide +kernel
theorem F_4_23 : mm_fld 4 23 = some (4, 3) := by decide +kernel
theorem F_4_43 : mm_fld 4 43 = some (2, 0) := by decide +kernel
theorem F_4_49 : mm_fld 4 49 = some (0, 7) := by decide +kernel
theorem F_5_9 : mm_fld 5 9 = some (5, 2) := by decide +kernel
theorem F_5_15 : mm_fld 5 15 = some (5, 3) := by decide +kernel
theorem F_5_20 : mm_fld 5 20 = some (5, 4) := by decide +kernel
theorem F_5_23 : mm_fld 5 23 = some (5, 0) := by decide +kernel
theorem F_5_27 : mm_fld 5 27 = some (5, 1) := by decide +kernel
theorem F_5_63 : mm_fld 5 63 = some (2, 6) := by decide +kernel
theorem F_5_68 : mm_fld 5 68 = some (0, 4) := by decide +kernel
theorem F_6_9 : mm_fld 6 9 = some (6, 2) := by decide +kernel
theorem F_6_15 : mm_fld 6 15 = some (6, 0) := by decide +kernel
theorem F_6_19 : mm_fld 6 19 = some (6, 1) := by decide +kernel
theorem F_6_23 : mm_fld 6 23 = some (2, 6) := by decide +kernel
theorem F_6_38 : mm_fld 6 38 = some (2, 0) := by decide +kernel
theorem F_6_44 : mm_fld 6 44 = some (0, 7) := by decide +kernel
theorem F_7_9 : mm_fld 7 9 = some (7, 2) := by decide +kernel
theorem F_7_15 : mm_fld 7 15 = some (7, 3) := by decide +kernel
theorem F_7_19 : mm_fld 7 19 = some (7, 4) := by decide +kernel
theorem F_7_22 : mm_fld 7 22 = some (7, 5) := by decide +kernel
theorem F_7_25 : mm_fld 7 25 = some (7, 6) := by decide +kernel
theorem F_7_30 : mm_fld 7 30 = some (7, 7) := by decide +kernel
theorem F_7_33 : mm_fld 7 33 = some (7, 0) := by decide +kernel
theorem F_7_37 : mm_fld 7 37 = some (7, 1) := by decide +kernel
theorem F_7_67 : mm_fld 7 67 = some (0, 4) := by decide +kernel
theorem F_7_79 : mm_fld 7 79 = some (2, 6) := by decide +kernel
theorem F_7_85 : mm_fld 7 85 = some (2, 14) := by decide +kernel
theorem F_7_88 : mm_fld 7 88 = some (2, 5) := by decide +kernel
theorem F_7_91 : mm_fld 7 91 = some (0, 7) := by decide +kernel
theorem F_7_94 : mm_fld 7 94 = some (2, 0) := by decide +kernel
theorem F_8_9 : mm_fld 8 9 = some (8, 0) := by decide +kernel
theorem F_8_15 : mm_fld 8 15 = some (8, 1) := by decide +kernel
theorem F_9_10 : mm_fld 9 10 = some (9, 0) := by decide +kernel
theorem F_9_21 : mm_fld 9 21 = some (9, 1) := by decide +kernel
theorem F_9_28 : mm_fld 9 28 = some (9, 2) := by decide +kernel
theorem F_9_37 : mm_fld 9 37 = some (9, 5) := by decide +kernel
theorem F_9_41 : mm_fld 9 41 = some (9, 6) := by decide +kernel
theorem F_9_49 : mm_fld 9 49 = some (9, 7) := by decide +kernel
theorem F_9_56 : mm_fld 9 56 = some (9, 8) := by decide +kernel
theorem F_9_63 : mm_fld 9 63 = some (9, 9) := by decide +kernel
theorem F_9_70 : mm_fld 9 70 = some (9, 10) := by decide +kernel
theorem F_9_74 : mm_fld 9 74 = some (9, 3) := by decide +kernel
theorem F_9_78 : mm_fld 9 78 = some (9, 4) := by decide +kernel
theorem F_9_84 : mm_fld 9 84 = some (9, 11) := by decide +kernel
theorem F_9_89 : mm_fld 9 89 = some (8, 1) := by decide +kernel
theorem F_9_101 : mm_fld 9 101 = some (3, 1) := by decide +kernel
theorem F_9_110 : mm_fld 9 110 = some (2, 4) := by decide +kernel
theorem F_9_113 : mm_fld 9 113 = some (3, 2) := by decide +kernel
theorem F_9_116 : mm_fld 9 116 = some (3, 3) := by decide +kernel
theorem F_9_127 : mm_fld 9 127 = some (2, 9) := by decide +kernel
theorem F_9_131 : mm_fld 9 131 = some (2, 10) := by decide +kernel
theorem F_9_137 : mm_fld 9 137 = some (2, 11) := by decide +kernel
theorem F_9_140 : mm_fld 9 140 = some (2, 12) := by decide +kernel
theorem F_9_143 : mm_fld 9 143 = some (2, 13) := by decide +kernel
theorem F_9_146 : mm_fld 9 146 = some (2, 14) := by decide +kernel
theorem F_9_152 : mm_fld 9 152 = some (2, 15) := by decide +kernel
theorem F_9_155 : mm_fld 9 155 = some (2, 16) := by decide +kernel
theorem F_9_161 : mm_fld 9 161 = some (0, 7) := by decide +kernel
theorem F_9_165 : mm_fld 9 165 = some (0, 8) := by decide +kernel
theorem F_9_171 : mm_fld 9 171 = some (0, 9) := by decide +kernel
theorem F_9_173 : mm_fld 9 173 = some (0, 6) := by decide +kernel
theorem F_9_187 : mm_fld 9 187 = some (2, 0) := by decide +kernel
theorem F_9_190 : mm_fld 9 190 = some (2, 5) := by decide +kernel
theorem F_9_218 : mm_fld 9 218 = some (2, 6) := by decide +kernel
theorem F_9_247 : mm_fld 9 247 = some (0, 3) := by decide +kernel
theorem F_9_248 : mm_fld 9 248 = some (0, 2) := by decide +kernel
theorem F_9_249 : mm_fld 9 249 = some (0, 1) := by decide +kernel
theorem F_9_255 : mm_fld 9 255 = some (7, 3) := by decide +kernel
theorem F_9_258 : mm_fld 9 258 = some (7, 7) := by decide +kernel
theorem F_9_261 : mm_fld 9 261 = some (7, 4) := by decide +kernel
theorem F_9_264 : mm_fld 9 264 = some (7, 5) := by decide +kernel
theorem F_9_267 : mm_fld 9 267 = some (7, 6) := by decide +kernel
theorem F_9_289 : mm_fld 9 289 = some (5, 3) := by decide +kernel
theorem F_9_311 : mm_fld 9 311 = some (4, 1) := by decide +kernel
theorem F_9_338 : mm_fld 9 338 = some (1, 4) := by decide +kernel
theorem F_9_341 : mm_fld 9 341 = some (1, 5) := by decide +kernel
theorem F_9_357 : mm_fld 9 357 = some (2, 3) := by decide +kernel
theorem F_9_373 : mm_fld 9 373 = some (2, 8) := by decide +kernel
theorem F_9_398 : mm_fld 9 398 = some (2, 1) := by decide +kernel
theorem F_9_399 : mm_fld 9 399 = some (2, 2) := by decide +kernel
theorem F_9_402 : mm_fld 9 402 = some (2, 7) := by decide +kernel
theorem F_9_411 : mm_fld 9 411 = some (5, 2) := by decide +kernel
theorem F_9_414 : mm_fld 9 414 = some (4, 3) := by decide +kernel
theorem F_9_420 : mm_fld 9 420 = some (4, 2) := by decide +kernel
theorem F_9_426 : mm_fld 9 426 = some (4, 0) := by decide +kernel
theorem F_9_436 : mm_fld 9 436 = some (7, 2) := by decide +kernel
theorem F_10_9 : mm_fld 10 9 = some (10, 1) := by decide +kernel
theorem F_10_13 : mm_fld 10 13 = some (10, 2) := by decide +kernel
theorem F_10_16 : mm_fld 10 16 = some (10, 3) := by decide +kernel
theorem F_10_20 : mm_fld 10 20 = some (10, 4) := by decide +kernel
theorem F_10_24 : mm_fld 10 24 = some (10, 6) := by decide +kernel
theorem F_10_27 : mm_fld 10 27 = some (10, 13) := by decide +kernel
theorem F_10_31 : mm_fld 10 31 = some (10, 14) := by decide +kernel
theorem F_10_34 : mm_fld 10 34 = some (10, 15) := by decide +kernel
theorem F_10_37 : mm_fld 10 37 = some (10, 16) := by decide +kernel
theorem F_10_40 : mm_fld 10 40 = some (10, 17) := by decide +kernel
theorem F_10_43 : mm_fld 10 43 = some (10, 18) := by decide +kernel
theorem F_10_46 : mm_fld 10 46 = some (10, 21) := by decide +kernel
theorem F_10_49 : mm_fld 10 49 = some (10, 22) := by decide +kernel
theorem F_10_52 : mm_fld 10 52 = some (10, 23) := by decide +kernel
theorem F_10_55 : mm_fld 10 55 = some (10, 24) := by decide +kernel
theorem F_10_58 : mm_fld 10 58 = some (10, 27) := by decide +kernel
theorem F_10_61 : mm_fld 10 61 = some (10, 33) := by decide +kernel
theorem F_10_64 : mm_fld 10 64 = some (10, 36) := by decide +kernel
theorem F_10_67 : mm_fld 10 67 = some (10, 37) := by decide +kernel
theorem F_10_70 : mm_fld 10 70 = some (10, 43) := by decide +kernel
theorem F_10_73 : mm_fld 10 73 = some (10, 44) := by decide +kernel
theorem F_10_76 : mm_fld 10 76 = some (10, 45) := by decide +kernel
theorem F_10_80 : mm_fld 10 80 = some (10, 46) := by decide +kernel
theorem F_10_106 : mm_fld 10 106 = some (10, 5) := by decide +kernel
theorem F_10_109 : mm_fld 10 109 = some (10, 7) := by decide +kernel
theorem F_10_112 : mm_fld 10 112 = some (10, 8) := by decide +kernel
theorem F_10_119 : mm_fld 10 119 = some (10, 9) := by decide +kernel
theorem F_10_122 : mm_fld 10 122 = some (10, 10) := by decide +kernel
theorem F_10_133 : mm_fld 10 133 = some (10, 11) := by decide +kernel
theorem F_10_142 : mm_fld 10 142 = some (10, 12) := by decide +kernel
theorem F_10_228 : mm_fld 10 228 = some (10, 19) := by decide +kernel
theorem F_10_231 : mm_fld 10 231 = some (10, 20) := by decide +kernel
theorem F_10_254 : mm_fld 10 254 = some (10, 25) := by decide +kernel
theorem F_10_257 : mm_fld 10 257 = some (10, 26) := by decide +kernel
theorem F_10_320 : mm_fld 10 320 = some (10, 32) := by decide +kernel
theorem F_10_323 : mm_fld 10 323 = some (10, 30) := by decide +kernel
theorem F_10_326 : mm_fld 10 326 = some (10, 31) := by decide +kernel
theorem F_10_329 : mm_fld 10 329 = some (10, 28) := by decide +kernel
theorem F_10_332 : mm_fld 10 332 = some (10, 29) := by decide +kernel
theorem F_10_375 : mm_fld 10 375 = some (10, 34) := by decide +kernel
theorem F_10_384 : mm_fld 10 384 = some (10, 35) := by decide +kernel
theorem F_10_405 : mm_fld 10 405 = some (10, 38) := by decide +kernel
theorem F_10_408 : mm_fld 10 408 = some (10, 39) := by decide +kernel
theorem F_10_418 : mm_fld 10 418 = some (10, 40) := by decide +kernel
theorem F_10_422 : mm_fld 10 422 = some (10, 41) := by decide +kernel
theorem F_10_425 : mm_fld 10 425 = some (10, 42) := by decide +kernel
theorem T_0_0 : fkOf (mm_ty 0 0) = 2 := by decide +kernel
theorem T_0_1 : fkOf (mm_ty 0 1) = 0 := by decide +kernel
theorem T_0_2 : fkOf (mm_ty 0 2) = 2 := by decide +kernel
theorem T_0_3 : fkOf (mm_ty 0 3) = 2 := by decide +kernel
theorem T_0_4 : fkOf (mm_ty 0 4) = 2 := by decide +kernel
theorem T_0_5 : fkOf (mm_ty 0 5) = 2 := by decide +kernel
theorem T_0_6 : fkOf (mm_ty 0 6) = 2 := by decide +kernel
theorem T_0_7 : fkOf (mm_ty 0 7) = 2 := by decide +kernel
theorem T_0_8 : fkOf (mm_ty 0 8) = 2 := by decide +kernel
theorem T_0_9 : fkOf (mm_ty 0 9) = 2 := by decide +kernel
theorem T_1_0 : fkOf (mm_ty 1 0) = 2 := by decide +kernel
theorem T_1_1 : fkOf (mm_ty 1 1) = 2 := by decide +kernel
theorem T_1_2 : fkOf (mm_ty 1 2) = 2 := by decide +kernel
theorem T_1_3 : fkOf (mm_ty 1 3) = 2 := by decide +kernel
theorem T_1_4 : fkOf (mm_ty 1 4) = 0 := by decide +kernel
theorem T_1_5 : fkOf (mm_ty 1 5) = 0 := by decide +kernel
theorem T_2_0 : fkOf (mm_ty 2 0) = 0 := by decide +kernel
theorem T_2_1 : fkOf (mm_ty 2 1) = 0 := by decide +kernel
theorem T_2_2 : fkOf (mm_ty 2 2) = 0 := by decide +kernel
theorem T_2_3 : fkOf (mm_ty 2 3) = 0 := by decide +kernel
theorem T_2_4 : fkOf (mm_ty 2 4) = 0 := by decide +kernel
theorem T_2_5 : fkOf (mm_ty 2 5) = 0 := by decide +kernel
theorem T_2_6 : fkOf (mm_ty 2 6) = 0 := by decide +kernel
theorem T_2_7 : fkOf (mm_ty 2 7) = 0 := by decide +kernel
theorem T_2_8 : fkOf (mm_ty 2 8) = 0 := by decide +kernel
theorem T_2_9 : fkOf (mm_ty 2 9) = 2 := by decide +kernel
theorem T_2_10 : fkOf (mm_ty 2 10) = 2 := by decide +kernel
theorem T_2_11 : fkOf (mm_ty 2 11) = 2 := by decide +kernel
theorem T_2_12 : fkOf (mm_ty 2 12) = 2 := by decide +kernel
theorem T_2_13 : fkOf (mm_ty 2 13) = 2 := by decide +kernel
theorem T_2_14 : fkOf (mm_ty 2 14) = 2 := by decide +kernel
theorem T_2_15 : fkOf (mm_ty 2 15) = 2 := by decide +kernel
theorem T_2_16 : fkOf (mm_ty 2 16) = 2 := by decide +kernel
theorem T_2_17 : fkOf (mm_ty 2 17) = 2 := by decide +kernel
theorem T_2_18 : fkOf (mm_ty 2 18) = 2 := by decide +kernel
theorem T_2_19 : fkOf (mm_ty 2 19) = 2 := by decide +kernel
theorem T_3_0 : fkOf (mm_ty 3 0) = 2 := by decide +kernel
theorem T_3_1 : fkOf (mm_ty 3 1) = 2 := by decide +kernel
theorem T_3_2 : fkOf (mm_ty 3 2) = 0 := by decide +kernel
theorem T_3_3 : fkOf (mm_ty 3 3) = 0 := by decide +kernel
theorem T_3_4 : fkOf (mm_ty 3 4) = 0 := by decide +kernel
theorem T_3_5 : fkOf (mm_ty 3 5) = 0 := by decide +kernel
theorem T_3_6 : fkOf (mm_ty 3 6) = 0 := by decide +kernel
theorem T_3_7 : fkOf (mm_ty 3 7) = 0 := by decide +kernel
theorem T_4_0 : fkOf (mm_ty 4 0) = 2 := by decide +kernel
theorem T_4_1 : fkOf (mm_ty 4 1) = 3 := by decide +kernel
theorem T_4_2 : fkOf (mm_ty 4 2) = 0 := by decide +kernel
theorem T_4_3 : fkOf (mm_ty 4 3) = 0 := by decide +kernel
theorem T_5_0 : fkOf (mm_ty 5 0) = 2 := by decide +kernel
theorem T_5_1 : fkOf (mm_ty 5 1) = 2 := by decide +kernel
theorem T_5_2 : fkOf (mm_ty 5 2) = 0 := by decide +kernel
theorem T_5_3 : fkOf (mm_ty 5 3) = 0 := by decide +kernel
theorem T_5_4 : fkOf (mm_ty 5 4) = 2 := by decide +kernel
theorem T_6_0 : fkOf (mm_ty 6 0) = 2 := by decide +kernel
theorem T_6_1 : fkOf (mm_ty 6 1) = 2 := by decide +kernel
theorem T_6_2 : fkOf (mm_ty 6 2) = 2 := by decide +kernel
theorem T_7_0 : fkOf (mm_ty 7 0) = 2 := by decide +kernel
theorem T_7_1 : fkOf (mm_ty 7 1) = 2 := by decide +kernel
theorem T_7_2 : fkOf (mm_ty 7 2) = 3 := by decide +kernel
theorem T_7_3 : fkOf (mm_ty 7 3) = 2 := by decide +kernel
theorem T_7_4 : fkOf (mm_ty 7 4) = 2 := by decide +kernel
theorem T_7_5 : fkOf (mm_ty 7 5) = 2 := by decide +kernel
theorem T_7_6 : fkOf (mm_ty 7 6) = 2 := by decide +kernel
theorem T_7_7 : fkOf (mm_ty 7 7) = 2 := by decide +kernel
theorem T_8_0 : fkOf (mm_ty 8 0) = 2 := by decide +kernel
theorem T_8_1 : fkOf (mm_ty 8 1) = 0 := by decide +kernel
theorem T_9_0 : fkOf (mm_ty 9 0) = 2 := by decide +kernel
theorem T_9_1 : fkOf (mm_ty 9 1) = 2 := by decide +kernel
theorem T_9_2 : fkOf (mm_ty 9 2) = 2 := by decide +kernel
theorem T_9_3 : fkOf (mm_ty 9 3) = 2 := by decide +kernel
theorem T_9_4 : fkOf (mm_ty 9 4) = 2 := by decide +kernel
theorem T_9_5 : fkOf (mm_ty 9 5) = 2 := by decide +kernel
theorem T_9_6 : fkOf (mm_ty 9 6) = 2 := by decide +kernel
theorem T_9_7 : fkOf (mm_ty 9 7) = 2 := by decide +kernel
theorem T_9_8 : fkOf (mm_ty 9 8) = 2 := by decide +kernel
theorem T_9_9 : fkOf (mm_ty 9 9) = 2 := by decide +kernel
theorem T_9_10 : fkOf (mm_ty 9 10) = 2 := by decide +kernel
theorem T_9_11 : fkOf (mm_ty 9 11) = 2 := by decide +kernel
theorem T_10_1 : fkOf (mm_ty 10 1) = 2 := by decide +kernel
theorem T_10_2 : fkOf (mm_ty 10 2) = 2 := by decide +kernel
theorem T_10_3 : fkOf (mm_ty 10 3) = 2 := by decide +kernel
theorem T_10_4 : fkOf (mm_ty 10 4) = 2 := by decide +kernel
theorem T_10_5 : fkOf (mm_ty 10 5) = 0 := by decide +kernel
theorem T_10_6 : fkOf (mm_ty 10 6) = 2 := by decide +kernel
theorem T_10_7 : fkOf (mm_ty 10 7) = 0 := by decide +kernel
theorem T_10_8 : fkOf (mm_ty 10 8) = 0 := by decide +kernel
theorem T_10_9 : fkOf (mm_ty 10 9) = 0 := by decide +kernel
theorem T_10_10 : fkOf (mm_ty 10 10) = 0 := by decide +kernel
theorem T_10_11 : fkOf (mm_ty 10 11) = 0 := by decide +kernel
theorem T_10_12 : fkOf (mm_ty 10 12) = 0 := by decide +kernel
theorem T_10_13 : fkOf (mm_ty 10 13) = 0 := by decide +kernel
theorem T_10_14 : fkOf (mm_ty 10 14) = 2 := by decide +kernel
theorem T_10_15 : fkOf (mm_ty 10 15) = 2 := by decide +kernel
theorem T_10_16 : fkOf (mm_ty 10 16) = 2 := by decide +kernel
theorem T_10_17 : fkOf (mm_ty 10 17) = 2 := by decide +kernel
theorem T_10_18 : fkOf (mm_ty 10 18) = 2 := by decide +kernel
theorem T_10_19 : fkOf (mm_ty 10 19) = 0 := by decide +kernel
theorem T_10_20 : fkOf (mm_ty 10 20) = 0 := by decide +kernel
theorem T_10_21 : fkOf (mm_ty 10 21) = 2 := by decide +kernel
theorem T_10_22 : fkOf (mm_ty 10 22) = 2 := by decide +kernel
theorem T_10_23 : fkOf (mm_ty 10 23) = 2 := by decide +kernel
theorem T_10_24 : fkOf (mm_ty 10 24) = 2 := by decide +kernel
theorem T_10_25 : fkOf (mm_ty 10 25) = 0 := by decide +kernel
theorem T_10_26 : fkOf (mm_ty 10 26) = 0 := by decide +kernel
theorem T_10_27 : fkOf (mm_ty 10 27) = 2 := by decide +kernel
theorem T_10_28 : fkOf (mm_ty 10 28) = 0 := by decide +kernel
theorem T_10_29 : fkOf (mm_ty 10 29) = 0 := by decide +kernel
theorem T_10_30 : fkOf (mm_ty 10 30) = 0 := by decide +kernel
theorem T_10_31 : fkOf (mm_ty 10 31) = 0 := by decide +kernel
theorem T_10_32 : fkOf (mm_ty 10 32) = 0 := by decide +kernel
theorem T_10_33 : fkOf (mm_ty 10 33) = 2 := by decide +kernel
theorem T_10_34 : fkOf (mm_ty 10 34) = 0 := by decide +kernel
theorem T_10_35 : fkOf (mm_ty 10 35) = 0 := by decide +kernel
theorem T_10_36 : fkOf (mm_ty 10 36) = 2 := by decide +kernel
theorem T_10_37 : fkOf (mm_ty 10 37) = 2 := by decide +kernel
theorem T_10_38 : fkOf (mm_ty 10 38) = 0 := by decide +kernel
theorem T_10_39 : fkOf (mm_ty 10 39) = 0 := by decide +kernel
theorem T_10_40 : fkOf (mm_ty 10 40) = 1 := by decide +kernel
theorem T_10_41 : fkOf (mm_ty 10 41) = 1 := by decide +kernel
theorem T_10_42 : fkOf (mm_ty 10 42) = 1 := by decide +kernel
theorem T_10_43 : fkOf (mm_ty 10 43) = 2 := by decide +kernel
theorem T_10_44 : fkOf (mm_ty 10 44) = 2 := by decide +kernel
theorem T_10_45 : fkOf (mm_ty 10 45) = 2 := by decide +kernel
theorem T_10_46 : fkOf (mm_ty 10 46) = 2 := by decide +kernel
theorem N_0_1 : mm_fin 0 1 = false := by decide +kernel
theorem N_1_4 : mm_fin 1 4 = false := by decide +kernel
theorem N_1_5 : mm_fin 1 5 = false := by decide +kernel
theorem N_2_0 : mm_fin 2 0 = false := by decide +kernel
theorem N_2_1 : mm_fin 2 1 = false := by decide +kernel
theorem N_2_2 : mm_fin 2 2 = false := by decide +kernel
theorem N_2_3 : mm_fin 2 3 = false := by decide +kernel
theorem N_2_4 : mm_fin 2 4 = false := by decide +kernel
theorem N_2_5 : mm_fin 2 5 = false := by decide +kernel
theorem N_2_6 : mm_fin 2 6 = false := by decide +kernel
theorem N_2_7 : mm_fin 2 7 = false := by decide +kernel
theorem N_2_8 : mm_fin 2 8 = false := by decide +kernel
theorem N_3_2 : mm_fin 3 2 = false := by decide +kernel
theorem N_3_3 : mm_fin 3 3 = false := by decide +kernel
theorem N_3_4 : mm_fin 3 4 = false := by decide +kernel
theorem N_3_5 : mm_fin 3 5 = false := by decide +kernel
theorem N_3_6 : mm_fin 3 6 = false := by decide +kernel
theorem N_3_7 : mm_fin 3 7 = false := by decide +kernel
theorem N_4_1 : mm_fin 4 1 = false := by decide +kernel
theorem N_4_2 : mm_fin 4 2 = false := by decide +kernel
theorem N_4_3 : mm_fin 4 3 = false := by decide +kernel
theorem N_5_2 : mm_fin 5 2 = false := by decide +kernel
theorem N_5_3 : mm_fin 5 3 = false := by decide +kernel
theorem N_7_2 : mm_fin 7 2 = false := by decide +kernel
theorem N_8_1 : mm_fin 8 1 = false := by decide +kernel
theorem N_10_5 : mm_fin 10 5 = false := by decide +kernel
theorem N_10_7 : mm_fin 10 7 = false := by decide +kernel
theorem N_10_8 : mm_fin 10 8 = false := by decide +kernel
theorem N_10_9 : mm_fin 10 9 = false := by decide +kernel
theorem N_10_10 : mm_fin 10 10 = false := by decide +kernel
theorem N_10_11 : mm_fin 10 11 = false := by decide +kernel
theorem N_10_12 : mm_fin 10 12 = false := by decide +kernel
theorem N_10_13 : mm_fin 10 13 = false := by decide +kernel
theorem N_10_19 : mm_fin 10 19 = false := by decide +kernel
theorem N_10_20 : mm_fin 10 20 = false := by decide +kernel
theorem N_10_25 : mm_fin 10 25 = false := by decide +kernel
theorem N_10_26 : mm_fin 10 26 = false := by decide +kernel
theorem N_10_28 : mm_fin 10 28 = false := by decide +kernel
theorem N_10_29 : mm_fin 10 29 = false := by decide +kernel
theorem N_10_30 : mm_fin 10 30 = false := by decide +kernel
theorem N_10_31 : mm_fin 10 31 = false := by decide +kernel
theorem N_10_32 : mm_fin 10 32 = false := by decide +kernel
theorem N_10_34 : mm_fin 10 34 = false := by decide +kernel
theorem N_10_35 : mm_fin 10 35 = false := by decide +kernel
theorem N_10_38 : mm_fin 10 38 = false := by decide +kernel
theorem N_10_39 : mm_fin 10 39 = false := by decide +kernel
theorem N_10_40 : mm_fin 10 40 = false := by decide +kernel
theorem N_10_41 : mm_fin 10 41 = false := by decide +kernel
theorem N_10_42 : mm_fin 10 42 = false := by decide +kernel
theorem C_0_46 : mm_call 0 46 = some (0, 2) := by decide +kernel
theorem C_0_54 : mm_call 0 54 = some (14, 0) := by decide +kernel
theorem C_0_79 : mm_call 0 79 = some (0, 3) := by decide +kernel
theorem C_0_83 : mm_call 0 83 = some (0, 4) := by decide +kernel
theorem C_0_106 : mm_call 0 106 = some (0, 5) := by decide +kernel
theorem C_0_109 : mm_call 0 109 = some (0, 20) := by decide +kernel
theorem C_0_119 : mm_call 0 119 = some (12, 0) := by decide +kernel
theorem C_0_125 : mm_call 0 125 = some (0, 6) := by decide +kernel
theorem C_0_128 : mm_call 0 128 = some (0, 7) := by decide +kernel
theorem C_0_131 : mm_call 0 131 = some (0, 9) := by decide +kernel
theorem C_0_134 : mm_call 0 134 = some (0, 8) := by decide +kernel
theorem C_0_137 : mm_call 0 137 = some (0, 10) := by decide +kernel
theorem C_0_140 : mm_call 0 140 = some (0, 11) := by decide +kernel
theorem C_0_144 : mm_call 0 144 = some (0, 12) := by decide +kernel
theorem C_0_147 : mm_call 0 147 = some (0, 18) := by decide +kernel
theorem C_0_151 : mm_call 0 151 = some (0, 17) := by decide +kernel
theorem C_1_34 : mm_call 1 34 = some (0, 30) := by decide +kernel
theorem C_1_47 : mm_call 1 47 = some (0, 31) := by decide +kernel
theorem C_1_51 : mm_call 1 51 = some (0, 32) := by decide +kernel
theorem C_1_54 : mm_call 1 54 = some (0, 1) := by decide +kernel
theorem C_1_65 : mm_call 1 65 = some (0, 5) := by decide +kernel
theorem C_1_75 : mm_call 1 75 = some (11, 0) := by decide +kernel
theorem C_2_73 : mm_call 2 73 = some (14, 0) := by decide +kernel
theorem C_2_79 : mm_call 2 79 = some (0, 43) := by decide +kernel
theorem C_3_41 : mm_call 3 41 = some (0, 34) := by decide +kernel
theorem C_3_44 : mm_call 3 44 = some (0, 49) := by decide +kernel
theorem C_3_47 : mm_call 3 47 = some (0, 55) := by decide +kernel
theorem C_3_53 : mm_call 3 53 = some (0, 56) := by decide +kernel
theorem C_3_58 : mm_call 3 58 = some (0, 58) := by decide +kernel
theorem C_3_62 : mm_call 3 62 = some (0, 61) := by decide +kernel
theorem C_3_67 : mm_call 3 67 = some (0, 63) := by decide +kernel
theorem C_3_72 : mm_call 3 72 = some (0, 64) := by decide +kernel
theorem C_3_75 : mm_call 3 75 = some (0, 59) := by decide +kernel
theorem C_3_81 : mm_call 3 81 = some (0, 57) := by decide +kernel
theorem C_3_87 : mm_call 3 87 = some (0, 60) := by decide +kernel
theorem C_3_108 : mm_call 3 108 = some (0, 62) := by decide +kernel
theorem C_3_114 : mm_call 3 114 = some (0, 35) := by decide +kernel
theorem C_3_129 : mm_call 3 129 = some (0, 36) := by decide +kernel
theorem C_3_136 : mm_call 3 136 = some (0, 37) := by decide +kernel
theorem C_3_139 : mm_call 3 139 = some (0, 328) := by decide +kernel
theorem C_3_151 : mm_call 3 151 = some (0, 330) := by decide +kernel
theorem C_3_157 : mm_call 3 157 = some (1, 50) := by decide +kernel
theorem C_3_161 : mm_call 3 161 = some (1, 51) := by decide +kernel
theorem C_3_164 : mm_call 3 164 = some (0, 52) := by decide +kernel
theorem C_3_167 : mm_call 3 167 = some (1, 53) := by decide +kernel
theorem C_3_170 : mm_call 3 170 = some (0, 54) := by decide +kernel
theorem C_3_174 : mm_call 3 174 = some (12, 0) := by decide +kernel
theorem C_4_26 : mm_call 4 26 = some (0, 39) := by decide +kernel
theorem C_4_32 : mm_call 4 32 = some (0, 42) := by decide +kernel
theorem C_4_37 : mm_call 4 37 = some (11, 0) := by decide +kernel
theorem C_4_46 : mm_call 4 46 = some (12, 0) := by decide +kernel
theorem C_5_31 : mm_call 5 31 = some (0, 74) := by decide +kernel
theorem C_5_34 : mm_call 5 34 = some (0, 67) := by decide +kernel
theorem C_5_40 : mm_call 5 40 = some (0, 1) := by decide +kernel
theorem C_5_45 : mm_call 5 45 = some (0, 25) := by decide +kernel
theorem C_5_48 : mm_call 5 48 = some (0, 5) := by decide +kernel
theorem C_5_52 : mm_call 5 52 = some (0, 68) := by decide +kernel
theorem C_5_56 : mm_call 5 56 = some (0, 75) := by decide +kernel
theorem C_5_59 : mm_call 5 59 = some (0, 26) := by decide +kernel
theorem C_5_72 : mm_call 5 72 = some (11, 0) := by decide +kernel
theorem C_5_78 : mm_call 5 78 = some (0, 78) := by decide +kernel
theorem C_6_29 : mm_call 6 29 = some (0, 1) := by decide +kernel
theorem C_6_34 : mm_call 6 34 = some (0, 24) := by decide +kernel
theorem C_6_41 : mm_call 6 41 = some (0, 5) := by decide +kernel
theorem C_6_48 : mm_call 6 48 = some (1, 327) := by decide +kernel
theorem C_7_41 : mm_call 7 41 = some (0, 84) := by decide +kernel
theorem C_7_44 : mm_call 7 44 = some (0, 1) := by decide +kernel
theorem C_7_49 : mm_call 7 49 = some (0, 25) := by decide +kernel
theorem C_7_52 : mm_call 7 52 = some (0, 23) := by decide +kernel
theorem C_7_56 : mm_call 7 56 = some (0, 85) := by decide +kernel
theorem C_7_60 : mm_call 7 60 = some (0, 87) := by decide +kernel
theorem C_7_63 : mm_call 7 63 = some (0, 26) := by decide +kernel
theorem C_7_70 : mm_call 7 70 = some (14, 0) := by decide +kernel
theorem C_7_76 : mm_call 7 76 = some (0, 86) := by decide +kernel
theorem C_7_97 : mm_call 7 97 = some (11, 0) := by decide +kernel
theorem C_7_103 : mm_call 7 103 = some (0, 19) := by decide +kernel
theorem C_9_93 : mm_call 9 93 = some (0, 89) := by decide +kernel
theorem C_9_97 : mm_call 9 97 = some (0, 48) := by decide +kernel
theorem C_9_104 : mm_call 9 104 = some (0, 38) := by decide +kernel
theorem C_9_107 : mm_call 9 107 = some (0, 94) := by decide +kernel
theorem C_9_119 : mm_call 9 119 = some (0, 39) := by decide +kernel
theorem C_9_123 : mm_call 9 123 = some (1, 97) := by decide +kernel
theorem C_9_134 : mm_call 9 134 = some (0, 40) := by decide +kernel
theorem C_9_149 : mm_call 9 149 = some (0, 41) := by decide +kernel
theorem C_9_158 : mm_call 9 158 = some (0, 42) := by decide +kernel
theorem C_9_168 : mm_call 9 168 = some (0, 44) := by decide +kernel
theorem C_9_176 : mm_call 9 176 = some (0, 13) := by decide +kernel
theorem C_9_180 : mm_call 9 180 = some (0, 14) := by decide +kernel
theorem C_9_184 : mm_call 9 184 = some (0, 15) := by decide +kernel
theorem C_9_193 : mm_call 9 193 = some (0, 16) := by decide +kernel
theorem C_9_196 : mm_call 9 196 = some (0, 43) := by decide +kernel
theorem C_9_199 : mm_call 9 199 = some (0, 17) := by decide +kernel
theorem C_9_203 : mm_call 9 203 = some (0, 19) := by decide +kernel
theorem C_9_206 : mm_call 9 206 = some (0, 20) := by decide +kernel
theorem C_9_210 : mm_call 9 210 = some (11, 0) := by decide +kernel
theorem C_9_215 : mm_call 9 215 = some (0, 21) := by decide +kernel
theorem C_9_221 : mm_call 9 221 = some (0, 45) := by decide +kernel
theorem C_9_224 : mm_call 9 224 = some (0, 22) := by decide +kernel
theorem C_9_227 : mm_call 9 227 = some (0, 18) := by decide +kernel
theorem C_9_230 : mm_call 9 230 = some (1, 327) := by decide +kernel
theorem C_9_235 : mm_call 9 235 = some (0, 2) := by decide +kernel
theorem C_9_238 : mm_call 9 238 = some (0, 23) := by decide +kernel
theorem C_9_241 : mm_call 9 241 = some (0, 1) := by decide +kernel
theorem C_9_244 : mm_call 9 244 = some (0, 24) := by decide +kernel
theorem C_9_252 : mm_call 9 252 = some (0, 83) := by decide +kernel
theorem C_9_270 : mm_call 9 270 = some (0, 141) := by decide +kernel
theorem C_9_273 : mm_call 9 273 = some (0, 3) := by decide +kernel
theorem C_9_277 : mm_call 9 277 = some (0, 144) := by decide +kernel
theorem C_9_280 : mm_call 9 280 = some (0, 145) := by decide +kernel
theorem C_9_283 : mm_call 9 283 = some (0, 148) := by decide +kernel
theorem C_9_286 : mm_call 9 286 = some (0, 73) := by decide +kernel
theorem C_9_292 : mm_call 9 292 = some (0, 76) := by decide +kernel
theorem C_9_295 : mm_call 9 295 = some (0, 77) := by decide +kernel
theorem C_9_298 : mm_call 9 298 = some (0, 78) := by decide +kernel
theorem C_9_301 : mm_call 9 301 = some (0, 5) := by decide +kernel
theorem C_9_304 : mm_call 9 304 = some (0, 68) := by decide +kernel
theorem C_9_308 : mm_call 9 308 = some (1, 149) := by decide +kernel
theorem C_9_315 : mm_call 9 315 = some (0, 66) := by decide +kernel
theorem C_9_319 : mm_call 9 319 = some (0, 80) := by decide +kernel
theorem C_9_322 : mm_call 9 322 = some (0, 81) := by decide +kernel
theorem C_9_328 : mm_call 9 328 = some (1, 155) := by decide +kernel
theorem C_9_332 : mm_call 9 332 = some (0, 158) := by decide +kernel
theorem C_9_335 : mm_call 9 335 = some (0, 29) := by decide +kernel
theorem C_9_344 : mm_call 9 344 = some (0, 161) := by decide +kernel
theorem C_9_349 : mm_call 9 349 = some (0, 162) := by decide +kernel
theorem C_9_353 : mm_call 9 353 = some (1, 163) := by decide +kernel
theorem C_9_360 : mm_call 9 360 = some (0, 27) := by decide +kernel
theorem C_9_365 : mm_call 9 365 = some (13, 0) := by decide +kernel
theorem C_9_369 : mm_call 9 369 = some (1, 156) := by decide +kernel
theorem C_9_376 : mm_call 9 376 = some (0, 46) := by decide +kernel
theorem C_9_380 : mm_call 9 380 = some (1, 170) := by decide +kernel
theorem C_9_383 : mm_call 9 383 = some (0, 171) := by decide +kernel
theorem C_9_386 : mm_call 9 386 = some (0, 172) := by decide +kernel
theorem C_9_405 : mm_call 9 405 = some (0, 176) := by decide +kernel
theorem C_9_408 : mm_call 9 408 = some (0, 69) := by decide +kernel
theorem C_9_417 : mm_call 9 417 = some (0, 70) := by decide +kernel
theorem C_9_423 : mm_call 9 423 = some (0, 71) := by decide +kernel
theorem C_9_430 : mm_call 9 430 = some (14, 0) := by decide +kernel
theorem C_10_88 : mm_call 10 88 = some (1, 184) := by decide +kernel
theorem C_10_92 : mm_call 10 92 = some (0, 214) := by decide +kernel
theorem C_10_96 : mm_call 10 96 = some (0, 216) := by decide +kernel
theorem C_10_102 : mm_call 10 102 = some (0, 207) := by decide +kernel
theorem C_10_115 : mm_call 10 115 = some (0, 191) := by decide +kernel
theorem C_10_137 : mm_call 10 137 = some (12, 0) := by decide +kernel
theorem C_10_145 : mm_call 10 145 = some (0, 192) := by decide +kernel
theorem C_10_148 : mm_call 10 148 = some (0, 328) := by decide +kernel
theorem C_10_153 : mm_call 10 153 = some (0, 330) := by decide +kernel
theorem C_10_157 : mm_call 10 157 = some (0, 197) := by decide +kernel
theorem C_10_161 : mm_call 10 161 = some (0, 190) := by decide +kernel
theorem C_10_164 : mm_call 10 164 = some (0, 196) := by decide +kernel
theorem C_10_167 : mm_call 10 167 = some (0, 198) := by decide +kernel
theorem C_10_171 : mm_call 10 171 = some (0, 195) := by decide +kernel
theorem C_10_175 : mm_call 10 175 = some (0, 200) := by decide +kernel
theorem C_10_182 : mm_call 10 182 = some (0, 199) := by decide +kernel
theorem C_10_208 : mm_call 10 208 = some (0, 202) := by decide +kernel
theorem C_10_211 : mm_call 10 211 = some (0, 194) := by decide +kernel
theorem C_10_214 : mm_call 10 214 = some (0, 201) := by decide +kernel
theorem C_10_217 : mm_call 10 217 = some (0, 193) := by decide +kernel
theorem C_10_220 : mm_call 10 220 = some (0, 204) := by decide +kernel
theorem C_10_224 : mm_call 10 224 = some (0, 206) := by decide +kernel
theorem C_10_234 : mm_call 10 234 = some (0, 213) := by decide +kernel
theorem C_10_237 : mm_call 10 237 = some (11, 0) := by decide +kernel
theorem C_10_240 : mm_call 10 240 = some (0, 220) := by decide +kernel
theorem C_10_243 : mm_call 10 243 = some (0, 218) := by decide +kernel
theorem C_10_246 : mm_call 10 246 = some (0, 219) := by decide +kernel
theorem C_10_250 : mm_call 10 250 = some (1, 221) := by decide +kernel
theorem C_10_260 : mm_call 10 260 = some (0, 217) := by decide +kernel
theorem C_10_263 : mm_call 10 263 = some (0, 212) := by decide +kernel
theorem C_10_266 : mm_call 10 266 = some (0, 215) := by decide +kernel
theorem C_10_269 : mm_call 10 269 = some (0, 211) := by decide +kernel
theorem C_10_272 : mm_call 10 272 = some (0, 222) := by decide +kernel
theorem C_10_275 : mm_call 10 275 = some (0, 226) := by decide +kernel
theorem C_10_278 : mm_call 10 278 = some (0, 210) := by decide +kernel
theorem C_10_281 : mm_call 10 281 = some (0, 225) := by decide +kernel
theorem C_10_284 : mm_call 10 284 = some (0, 229) := by decide +kernel
theorem C_10_287 : mm_call 10 287 = some (0, 231) := by decide +kernel
theorem C_10_290 : mm_call 10 290 = some (0, 234) := by decide +kernel
theorem C_10_293 : mm_call 10 293 = some (0, 237) := by decide +kernel
theorem C_10_296 : mm_call 10 296 = some (0, 240) := by decide +kernel
theorem C_10_299 : mm_call 10 299 = some (0, 242) := by decide +kernel
theorem C_10_302 : mm_call 10 302 = some (0, 246) := by decide +kernel
theorem C_10_305 : mm_call 10 305 = some (0, 256) := by decide +kernel
theorem C_10_308 : mm_call 10 308 = some (0, 255) := by decide +kernel
theorem C_10_311 : mm_call 10 311 = some (1, 262) := by decide +kernel
theorem C_10_314 : mm_call 10 314 = some (1, 268) := by decide +kernel
theorem C_10_317 : mm_call 10 317 = some (0, 269) := by decide +kernel
theorem C_10_335 : mm_call 10 335 = some (0, 275) := by decide +kernel
theorem C_10_339 : mm_call 10 339 = some (0, 273) := by decide +kernel
theorem C_10_342 : mm_call 10 342 = some (0, 274) := by decide +kernel
theorem C_10_345 : mm_call 10 345 = some (0, 276) := by decide +kernel
theorem C_10_348 : mm_call 10 348 = some (0, 272) := by decide +kernel
theorem C_10_351 : mm_call 10 351 = some (0, 271) := by decide +kernel
theorem C_10_354 : mm_call 10 354 = some (1, 279) := by decide +kernel
theorem C_10_357 : mm_call 10 357 = some (0, 284) := by decide +kernel
theorem C_10_360 : mm_call 10 360 = some (0, 287) := by decide +kernel
theorem C_10_363 : mm_call 10 363 = some (1, 292) := by decide +kernel
theorem C_10_366 : mm_call 10 366 = some (0, 293) := by decide +kernel
theorem C_10_372 : mm_call 10 372 = some (0, 291) := by decide +kernel
theorem C_10_378 : mm_call 10 378 = some (0, 294) := by decide +kernel
theorem C_10_381 : mm_call 10 381 = some (0, 290) := by decide +kernel
theorem C_10_387 : mm_call 10 387 = some (0, 297) := by decide +kernel
theorem C_10_390 : mm_call 10 390 = some (13, 0) := by decide +kernel
theorem C_10_394 : mm_call 10 394 = some (1, 303) := by decide +kernel
theorem C_10_398 : mm_call 10 398 = some (1, 301) := by decide +kernel
theorem C_10_401 : mm_call 10 401 = some (1, 302) := by decide +kernel
theorem C_10_411 : mm_call 10 411 = some (0, 306) := by decide +kernel
theorem C_10_415 : mm_call 10 415 = some (0, 305) := by decide +kernel
theorem C_10_430 : mm_call 10 430 = some (0, 309) := by decide +kernel
theorem C_10_436 : mm_call 10 436 = some (0, 310) := by decide +kernel
theorem C_10_440 : mm_call 10 440 = some (0, 313) := by decide +kernel
theorem C_10_455 : mm_call 10 455 = some (1, 318) := by decide +kernel
theorem C_10_458 : mm_call 10 458 = some (0, 319) := by decide +kernel
theorem C_10_468 : mm_call 10 468 = some (1, 325) := by decide +kernel
theorem C_13_335 : mm_call 13 335 = some (0, 329) := by decide +kernel
theorem C_13_492 : mm_call 13 492 = some (0, 331) := by decide +kernel
theorem C_13_495 : mm_call 13 495 = some (1, 333) := by decide +kernel
theorem C_13_1059 : mm_call 13 1059 = some (1, 334) := by decide +kernel
theorem C_14_9 : mm_call 14 9 = some (1, 332) := by decide +kernel
theorem D_1 : mD 1 0 prog_2_method_2_code 1 (none) := ⟨rfl, rfl, rfl, rfl⟩
theorem D_2 : mD 2 0 prog_2_method_3_code 4 (none) := ⟨rfl, rfl, rfl, rfl⟩
theorem D_3 : mD 3 0 prog_2_method_5_code 4 (none) := ⟨rfl, rfl, rfl, rfl⟩
theorem D_4 : mD 4 0 prog_2_method_4_code 4 (none) := ⟨rfl, rfl, rfl, rfl⟩
theorem D_5 : mD 5 0 prog_2_method_11_code 4 (none) := ⟨rfl, rfl, rfl, rfl⟩
theorem D_6 : mD 6 0 prog_2_method_12_code 4 (none) := ⟨rfl, rfl, rfl, rfl⟩
theorem D_7 : mD 7 0 prog_2_method_13_code 4 (none) := ⟨rfl, rfl, rfl, rfl⟩
theorem D_8 : mD 8 0 prog_2_method_14_code 3 (some .int) := ⟨rfl, rfl, rfl, rfl⟩
theorem D_9 : mD 9 0 prog_2_method_15_code 4 (none) := ⟨rfl, rfl, rfl, rfl⟩
theorem D_10 : mD 10 0 prog_2_method_16_code 6 (some .int) := ⟨rfl, rfl, rfl, rfl⟩
theorem D_11 : mD 11 0 prog_2_method_17_code 6 (some .int) := ⟨rfl, rfl, rfl, rfl⟩
theorem D_12 : mD 12 0 prog_2_method_18_code 6 (some .int) := ⟨rfl, rfl, rfl, rfl⟩
theorem D_13 : mD 13 0 prog_2_method_26_code 5 (some .int) := ⟨rfl, rfl, rfl, rfl⟩
theorem D_14 : mD 14 0 prog_2_method_19_code 2 (some .int) := ⟨rfl, rfl, rfl, rfl⟩
theorem D_15 : mD 15 0 prog_2_method_20_code 2 (some .int) := ⟨rfl, rfl, rfl, rfl⟩
theorem D_16 : mD 16 0 prog_2_method_25_code 4 (some .int) := ⟨rfl, rfl, rfl, rfl⟩
theorem D_17 : mD 17 0 prog_2_method_24_code 3 (some .boolean) := ⟨rfl, rfl, rfl, rfl⟩
theorem D_18 : mD 18 0 prog_2_method_21_code 3 (some .boolean) := ⟨rfl, rfl, rfl, rfl⟩
theorem D_19 : mD 19 0 prog_2_method_22_code 3 (some .int) := ⟨rfl, rfl, rfl, rfl⟩
theorem D_20 : mD 20 0 prog_2_method_23_code 3 (some .int) := ⟨rfl, rfl, rfl, rfl⟩
theorem D_21 : mD 21 0 prog_2_method_27_code 5 (some .int) := ⟨rfl, rfl, rfl, rfl⟩
theorem D_22 : mD 22 0 prog_2_method_28_code 6 (some .int) := ⟨rfl, rfl, rfl, rfl⟩
theorem D_23 : mD 23 0 prog_2_method_10_code 1 (some .int) := ⟨rfl, rfl, rfl, rfl⟩
theorem D_24 : mD 24 0 prog_2_method_7_code 3 (none) := ⟨rfl, rfl, rfl, rfl⟩
theorem D_25 : mD 25 0 prog_2_method_8_code 1 (none) := ⟨rfl, rfl, rfl, rfl⟩
theorem D_26 : mD 26 0 prog_2_method_9_code 2 (some .boolean) := ⟨rfl, rfl, rfl, rfl⟩
theorem D_27 : mD 27 0 prog_2_method_6_code 3 (none) := ⟨rfl, rfl, rfl, rfl⟩
theorem D_29 : mD 29 1 prog_3_method_2_code 5 (none) := ⟨rfl, rfl, rfl, rfl⟩
theorem D_30 : mD 30 1 prog_3_method_3_code 5 (none) := ⟨rfl, rfl, rfl, rfl⟩
theorem D_31 : mD 31 1 prog_3_method_4_code 5 (some .int) := ⟨rfl, rfl, rfl, rfl⟩
theorem D_32 : mD 32 1 prog_3_method_5_code 5 (some .int) := ⟨rfl, rfl, rfl, rfl⟩
theorem D_34 : mD 34 2 prog_4_method_2_code 1 (none) := ⟨rfl, rfl, rfl, rfl⟩
theorem D_35 : mD 35 2 prog_4_method_4_code 3 (none) := ⟨rfl, rfl, rfl, rfl⟩
theorem D_36 : mD 36 2 prog_4_method_5_code 5 (none) := ⟨rfl, rfl, rfl, rfl⟩
theorem D_37 : mD 37 2 prog_4_method_6_code 3 (none) := ⟨rfl, rfl, rfl, rfl⟩
theorem D_38 : mD 38 2 prog_4_method_3_code 2 (none) := ⟨rfl, rfl, rfl, rfl⟩
theorem D_39 : mD 39 2 prog_4_method_9_code 3 (some .boolean) := ⟨rfl, rfl, rfl, rfl⟩
theorem D_40 : mD 40 2 prog_4_method_10_code 2 (some .boolean) := ⟨rfl, rfl, rfl, rfl⟩
theorem D_41 : mD 41 2 prog_4_method_11_code 2 (some .boolean) := ⟨rfl, rfl, rfl, rfl⟩
theorem D_42 : mD 42 2 prog_4_method_12_code 3 (some .boolean) := ⟨rfl, rfl, rfl, rfl⟩
theorem D_43 : mD 43 2 prog_4_method_8_code 1 (some .boolean) := ⟨rfl, rfl, rfl, rfl⟩
theorem D_44 : mD 44 2 prog_4_method_13_code 2 (some .boolean) := ⟨rfl, rfl, rfl, rfl⟩
theorem D_45 : mD 45 2 prog_4_method_14_code 3 (some .boolean) := ⟨rfl, rfl, rfl, rfl⟩
theorem D_46 : mD 46 2 prog_4_method_7_code 4 (none) := ⟨rfl, rfl, rfl, rfl⟩
theorem D_48 : mD 48 3 prog_5_method_2_code 2 (some .boolean) := ⟨rfl, rfl, rfl, rfl⟩
theorem D_49 : mD 49 3 prog_5_method_13_code 1 (none) := ⟨rfl, rfl, rfl, rfl⟩
theorem D_50 : mD 50 3 prog_5_method_16_code 1 (some .boolean) := ⟨rfl, rfl, rfl, rfl⟩
theorem D_51 : mD 51 3 prog_5_method_17_code 1 (some .boolean) := ⟨rfl, rfl, rfl, rfl⟩
theorem D_52 : mD 52 3 prog_5_method_14_code 1 (none) := ⟨rfl, rfl, rfl, rfl⟩
theorem D_53 : mD 53 3 prog_5_method_18_code 1 (some .boolean) := ⟨rfl, rfl, rfl, rfl⟩
theorem D_54 : mD 54 3 prog_5_method_15_code 1 (none) := ⟨rfl, rfl, rfl, rfl⟩
theorem D_55 : mD 55 3 prog_5_method_3_code 1 (none) := ⟨rfl, rfl, rfl, rfl⟩
theorem D_56 : mD 56 3 prog_5_method_4_code 1 (none) := ⟨rfl, rfl, rfl, rfl⟩
theorem D_57 : mD 57 3 prog_5_method_9_code 2 (none) := ⟨rfl, rfl, rfl, rfl⟩
theorem D_58 : mD 58 3 prog_5_method_12_code 3 (some .boolean) := ⟨rfl, rfl, rfl, rfl⟩
theorem D_59 : mD 59 3 prog_5_method_11_code 2 (none) := ⟨rfl, rfl, rfl, rfl⟩
theorem D_60 : mD 60 3 prog_5_method_10_code 4 (some .int) := ⟨rfl, rfl, rfl, rfl⟩
theorem D_61 : mD 61 3 prog_5_method_5_code 3 (none) := ⟨rfl, rfl, rfl, rfl⟩
theorem D_62 : mD 62 3 prog_5_method_8_code 2 (none) := ⟨rfl, rfl, rfl, rfl⟩
theorem D_63 : mD 63 3 prog_5_method_6_code 5 (none) := ⟨rfl, rfl, rfl, rfl⟩
theorem D_64 : mD 64 3 prog_5_method_7_code 3 (none) := ⟨rfl, rfl, rfl, rfl⟩
theorem D_66 : mD 66 4 prog_6_method_5_code 3 (some .boolean) := ⟨rfl, rfl, rfl, rfl⟩
theorem D_67 : mD 67 4 prog_6_method_6_code 4 (some .int) := ⟨rfl, rfl, rfl, rfl⟩
theorem D_68 : mD 68 4 prog_6_method_7_code 5 (some .boolean) := ⟨rfl, rfl, rfl, rfl⟩
theorem D_69 : mD 69 4 prog_6_method_2_code 4 (none) := ⟨rfl, rfl, rfl, rfl⟩
theorem D_70 : mD 70 4 prog_6_method_3_code 4 (none) := ⟨rfl, rfl, rfl, rfl⟩
theorem D_71 : mD 71 4 prog_6_method_4_code 3 (some .boolean) := ⟨rfl, rfl, rfl, rfl⟩
theorem D_73 : mD 73 5 prog_7_method_2_code 6 (none) := ⟨rfl, rfl, rfl, rfl⟩
theorem D_74 : mD 74 5 prog_7_method_3_code 3 (none) := ⟨rfl, rfl, rfl, rfl⟩
theorem D_75 : mD 75 5 prog_7_method_4_code 2 (none) := ⟨rfl, rfl, rfl, rfl⟩
theorem D_76 : mD 76 5 prog_7_method_5_code 4 (some .int) := ⟨rfl, rfl, rfl, rfl⟩
theorem D_77 : mD 77 5 prog_7_method_7_code 5 (some .int) := ⟨rfl, rfl, rfl, rfl⟩
theorem D_78 : mD 78 5 prog_7_method_6_code 4 (some .int) := ⟨rfl, rfl, rfl, rfl⟩
theorem D_80 : mD 80 6 prog_8_method_2_code 3 (none) := ⟨rfl, rfl, rfl, rfl⟩
theorem D_81 : mD 81 6 prog_8_method_3_code 6 (some .int) := ⟨rfl, rfl, rfl, rfl⟩
theorem D_83 : mD 83 7 prog_9_method_2_code 3 (none) := ⟨rfl, rfl, rfl, rfl⟩
theorem D_84 : mD 84 7 prog_9_method_3_code 3 (none) := ⟨rfl, rfl, rfl, rfl⟩
theorem D_85 : mD 85 7 prog_9_method_4_code 3 (none) := ⟨rfl, rfl, rfl, rfl⟩
theorem D_86 : mD 86 7 prog_9_method_5_code 3 (some .int) := ⟨rfl, rfl, rfl, rfl⟩
theorem D_87 : mD 87 7 prog_9_method_6_code 3 (none) := ⟨rfl, rfl, rfl, rfl⟩
theorem D_89 : mD 89 8 prog_10_method_2_code 3 (none) := ⟨rfl, rfl, rfl, rfl⟩
theorem D_91 : mD 91 9 prog_1_method_2_code 6 (some .int) := ⟨rfl, rfl, rfl, rfl⟩
theorem D_92 : mD 92 9 prog_1_method_3_code 2 (some .int) := ⟨rfl, rfl, rfl, rfl⟩
theorem D_93 : mD 93 9 prog_1_method_4_code 2 (some .int) := ⟨rfl, rfl, rfl, rfl⟩
theorem D_94 : mD 94 9 prog_1_method_92_code 1 (none) := ⟨rfl, rfl, rfl, rfl⟩
theorem D_95 : mD 95 9 prog_1_method_5_code 2 (some .int) := ⟨rfl, rfl, rfl, rfl⟩
theorem D_96 : mD 96 9 prog_1_method_6_code 3 (some .int) := ⟨rfl, rfl, rfl, rfl⟩
theorem D_97 : mD 97 9 prog_1_method_91_code 1 (some .boolean) := ⟨rfl, rfl, rfl, rfl⟩
theorem D_98 : mD 98 9 prog_1_method_7_code 3 (some .int) := ⟨rfl, rfl, rfl, rfl⟩
theorem D_99 : mD 99 9 prog_1_method_8_code 3 (some .int) := ⟨rfl, rfl, rfl, rfl⟩
theorem D_100 : mD 100 9 prog_1_method_9_code 3 (some .int) := ⟨rfl, rfl, rfl, rfl⟩
theorem D_101 : mD 101 9 prog_1_method_10_code 3 (some .int) := ⟨rfl, rfl, rfl, rfl⟩
theorem D_102 : mD 102 9 prog_1_method_11_code 3 (some .int) := ⟨rfl, rfl, rfl, rfl⟩
theorem D_103 : mD 103 9 prog_1_method_12_code 2 (some .int) := ⟨rfl, rfl, rfl, rfl⟩
theorem D_104 : mD 104 9 prog_1_method_13_code 3 (some .int) := ⟨rfl, rfl, rfl, rfl⟩
theorem D_105 : mD 105 9 prog_1_method_14_code 2 (some .int) := ⟨rfl, rfl, rfl, rfl⟩
theorem D_106 : mD 106 9 prog_1_method_15_code 2 (some .int) := ⟨rfl, rfl, rfl, rfl⟩
theorem D_107 : mD 107 9 prog_1_method_16_code 4 (some .int) := ⟨rfl, rfl, rfl, rfl⟩
theorem D_108 : mD 108 9 prog_1_method_17_code 5 (some .int) := ⟨rfl, rfl, rfl, rfl⟩
theorem D_109 : mD 109 9 prog_1_method_18_code 2 (some .int) := ⟨rfl, rfl, rfl, rfl⟩
theorem D_110 : mD 110 9 prog_1_method_19_code 3 (some .int) := ⟨rfl, rfl, rfl, rfl⟩
theorem D_111 : mD 111 9 prog_1_method_20_code 2 (some .int) := ⟨rfl, rfl, rfl, rfl⟩
theorem D_112 : mD 112 9 prog_1_method_21_code 1 (some .int) := ⟨rfl, rfl, rfl, rfl⟩
theorem D_113 : mD 113 9 prog_1_method_22_code 4 (some .int) := ⟨rfl, rfl, rfl, rfl⟩
theorem D_114 : mD 114 9 prog_1_method_23_code 3 (some .int) := ⟨rfl, rfl, rfl, rfl⟩
theorem D_115 : mD 115 9 prog_1_method_24_code 4 (some .int) := ⟨rfl, rfl, rfl, rfl⟩
theorem D_116 : mD 116 9 prog_1_method_25_code 3 (some .int) := ⟨rfl, rfl, rfl, rfl⟩
theorem D_117 : mD 117 9 prog_1_method_26_code 3 (some .int) := ⟨rfl, rfl, rfl, rfl⟩
theorem D_118 : mD 118 9 prog_1_method_27_code 4 (some .int) := ⟨rfl, rfl, rfl, rfl⟩
theorem D_119 : mD 119 9 prog_1_method_28_code 4 (some .int) := ⟨rfl, rfl, rfl, rfl⟩
theorem D_120 : mD 120 9 prog_1_method_29_code 6 (some .int) := ⟨rfl, rfl, rfl, rfl⟩
theorem D_121 : mD 121 9 prog_1_method_30_code 3 (some .int) := ⟨rfl, rfl, rfl, rfl⟩
theorem D_122 : mD 122 9 prog_1_method_31_code 4 (some .int) := ⟨rfl, rfl, rfl, rfl⟩
theorem D_123 : mD 123 9 prog_1_method_32_code 4 (some .int) := ⟨rfl, rfl, rfl, rfl⟩
theorem D_124 : mD 124 9 prog_1_method_33_code 4 (some .int) := ⟨rfl, rfl, rfl, rfl⟩
theorem D_125 : mD 125 9 prog_1_method_34_code 5 (some .int) := ⟨rfl, rfl, rfl, rfl⟩
theorem D_126 : mD 126 9 prog_1_method_35_code 4 (some .int) := ⟨rfl, rfl, rfl, rfl⟩
theorem D_127 : mD 127 9 prog_1_method_36_code 4 (some .int) := ⟨rfl, rfl, rfl, rfl⟩
theorem D_128 : mD 128 9 prog_1_method_37_code 5 (some .int) := ⟨rfl, rfl, rfl, rfl⟩
theorem D_129 : mD 129 9 prog_1_method_38_code 2 (some .int) := ⟨rfl, rfl, rfl, rfl⟩
theorem D_130 : mD 130 9 prog_1_method_39_code 3 (some .int) := ⟨rfl, rfl, rfl, rfl⟩
theorem D_131 : mD 131 9 prog_1_method_40_code 3 (some .int) := ⟨rfl, rfl, rfl, rfl⟩
theorem D_132 : mD 132 9 prog_1_method_41_code 3 (some .int) := ⟨rfl, rfl, rfl, rfl⟩
theorem D_133 : mD 133 9 prog_1_method_42_code 2 (some .int) := ⟨rfl, rfl, rfl, rfl⟩
theorem D_134 : mD 134 9 prog_1_method_43_code 2 (some .int) := ⟨rfl, rfl, rfl, rfl⟩
theorem D_135 : mD 135 9 prog_1_method_44_code 3 (some .int) := ⟨rfl, rfl, rfl, rfl⟩
theorem D_136 : mD 136 9 prog_1_method_45_code 2 (some .int) := ⟨rfl, rfl, rfl, rfl⟩
theorem D_137 : mD 137 9 prog_1_method_46_code 2 (some .int) := ⟨rfl, rfl, rfl, rfl⟩
theorem D_138 : mD 138 9 prog_1_method_47_code 2 (some .int) := ⟨rfl, rfl, rfl, rfl⟩
theorem D_139 : mD 139 9 prog_1_method_48_code 3 (some .int) := ⟨rfl, rfl, rfl, rfl⟩
theorem D_140 : mD 140 9 prog_1_method_49_code 4 (some .int) := ⟨rfl, rfl, rfl, rfl⟩
theorem D_141 : mD 141 9 prog_1_method_51_code 3 (some .int) := ⟨rfl, rfl, rfl, rfl⟩
theorem D_142 : mD 142 9 prog_1_method_50_code 4 (some .int) := ⟨rfl, rfl, rfl, rfl⟩
theorem D_143 : mD 143 9 prog_1_method_52_code 2 (some .int) := ⟨rfl, rfl, rfl, rfl⟩
theorem D_144 : mD 144 9 prog_1_method_54_code 4 (some .int) := ⟨rfl, rfl, rfl, rfl⟩
theorem D_145 : mD 145 9 prog_1_method_55_code 5 (some .int) := ⟨rfl, rfl, rfl, rfl⟩
theorem D_146 : mD 146 9 prog_1_method_53_code 1 (some .int) := ⟨rfl, rfl, rfl, rfl⟩
theorem D_147 : mD 147 9 prog_1_method_56_code 3 (some .int) := ⟨rfl, rfl, rfl, rfl⟩
theorem D_148 : mD 148 9 prog_1_method_61_code 2 (some .int) := ⟨rfl, rfl, rfl, rfl⟩
theorem D_149 : mD 149 9 prog_1_method_90_code 1 (some .boolean) := ⟨rfl, rfl, rfl, rfl⟩
theorem D_150 : mD 150 9 prog_1_method_57_code 4 (some .int) := ⟨rfl, rfl, rfl, rfl⟩
theorem D_151 : mD 151 9 prog_1_method_58_code 3 (some .int) := ⟨rfl, rfl, rfl, rfl⟩
theorem D_152 : mD 152 9 prog_1_method_59_code 4 (some .int) := ⟨rfl, rfl, rfl, rfl⟩
theorem D_153 : mD 153 9 prog_1_method_60_code 5 (some .int) := ⟨rfl, rfl, rfl, rfl⟩
theorem D_154 : mD 154 9 prog_1_method_62_code 4 (some .int) := ⟨rfl, rfl, rfl, rfl⟩
theorem D_155 : mD 155 9 prog_1_method_71_code 7 (some .long) := ⟨rfl, rfl, rfl, rfl⟩
theorem D_156 : mD 156 9 prog_1_method_72_code 11 (some .long) := ⟨rfl, rfl, rfl, rfl⟩
theorem D_157 : mD 157 9 prog_1_method_63_code 3 (some .int) := ⟨rfl, rfl, rfl, rfl⟩
theorem D_158 : mD 158 9 prog_1_method_65_code 3 (some .boolean) := ⟨rfl, rfl, rfl, rfl⟩
theorem D_159 : mD 159 9 prog_1_method_64_code 3 (some .int) := ⟨rfl, rfl, rfl, rfl⟩
theorem D_160 : mD 160 9 prog_1_method_66_code 9 (some .long) := ⟨rfl, rfl, rfl, rfl⟩
theorem D_161 : mD 161 9 prog_1_method_69_code 2 (some .boolean) := ⟨rfl, rfl, rfl, rfl⟩
theorem D_162 : mD 162 9 prog_1_method_68_code 6 (some .long) := ⟨rfl, rfl, rfl, rfl⟩
theorem D_163 : mD 163 9 prog_1_method_70_code 4 (some .long) := ⟨rfl, rfl, rfl, rfl⟩
theorem D_164 : mD 164 9 prog_1_method_67_code 9 (some .long) := ⟨rfl, rfl, rfl, rfl⟩
theorem D_165 : mD 165 9 prog_1_method_73_code 5 (some .int) := ⟨rfl, rfl, rfl, rfl⟩
theorem D_166 : mD 166 9 prog_1_method_74_code 4 (some .int) := ⟨rfl, rfl, rfl, rfl⟩
theorem D_167 : mD 167 9 prog_1_method_75_code 1 (some .int) := ⟨rfl, rfl, rfl, rfl⟩
theorem D_168 : mD 168 9 prog_1_method_76_code 2 (some .int) := ⟨rfl, rfl, rfl, rfl⟩
theorem D_169 : mD 169 9 prog_1_method_77_code 3 (some .int) := ⟨rfl, rfl, rfl, rfl⟩
theorem D_170 : mD 170 9 prog_1_method_81_code 1 (some .boolean) := ⟨rfl, rfl, rfl, rfl⟩
theorem D_171 : mD 171 9 prog_1_method_79_code 6 (some .int) := ⟨rfl, rfl, rfl, rfl⟩
theorem D_172 : mD 172 9 prog_1_method_80_code 2 (some .int) := ⟨rfl, rfl, rfl, rfl⟩
theorem D_173 : mD 173 9 prog_1_method_78_code 6 (some .int) := ⟨rfl, rfl, rfl, rfl⟩
theorem D_174 : mD 174 9 prog_1_method_82_code 4 (some .int) := ⟨rfl, rfl, rfl, rfl⟩
theorem D_175 : mD 175 9 prog_1_method_83_code 2 (some .int) := ⟨rfl, rfl, rfl, rfl⟩
theorem D_176 : mD 176 9 prog_1_method_84_code 3 (some .int) := ⟨rfl, rfl, rfl, rfl⟩
theorem D_177 : mD 177 9 prog_1_method_85_code 2 (some .int) := ⟨rfl, rfl, rfl, rfl⟩
theorem D_178 : mD 178 9 prog_1_method_86_code 2 (some .int) := ⟨rfl, rfl, rfl, rfl⟩
theorem D_179 : mD 179 9 prog_1_method_87_code 4 (some .int) := ⟨rfl, rfl, rfl, rfl⟩
theorem D_180 : mD 180 9 prog_1_method_88_code 5 (some .int) := ⟨rfl, rfl, rfl, rfl⟩
theorem D_181 : mD 181 9 prog_1_method_89_code 8 (some .int) := ⟨rfl, rfl, rfl, rfl⟩
theorem D_183 : mD 183 10 prog_12_method_6_code 3 (some .int) := ⟨rfl, rfl, rfl, rfl⟩
theorem D_184 : mD 184 10 prog_12_method_3_code 6 (some .boolean) := ⟨rfl, rfl, rfl, rfl⟩
theorem D_185 : mD 185 10 prog_12_method_7_code 3 (some .int) := ⟨rfl, rfl, rfl, rfl⟩
theorem D_186 : mD 186 10 prog_12_method_17_code 7 (some .int) := ⟨rfl, rfl, rfl, rfl⟩
theorem D_187 : mD 187 10 prog_12_method_18_code 2 (some .int) := ⟨rfl, rfl, rfl, rfl⟩
theorem D_188 : mD 188 10 prog_12_method_28_code 2 (some .int) := ⟨rfl, rfl, rfl, rfl⟩
theorem D_189 : mD 189 10 prog_12_method_33_code 2 (some .int) := ⟨rfl, rfl, rfl, rfl⟩
theorem D_190 : mD 190 10 prog_12_method_20_code 2 (none) := ⟨rfl, rfl, rfl, rfl⟩
theorem D_191 : mD 191 10 prog_12_method_19_code 2 (some .int) := ⟨rfl, rfl, rfl, rfl⟩
theorem D_192 : mD 192 10 prog_12_method_21_code 1 (some .boolean) := ⟨rfl, rfl, rfl, rfl⟩
theorem D_193 : mD 193 10 prog_12_method_32_code 1 (none) := ⟨rfl, rfl, rfl, rfl⟩
theorem D_194 : mD 194 10 prog_12_method_29_code 1 (none) := ⟨rfl, rfl, rfl, rfl⟩
theorem D_195 : mD 195 10 prog_12_method_25_code 2 (none) := ⟨rfl, rfl, rfl, rfl⟩
theorem D_196 : mD 196 10 prog_12_method_24_code 3 (some .boolean) := ⟨rfl, rfl, rfl, rfl⟩
theorem D_197 : mD 197 10 prog_12_method_23_code 4 (some .boolean) := ⟨rfl, rfl, rfl, rfl⟩
theorem D_198 : mD 198 10 prog_12_method_22_code 2 (none) := ⟨rfl, rfl, rfl, rfl⟩
theorem D_199 : mD 199 10 prog_12_method_27_code 4 (some .int) := ⟨rfl, rfl, rfl, rfl⟩
theorem D_200 : mD 200 10 prog_12_method_26_code 4 (some .int) := ⟨rfl, rfl, rfl, rfl⟩
theorem D_201 : mD 201 10 prog_12_method_31_code 3 (none) := ⟨rfl, rfl, rfl, rfl⟩
theorem D_202 : mD 202 10 prog_12_method_30_code 3 (none) := ⟨rfl, rfl, rfl, rfl⟩
theorem D_203 : mD 203 10 prog_12_method_34_code 3 (some .int) := ⟨rfl, rfl, rfl, rfl⟩
theorem D_204 : mD 204 10 prog_12_method_12_code 3 (some .boolean) := ⟨rfl, rfl, rfl, rfl⟩
theorem D_205 : mD 205 10 prog_12_method_35_code 3 (some .int) := ⟨rfl, rfl, rfl, rfl⟩
theorem D_206 : mD 206 10 prog_12_method_13_code 2 (some .boolean) := ⟨rfl, rfl, rfl, rfl⟩
theorem D_207 : mD 207 10 prog_12_method_15_code 3 (some .int) := ⟨rfl, rfl, rfl, rfl⟩
theorem D_208 : mD 208 10 prog_12_method_36_code 3 (some .int) := ⟨rfl, rfl, rfl, rfl⟩
theorem D_209 : mD 209 10 prog_12_method_49_code 3 (some .int) := ⟨rfl, rfl, rfl, rfl⟩
theorem D_210 : mD 210 10 prog_12_method_45_code 2 (some .boolean) := ⟨rfl, rfl, rfl, rfl⟩
theorem D_211 : mD 211 10 prog_12_method_44_code 1 (some .boolean) := ⟨rfl, rfl, rfl, rfl⟩
theorem D_212 : mD 212 10 prog_12_method_37_code 2 (none) := ⟨rfl, rfl, rfl, rfl⟩
theorem D_213 : mD 213 10 prog_12_method_38_code 3 (none) := ⟨rfl, rfl, rfl, rfl⟩
theorem D_214 : mD 214 10 prog_12_method_8_code 1 (some .boolean) := ⟨rfl, rfl, rfl, rfl⟩
theorem D_215 : mD 215 10 prog_12_method_43_code 5 (none) := ⟨rfl, rfl, rfl, rfl⟩
theorem D_216 : mD 216 10 prog_12_method_9_code 1 (some .int) := ⟨rfl, rfl, rfl, rfl⟩
theorem D_217 : mD 217 10 prog_12_method_42_code 9 (none) := ⟨rfl, rfl, rfl, rfl⟩
theorem D_218 : mD 218 10 prog_12_method_40_code 3 (some .int) := ⟨rfl, rfl, rfl, rfl⟩
theorem D_219 : mD 219 10 prog_12_method_41_code 7 (some .int) := ⟨rfl, rfl, rfl, rfl⟩
theorem D_220 : mD 220 10 prog_12_method_39_code 3 (some .int) := ⟨rfl, rfl, rfl, rfl⟩
theorem D_221 : mD 221 10 prog_12_method_5_code 2 (some .int) := ⟨rfl, rfl, rfl, rfl⟩
theorem D_222 : mD 222 10 prog_12_method_10_code 3 (some .boolean) := ⟨rfl, rfl, rfl, rfl⟩
theorem D_223 : mD 223 10 prog_12_method_50_code 3 (some .int) := ⟨rfl, rfl, rfl, rfl⟩
theorem D_224 : mD 224 10 prog_12_method_51_code 3 (some .int) := ⟨rfl, rfl, rfl, rfl⟩
theorem D_225 : mD 225 10 prog_12_method_46_code 2 (some .boolean) := ⟨rfl, rfl, rfl, rfl⟩
theorem D_226 : mD 226 10 prog_12_method_11_code 2 (some .boolean) := ⟨rfl, rfl, rfl, rfl⟩
theorem D_227 : mD 227 10 prog_12_method_52_code 2 (some .int) := ⟨rfl, rfl, rfl, rfl⟩
theorem D_228 : mD 228 10 prog_12_method_54_code 3 (some .int) := ⟨rfl, rfl, rfl, rfl⟩
theorem D_229 : mD 229 10 prog_12_method_53_code 5 (some .int) := ⟨rfl, rfl, rfl, rfl⟩
theorem D_230 : mD 230 10 prog_12_method_56_code 2 (some .int) := ⟨rfl, rfl, rfl, rfl⟩
theorem D_231 : mD 231 10 prog_12_method_55_code 4 (some .int) := ⟨rfl, rfl, rfl, rfl⟩
theorem D_232 : mD 232 10 prog_12_method_57_code 4 (some .int) := ⟨rfl, rfl, rfl, rfl⟩
theorem D_233 : mD 233 10 prog_12_method_58_code 4 (some .int) := ⟨rfl, rfl, rfl, rfl⟩
theorem D_234 : mD 234 10 prog_12_method_47_code 2 (some .boolean) := ⟨rfl, rfl, rfl, rfl⟩
theorem D_235 : mD 235 10 prog_12_method_59_code 5 (some .int) := ⟨rfl, rfl, rfl, rfl⟩
theorem D_236 : mD 236 10 prog_12_method_61_code 2 (some .int) := ⟨rfl, rfl, rfl, rfl⟩
theorem D_237 : mD 237 10 prog_12_method_60_code 4 (some .int) := ⟨rfl, rfl, rfl, rfl⟩
theorem D_238 : mD 238 10 prog_12_method_62_code 3 (some .int) := ⟨rfl, rfl, rfl, rfl⟩
theorem D_239 : mD 239 10 prog_12_method_64_code 2 (some .int) := ⟨rfl, rfl, rfl, rfl⟩
theorem D_240 : mD 240 10 prog_12_method_63_code 3 (some .int) := ⟨rfl, rfl, rfl, rfl⟩
theorem D_241 : mD 241 10 prog_12_method_66_code 1 (some .int) := ⟨rfl, rfl, rfl, rfl⟩
theorem D_242 : mD 242 10 prog_12_method_65_code 3 (some .int) := ⟨rfl, rfl, rfl, rfl⟩
theorem D_243 : mD 243 10 prog_12_method_67_code 4 (some .int) := ⟨rfl, rfl, rfl, rfl⟩
theorem D_244 : mD 244 10 prog_12_method_68_code 3 (some .int) := ⟨rfl, rfl, rfl, rfl⟩
theorem D_245 : mD 245 10 prog_12_method_69_code 4 (some .int) := ⟨rfl, rfl, rfl, rfl⟩
theorem D_246 : mD 246 10 prog_12_method_48_code 2 (some .boolean) := ⟨rfl, rfl, rfl, rfl⟩
theorem D_247 : mD 247 10 prog_12_method_70_code 3 (some .int) := ⟨rfl, rfl, rfl, rfl⟩
theorem D_248 : mD 248 10 prog_12_method_71_code 3 (some .int) := ⟨rfl, rfl, rfl, rfl⟩
theorem D_249 : mD 249 10 prog_12_method_72_code 4 (some .int) := ⟨rfl, rfl, rfl, rfl⟩
theorem D_250 : mD 250 10 prog_12_method_73_code 4 (some .int) := ⟨rfl, rfl, rfl, rfl⟩
theorem D_251 : mD 251 10 prog_12_method_74_code 7 (some .int) := ⟨rfl, rfl, rfl, rfl⟩
theorem D_252 : mD 252 10 prog_12_method_75_code 5 (some .int) := ⟨rfl, rfl, rfl, rfl⟩
theorem D_253 : mD 253 10 prog_12_method_76_code 4 (some .int) := ⟨rfl, rfl, rfl, rfl⟩
theorem D_254 : mD 254 10 prog_12_method_78_code 2 (some .int) := ⟨rfl, rfl, rfl, rfl⟩
theorem D_255 : mD 255 10 prog_12_method_77_code 4 (some .int) := ⟨rfl, rfl, rfl, rfl⟩
theorem D_256 : mD 256 10 prog_12_method_16_code 3 (some .boolean) := ⟨rfl, rfl, rfl, rfl⟩
theorem D_257 : mD 257 10 prog_12_method_79_code 6 (some .int) := ⟨rfl, rfl, rfl, rfl⟩
theorem D_258 : mD 258 10 prog_12_method_80_code 5 (some .int) := ⟨rfl, rfl, rfl, rfl⟩
theorem D_259 : mD 259 10 prog_12_method_81_code 4 (some .int) := ⟨rfl, rfl, rfl, rfl⟩
theorem D_260 : mD 260 10 prog_12_method_82_code 4 (some .int) := ⟨rfl, rfl, rfl, rfl⟩
theorem D_261 : mD 261 10 prog_12_method_83_code 4 (some .int) := ⟨rfl, rfl, rfl, rfl⟩
theorem D_262 : mD 262 10 prog_12_method_4_code 3 (some .int) := ⟨rfl, rfl, rfl, rfl⟩
theorem D_263 : mD 263 10 prog_12_method_84_code 2 (some .int) := ⟨rfl, rfl, rfl, rfl⟩
theorem D_264 : mD 264 10 prog_12_method_85_code 3 (some .int) := ⟨rfl, rfl, rfl, rfl⟩
theorem D_265 : mD 265 10 prog_12_method_86_code 3 (some .int) := ⟨rfl, rfl, rfl, rfl⟩
theorem D_266 : mD 266 10 prog_12_method_87_code 3 (some .int) := ⟨rfl, rfl, rfl, rfl⟩
theorem D_267 : mD 267 10 prog_12_method_89_code 2 (some .int) := ⟨rfl, rfl, rfl, rfl⟩
theorem D_268 : mD 268 10 prog_12_method_14_code 1 (some .boolean) := ⟨rfl, rfl, rfl, rfl⟩
theorem D_269 : mD 269 10 prog_12_method_88_code 2 (some .int) := ⟨rfl, rfl, rfl, rfl⟩
theorem D_270 : mD 270 10 prog_12_method_97_code 2 (some .int) := ⟨rfl, rfl, rfl, rfl⟩
theorem D_271 : mD 271 10 prog_12_method_95_code 2 (some .boolean) := ⟨rfl, rfl, rfl, rfl⟩
theorem D_272 : mD 272 10 prog_12_method_94_code 3 (none) := ⟨rfl, rfl, rfl, rfl⟩
theorem D_273 : mD 273 10 prog_12_method_90_code 2 (none) := ⟨rfl, rfl, rfl, rfl⟩
theorem D_274 : mD 274 10 prog_12_method_93_code 4 (none) := ⟨rfl, rfl, rfl, rfl⟩
theorem D_275 : mD 275 10 prog_12_method_92_code 3 (some .int) := ⟨rfl, rfl, rfl, rfl⟩
theorem D_276 : mD 276 10 prog_12_method_91_code 2 (some .boolean) := ⟨rfl, rfl, rfl, rfl⟩
theorem D_277 : mD 277 10 prog_12_method_98_code 3 (some .int) := ⟨rfl, rfl, rfl, rfl⟩
theorem D_278 : mD 278 10 prog_12_method_99_code 2 (some .int) := ⟨rfl, rfl, rfl, rfl⟩
theorem D_279 : mD 279 10 prog_12_method_96_code 1 (some .int) := ⟨rfl, rfl, rfl, rfl⟩
theorem D_280 : mD 280 10 prog_12_method_100_code 2 (some .int) := ⟨rfl, rfl, rfl, rfl⟩
theorem D_281 : mD 281 10 prog_12_method_101_code 2 (some .int) := ⟨rfl, rfl, rfl, rfl⟩
theorem D_282 : mD 282 10 prog_12_method_102_code 1 (some .int) := ⟨rfl, rfl, rfl, rfl⟩
theorem D_283 : mD 283 10 prog_12_method_104_code 4 (some .int) := ⟨rfl, rfl, rfl, rfl⟩
theorem D_284 : mD 284 10 prog_12_method_103_code 7 (some .int) := ⟨rfl, rfl, rfl, rfl⟩
theorem D_285 : mD 285 10 prog_12_method_105_code 3 (some .int) := ⟨rfl, rfl, rfl, rfl⟩
theorem D_286 : mD 286 10 prog_12_method_107_code 2 (some .int) := ⟨rfl, rfl, rfl, rfl⟩
theorem D_287 : mD 287 10 prog_12_method_106_code 5 (some .int) := ⟨rfl, rfl, rfl, rfl⟩
theorem D_288 : mD 288 10 prog_12_method_108_code 1 (some .int) := ⟨rfl, rfl, rfl, rfl⟩
theorem D_289 : mD 289 10 prog_12_method_113_code 3 (some .int) := ⟨rfl, rfl, rfl, rfl⟩
theorem D_290 : mD 290 10 prog_12_method_112_code 5 (some .int) := ⟨rfl, rfl, rfl, rfl⟩
theorem D_291 : mD 291 10 prog_12_method_110_code 3 (some .int) := ⟨rfl, rfl, rfl, rfl⟩
theorem D_292 : mD 292 10 prog_12_method_142_code 1 (some .boolean) := ⟨rfl, rfl, rfl, rfl⟩
theorem D_293 : mD 293 10 prog_12_method_109_code 3 (some .long) := ⟨rfl, rfl, rfl, rfl⟩
theorem D_294 : mD 294 10 prog_12_method_111_code 3 (some .boolean) := ⟨rfl, rfl, rfl, rfl⟩
theorem D_295 : mD 295 10 prog_12_method_114_code 6 (some .int) := ⟨rfl, rfl, rfl, rfl⟩
theorem D_296 : mD 296 10 prog_12_method_116_code 3 (some .int) := ⟨rfl, rfl, rfl, rfl⟩
theorem D_297 : mD 297 10 prog_12_method_115_code 7 (some .int) := ⟨rfl, rfl, rfl, rfl⟩
theorem D_298 : mD 298 10 prog_12_method_117_code 3 (some .int) := ⟨rfl, rfl, rfl, rfl⟩
theorem D_299 : mD 299 10 prog_12_method_118_code 4 (some .int) := ⟨rfl, rfl, rfl, rfl⟩
theorem D_300 : mD 300 10 prog_12_method_122_code 9 (some .int) := ⟨rfl, rfl, rfl, rfl⟩
theorem D_301 : mD 301 10 prog_12_method_119_code 3 (some .int) := ⟨rfl, rfl, rfl, rfl⟩
theorem D_302 : mD 302 10 prog_12_method_121_code 5 (some .long) := ⟨rfl, rfl, rfl, rfl⟩
theorem D_303 : mD 303 10 prog_12_method_120_code 10 (some .long) := ⟨rfl, rfl, rfl, rfl⟩
theorem D_304 : mD 304 10 prog_12_method_125_code 3 (some .int) := ⟨rfl, rfl, rfl, rfl⟩
theorem D_305 : mD 305 10 prog_12_method_124_code 5 (some .boolean) := ⟨rfl, rfl, rfl, rfl⟩
theorem D_306 : mD 306 10 prog_12_method_123_code 6 (some .boolean) := ⟨rfl, rfl, rfl, rfl⟩
theorem D_307 : mD 307 10 prog_12_method_126_code 3 (some .int) := ⟨rfl, rfl, rfl, rfl⟩
theorem D_308 : mD 308 10 prog_12_method_129_code 4 (some .long) := ⟨rfl, rfl, rfl, rfl⟩
theorem D_309 : mD 309 10 prog_12_method_128_code 4 (some .boolean) := ⟨rfl, rfl, rfl, rfl⟩
theorem D_310 : mD 310 10 prog_12_method_127_code 7 (none) := ⟨rfl, rfl, rfl, rfl⟩
theorem D_311 : mD 311 10 prog_12_method_130_code 4 (some .long) := ⟨rfl, rfl, rfl, rfl⟩
theorem D_312 : mD 312 10 prog_12_method_132_code 4 (some .int) := ⟨rfl, rfl, rfl, rfl⟩
theorem D_313 : mD 313 10 prog_12_method_131_code 2 (some .int) := ⟨rfl, rfl, rfl, rfl⟩
theorem D_314 : mD 314 10 prog_12_method_133_code 3 (some .int) := ⟨rfl, rfl, rfl, rfl⟩
theorem D_315 : mD 315 10 prog_12_method_134_code 1 (some .int) := ⟨rfl, rfl, rfl, rfl⟩
theorem D_316 : mD 316 10 prog_12_method_135_code 2 (some .int) := ⟨rfl, rfl, rfl, rfl⟩
theorem D_317 : mD 317 10 prog_12_method_138_code 4 (some .int) := ⟨rfl, rfl, rfl, rfl⟩
theorem D_318 : mD 318 10 prog_12_method_137_code 1 (some .boolean) := ⟨rfl, rfl, rfl, rfl⟩
theorem D_319 : mD 319 10 prog_12_method_136_code 7 (some .int) := ⟨rfl, rfl, rfl, rfl⟩
theorem D_320 : mD 320 10 prog_12_method_139_code 6 (some .int) := ⟨rfl, rfl, rfl, rfl⟩
theorem D_321 : mD 321 10 prog_12_method_140_code 4 (some .int) := ⟨rfl, rfl, rfl, rfl⟩
theorem D_322 : mD 322 10 prog_12_method_141_code 4 (some .int) := ⟨rfl, rfl, rfl, rfl⟩
theorem D_323 : mD 323 10 prog_12_method_144_code 5 (some .int) := ⟨rfl, rfl, rfl, rfl⟩
theorem D_324 : mD 324 10 prog_12_method_145_code 5 (some .int) := ⟨rfl, rfl, rfl, rfl⟩
theorem D_325 : mD 325 10 prog_12_method_143_code 4 (some .long) := ⟨rfl, rfl, rfl, rfl⟩
theorem D_326 : mD 326 10 prog_12_method_146_code 7 (some .int) := ⟨rfl, rfl, rfl, rfl⟩
theorem D_327 : mD 327 12 prog_13_method_49_code 1 (some .int) := ⟨rfl, rfl, rfl, rfl⟩
theorem D_328 : mD 328 13 prog_15_method_54_code 1 (some .int) := ⟨rfl, rfl, rfl, rfl⟩
theorem D_329 : mD 329 13 prog_15_method_152_code 1 (some .byte) := ⟨rfl, rfl, rfl, rfl⟩
theorem D_330 : mD 330 13 prog_15_method_56_code 2 (some .char) := ⟨rfl, rfl, rfl, rfl⟩
theorem D_331 : mD 331 13 prog_15_method_154_code 1 (some .boolean) := ⟨rfl, rfl, rfl, rfl⟩
theorem D_332 : mD 332 13 prog_15_method_155_code 2 (none) := ⟨rfl, rfl, rfl, rfl⟩
theorem D_333 : mD 333 14 prog_16_method_2_code 2 (some .char) := ⟨rfl, rfl, rfl, rfl⟩
theorem D_334 : mD 334 15 prog_19_method_11_code 3 (some .int) := ⟨rfl, rfl, rfl, rfl⟩
theorem E_1 : mE1 1 0 1 1 := ⟨rfl, rfl, rfl⟩
theorem E_2 : mE1 2 0 2 4 := ⟨rfl, rfl, rfl⟩
theorem E_3 : mE1 3 0 3 4 := ⟨rfl, rfl, rfl⟩
theorem E_4 : mE1 4 0 1 4 := ⟨rfl, rfl, rfl⟩
theorem E_5 : mE1 5 0 2 4 := ⟨rfl, rfl, rfl⟩
theorem E_6 : mE1 6 0 2 4 := ⟨rfl, rfl, rfl⟩
theorem E_7 : mE1 7 0 2 4 := ⟨rfl, rfl, rfl⟩
theorem E_8 : mE1 8 0 3 3 := ⟨rfl, rfl, rfl⟩
theorem E_9 : mE1 9 0 2 4 := ⟨rfl, rfl, rfl⟩
theorem E_10 : mE1 10 0 3 6 := ⟨rfl, rfl, rfl⟩
theorem E_11 : mE1 11 0 4 6 := ⟨rfl, rfl, rfl⟩
theorem E_12 : mE1 12 0 4 6 := ⟨rfl, rfl, rfl⟩
theorem E_13 : mE1 13 0 3 5 := ⟨rfl, rfl, rfl⟩
theorem E_14 : mE1 14 0 2 2 := ⟨rfl, rfl, rfl⟩
theorem E_15 : mE1 15 0 2 2 := ⟨rfl, rfl, rfl⟩
theorem E_16 : mE1 16 0 2 4 := ⟨rfl, rfl, rfl⟩
theorem E_17 : mE1 17 0 3 3 := ⟨rfl, rfl, rfl⟩
theorem E_18 : mE1 18 0 3 3 := ⟨rfl, rfl, rfl⟩
theorem E_19 : mE1 19 0 2 3 := ⟨rfl, rfl, rfl⟩
theorem E_20 : mE1 20 0 1 3 := ⟨rfl, rfl, rfl⟩
theorem E_21 : mE1 21 0 3 5 := ⟨rfl, rfl, rfl⟩
theorem E_22 : mE1 22 0 3 6 := ⟨rfl, rfl, rfl⟩
theorem E_23 : mE1 23 0 1 1 := ⟨rfl, rfl, rfl⟩
theorem E_24 : mE1 24 0 2 3 := ⟨rfl, rfl, rfl⟩
theorem E_25 : mE1 25 0 1 1 := ⟨rfl, rfl, rfl⟩
theorem E_26 : mE1 26 0 1 2 := ⟨rfl, rfl, rfl⟩
theorem E_27 : mE1 27 0 2 3 := ⟨rfl, rfl, rfl⟩
theorem E_29 : mE1 29 1 3 5 := ⟨rfl, rfl, rfl⟩
theorem E_30 : mE1 30 1 3 5 := ⟨rfl, rfl, rfl⟩
theorem E_31 : mE1 31 1 3 5 := ⟨rfl, rfl, rfl⟩
theorem E_32 : mE1 32 1 3 5 := ⟨rfl, rfl, rfl⟩
theorem E_34 : mE1 34 2 1 1 := ⟨rfl, rfl, rfl⟩
theorem E_35 : mE1 35 2 3 3 := ⟨rfl, rfl, rfl⟩
theorem E_36 : mE1 36 2 5 5 := ⟨rfl, rfl, rfl⟩
theorem E_37 : mE1 37 2 3 3 := ⟨rfl, rfl, rfl⟩
theorem E_38 : mE1 38 2 2 2 := ⟨rfl, rfl, rfl⟩
theorem E_39 : mE1 39 2 2 3 := ⟨rfl, rfl, rfl⟩
theorem E_40 : mE1 40 2 2 2 := ⟨rfl, rfl, rfl⟩
theorem E_41 : mE1 41 2 2 2 := ⟨rfl, rfl, rfl⟩
theorem E_42 : mE1 42 2 2 3 := ⟨rfl, rfl, rfl⟩
theorem E_43 : mE1 43 2 1 1 := ⟨rfl, rfl, rfl⟩
theorem E_44 : mE1 44 2 2 2 := ⟨rfl, rfl, rfl⟩
theorem E_45 : mE1 45 2 3 3 := ⟨rfl, rfl, rfl⟩
theorem E_46 : mE1 46 2 4 4 := ⟨rfl, rfl, rfl⟩
theorem E_48 : mE1 48 3 1 2 := ⟨rfl, rfl, rfl⟩
theorem E_49 : mE1 49 3 1 1 := ⟨rfl, rfl, rfl⟩
theorem E_50 : mE1 50 3 1 1 := ⟨rfl, rfl, rfl⟩
theorem E_51 : mE1 51 3 1 1 := ⟨rfl, rfl, rfl⟩
theorem E_52 : mE1 52 3 1 1 := ⟨rfl, rfl, rfl⟩
theorem E_53 : mE1 53 3 1 1 := ⟨rfl, rfl, rfl⟩
theorem E_54 : mE1 54 3 1 1 := ⟨rfl, rfl, rfl⟩
theorem E_55 : mE1 55 3 1 1 := ⟨rfl, rfl, rfl⟩
theorem E_56 : mE1 56 3 1 1 := ⟨rfl, rfl, rfl⟩
theorem E_57 : mE1 57 3 2 2 := ⟨rfl, rfl, rfl⟩
theorem E_58 : mE1 58 3 2 3 := ⟨rfl, rfl, rfl⟩
theorem E_59 : mE1 59 3 2 2 := ⟨rfl, rfl, rfl⟩
theorem E_60 : mE1 60 3 3 4 := ⟨rfl, rfl, rfl⟩
theorem E_61 : mE1 61 3 1 3 := ⟨rfl, rfl, rfl⟩
theorem E_62 : mE1 62 3 2 2 := ⟨rfl, rfl, rfl⟩
theorem E_63 : mE1 63 3 1 5 := ⟨rfl, rfl, rfl⟩
theorem E_64 : mE1 64 3 1 3 := ⟨rfl, rfl, rfl⟩
theorem E_66 : mE1 66 4 2 3 := ⟨rfl, rfl, rfl⟩
theorem E_67 : mE1 67 4 2 4 := ⟨rfl, rfl, rfl⟩
theorem E_68 : mE1 68 4 2 5 := ⟨rfl, rfl, rfl⟩
theorem E_69 : mE1 69 4 3 4 := ⟨rfl, rfl, rfl⟩
theorem E_70 : mE1 70 4 3 4 := ⟨rfl, rfl, rfl⟩
theorem E_71 : mE1 71 4 3 3 := ⟨rfl, rfl, rfl⟩
theorem E_73 : mE1 73 5 3 6 := ⟨rfl, rfl, rfl⟩
theorem E_74 : mE1 74 5 1 3 := ⟨rfl, rfl, rfl⟩
theorem E_75 : mE1 75 5 1 2 := ⟨rfl, rfl, rfl⟩
theorem E_76 : mE1 76 5 2 4 := ⟨rfl, rfl, rfl⟩
theorem E_77 : mE1 77 5 1 5 := ⟨rfl, rfl, rfl⟩
theorem E_78 : mE1 78 5 2 4 := ⟨rfl, rfl, rfl⟩
theorem E_80 : mE1 80 6 2 3 := ⟨rfl, rfl, rfl⟩
theorem E_81 : mE1 81 6 2 6 := ⟨rfl, rfl, rfl⟩
theorem E_83 : mE1 83 7 1 3 := ⟨rfl, rfl, rfl⟩
theorem E_84 : mE1 84 7 1 3 := ⟨rfl, rfl, rfl⟩
theorem E_85 : mE1 85 7 2 3 := ⟨rfl, rfl, rfl⟩
theorem E_86 : mE1 86 7 1 3 := ⟨rfl, rfl, rfl⟩
theorem E_87 : mE1 87 7 1 3 := ⟨rfl, rfl, rfl⟩
theorem E_89 : mE1 89 8 2 3 := ⟨rfl, rfl, rfl⟩
theorem E_94 : mE1 94 9 1 1 := ⟨rfl, rfl, rfl⟩
theorem E_97 : mE1 97 9 1 1 := ⟨rfl, rfl, rfl⟩
theorem E_141 : mE1 141 9 3 3 := ⟨rfl, rfl, rfl⟩
theorem E_144 : mE1 144 9 1 4 := ⟨rfl, rfl, rfl⟩
theorem E_145 : mE1 145 9 2 5 := ⟨rfl, rfl, rfl⟩
theorem E_148 : mE1 148 9 2 2 := ⟨rfl, rfl, rfl⟩
theorem E_149 : mE1 149 9 1 1 := ⟨rfl, rfl, rfl⟩
theorem E_155 : mE1 155 9 3 7 := ⟨rfl, rfl, rfl⟩
theorem E_156 : mE1 156 9 2 11 := ⟨rfl, rfl, rfl⟩
theorem E_158 : mE1 158 9 3 3 := ⟨rfl, rfl, rfl⟩
theorem E_161 : mE1 161 9 2 2 := ⟨rfl, rfl, rfl⟩
theorem E_162 : mE1 162 9 3 6 := ⟨rfl, rfl, rfl⟩
theorem E_163 : mE1 163 9 1 4 := ⟨rfl, rfl, rfl⟩
theorem E_170 : mE1 170 9 1 1 := ⟨rfl, rfl, rfl⟩
theorem E_171 : mE1 171 9 2 6 := ⟨rfl, rfl, rfl⟩
theorem E_172 : mE1 172 9 2 2 := ⟨rfl, rfl, rfl⟩
theorem E_176 : mE1 176 9 1 3 := ⟨rfl, rfl, rfl⟩
theorem E_184 : mE1 184 10 3 6 := ⟨rfl, rfl, rfl⟩
theorem E_190 : mE1 190 10 1 2 := ⟨rfl, rfl, rfl⟩
theorem E_191 : mE1 191 10 2 2 := ⟨rfl, rfl, rfl⟩
theorem E_192 : mE1 192 10 1 1 := ⟨rfl, rfl, rfl⟩
theorem E_193 : mE1 193 10 1 1 := ⟨rfl, rfl, rfl⟩
theorem E_194 : mE1 194 10 1 1 := ⟨rfl, rfl, rfl⟩
theorem E_195 : mE1 195 10 2 2 := ⟨rfl, rfl, rfl⟩
theorem E_196 : mE1 196 10 2 3 := ⟨rfl, rfl, rfl⟩
theorem E_197 : mE1 197 10 2 4 := ⟨rfl, rfl, rfl⟩
theorem E_198 : mE1 198 10 2 2 := ⟨rfl, rfl, rfl⟩
theorem E_199 : mE1 199 10 4 4 := ⟨rfl, rfl, rfl⟩
theorem E_200 : mE1 200 10 3 4 := ⟨rfl, rfl, rfl⟩
theorem E_201 : mE1 201 10 1 3 := ⟨rfl, rfl, rfl⟩
theorem E_202 : mE1 202 10 1 3 := ⟨rfl, rfl, rfl⟩
theorem E_204 : mE1 204 10 2 3 := ⟨rfl, rfl, rfl⟩
theorem E_206 : mE1 206 10 2 2 := ⟨rfl, rfl, rfl⟩
theorem E_207 : mE1 207 10 3 3 := ⟨rfl, rfl, rfl⟩
theorem E_210 : mE1 210 10 2 2 := ⟨rfl, rfl, rfl⟩
theorem E_211 : mE1 211 10 1 1 := ⟨rfl, rfl, rfl⟩
theorem E_212 : mE1 212 10 1 2 := ⟨rfl, rfl, rfl⟩
theorem E_213 : mE1 213 10 2 3 := ⟨rfl, rfl, rfl⟩
theorem E_214 : mE1 214 10 1 1 := ⟨rfl, rfl, rfl⟩
theorem E_215 : mE1 215 10 1 5 := ⟨rfl, rfl, rfl⟩
theorem E_216 : mE1 216 10 1 1 := ⟨rfl, rfl, rfl⟩
theorem E_217 : mE1 217 10 2 9 := ⟨rfl, rfl, rfl⟩
theorem E_218 : mE1 218 10 3 3 := ⟨rfl, rfl, rfl⟩
theorem E_219 : mE1 219 10 4 7 := ⟨rfl, rfl, rfl⟩
theorem E_220 : mE1 220 10 3 3 := ⟨rfl, rfl, rfl⟩
theorem E_221 : mE1 221 10 2 2 := ⟨rfl, rfl, rfl⟩
theorem E_222 : mE1 222 10 2 3 := ⟨rfl, rfl, rfl⟩
theorem E_225 : mE1 225 10 2 2 := ⟨rfl, rfl, rfl⟩
theorem E_226 : mE1 226 10 2 2 := ⟨rfl, rfl, rfl⟩
theorem E_229 : mE1 229 10 3 5 := ⟨rfl, rfl, rfl⟩
theorem E_231 : mE1 231 10 2 4 := ⟨rfl, rfl, rfl⟩
theorem E_234 : mE1 234 10 2 2 := ⟨rfl, rfl, rfl⟩
theorem E_237 : mE1 237 10 2 4 := ⟨rfl, rfl, rfl⟩
theorem E_240 : mE1 240 10 2 3 := ⟨rfl, rfl, rfl⟩
theorem E_242 : mE1 242 10 1 3 := ⟨rfl, rfl, rfl⟩
theorem E_246 : mE1 246 10 2 2 := ⟨rfl, rfl, rfl⟩
theorem E_255 : mE1 255 10 2 4 := ⟨rfl, rfl, rfl⟩
theorem E_256 : mE1 256 10 3 3 := ⟨rfl, rfl, rfl⟩
theorem E_262 : mE1 262 10 1 3 := ⟨rfl, rfl, rfl⟩
theorem E_268 : mE1 268 10 1 1 := ⟨rfl, rfl, rfl⟩
theorem E_269 : mE1 269 10 2 2 := ⟨rfl, rfl, rfl⟩
theorem E_271 : mE1 271 10 2 2 := ⟨rfl, rfl, rfl⟩
theorem E_272 : mE1 272 10 2 3 := ⟨rfl, rfl, rfl⟩
theorem E_273 : mE1 273 10 1 2 := ⟨rfl, rfl, rfl⟩
theorem E_274 : mE1 274 10 2 4 := ⟨rfl, rfl, rfl⟩
theorem E_275 : mE1 275 10 1 3 := ⟨rfl, rfl, rfl⟩
theorem E_276 : mE1 276 10 1 2 := ⟨rfl, rfl, rfl⟩
theorem E_279 : mE1 279 10 1 1 := ⟨rfl, rfl, rfl⟩
theorem E_284 : mE1 284 10 4 7 := ⟨rfl, rfl, rfl⟩
theorem E_287 : mE1 287 10 1 5 := ⟨rfl, rfl, rfl⟩
theorem E_290 : mE1 290 10 2 5 := ⟨rfl, rfl, rfl⟩
theorem E_291 : mE1 291 10 2 3 := ⟨rfl, rfl, rfl⟩
theorem E_292 : mE1 292 10 1 1 := ⟨rfl, rfl, rfl⟩
theorem E_293 : mE1 293 10 3 3 := ⟨rfl, rfl, rfl⟩
theorem E_294 : mE1 294 10 2 3 := ⟨rfl, rfl, rfl⟩
theorem E_297 : mE1 297 10 1 7 := ⟨rfl, rfl, rfl⟩
theorem E_301 : mE1 301 10 1 3 := ⟨rfl, rfl, rfl⟩
theorem E_302 : mE1 302 10 3 5 := ⟨rfl, rfl, rfl⟩
theorem E_303 : mE1 303 10 2 10 := ⟨rfl, rfl, rfl⟩
theorem E_305 : mE1 305 10 3 5 := ⟨rfl, rfl, rfl⟩
theorem E_306 : mE1 306 10 5 6 := ⟨rfl, rfl, rfl⟩
theorem E_309 : mE1 309 10 4 4 := ⟨rfl, rfl, rfl⟩
theorem E_310 : mE1 310 10 3 7 := ⟨rfl, rfl, rfl⟩
theorem E_313 : mE1 313 10 2 2 := ⟨rfl, rfl, rfl⟩
theorem E_318 : mE1 318 10 1 1 := ⟨rfl, rfl, rfl⟩
theorem E_319 : mE1 319 10 2 7 := ⟨rfl, rfl, rfl⟩
theorem E_325 : mE1 325 10 2 4 := ⟨rfl, rfl, rfl⟩
theorem E_327 : mE1 327 12 1 1 := ⟨rfl, rfl, rfl⟩
theorem E_328 : mE1 328 13 1 1 := ⟨rfl, rfl, rfl⟩
theorem E_329 : mE1 329 13 1 1 := ⟨rfl, rfl, rfl⟩
theorem E_330 : mE1 330 13 2 2 := ⟨rfl, rfl, rfl⟩
theorem E_331 : mE1 331 13 1 1 := ⟨rfl, rfl, rfl⟩
theorem E_332 : mE1 332 13 2 2 := ⟨rfl, rfl, rfl⟩
theorem E_333 : mE1 333 14 2 2 := ⟨rfl, rfl, rfl⟩
theorem E_334 : mE1 334 15 3 3 := ⟨rfl, rfl, rfl⟩
