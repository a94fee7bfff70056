/-! ===== facts of links, written by a program (wip/tools/gen_nodes.py) ===== -/
theorem ci_12_423 : (decide (423 < 65536) && decide (sm_look sm_CI (12 * 65536 + 423) = some (65533 : Int32))) = true := by decide +kernel
theorem ci_12_433 : (decide (433 < 65536) && decide (sm_look sm_CI (12 * 65536 + 433) = some (55296 : Int32))) = true := by decide +kernel
theorem ci_12_434 : (decide (434 < 65536) && decide (sm_look sm_CI (12 * 65536 + 434) = some (57343 : Int32))) = true := by decide +kernel
theorem ci_12_435 : (decide (435 < 65536) && decide (sm_look sm_CI (12 * 65536 + 435) = some (65536 : Int32))) = true := by decide +kernel
theorem ci_12_436 : (decide (436 < 65536) && decide (sm_look sm_CI (12 * 65536 + 436) = some (1114111 : Int32))) = true := by decide +kernel
theorem ci_8_116 : (decide (116 < 65536) && decide (sm_look sm_CI (8 * 65536 + 116) = some (65533 : Int32))) = true := by decide +kernel
theorem ci_8_120 : (decide (120 < 65536) && decide (sm_look sm_CI (8 * 65536 + 120) = some (65536 : Int32))) = true := by decide +kernel
theorem ci_8_121 : (decide (121 < 65536) && decide (sm_look sm_CI (8 * 65536 + 121) = some (55296 : Int32))) = true := by decide +kernel
theorem ci_8_122 : (decide (122 < 65536) && decide (sm_look sm_CI (8 * 65536 + 122) = some (57343 : Int32))) = true := by decide +kernel
theorem ci_8_123 : (decide (123 < 65536) && decide (sm_look sm_CI (8 * 65536 + 123) = some (1114111 : Int32))) = true := by decide +kernel
theorem cj_12_314 : (decide (314 < 65536) && decide (sm_look sm_CJ (12 * 65536 + 314) = some (365 : Int64))) = true := by decide +kernel
theorem cj_12_319 : (decide (319 < 65536) && decide (sm_look sm_CJ (12 * 65536 + 319) = some (719162 : Int64))) = true := by decide +kernel
theorem cj_12_344 : (decide (344 < 65536) && decide (sm_look sm_CJ (12 * 65536 + 344) = some (3 : Int64))) = true := by decide +kernel
theorem cj_12_346 : (decide (346 < 65536) && decide (sm_look sm_CJ (12 * 65536 + 346) = some (7 : Int64))) = true := by decide +kernel
theorem cj_12_351 : (decide (351 < 65536) && decide (sm_look sm_CJ (12 * 65536 + 351) = some (86400 : Int64))) = true := by decide +kernel
theorem cj_12_353 : (decide (353 < 65536) && decide (sm_look sm_CJ (12 * 65536 + 353) = some (3600 : Int64))) = true := by decide +kernel
theorem cj_12_355 : (decide (355 < 65536) && decide (sm_look sm_CJ (12 * 65536 + 355) = some (60 : Int64))) = true := by decide +kernel
theorem cj_5_103 : (decide (103 < 65536) && decide (sm_look sm_CJ (5 * 65536 + 103) = some (365 : Int64))) = true := by decide +kernel
theorem cj_5_105 : (decide (105 < 65536) && decide (sm_look sm_CJ (5 * 65536 + 105) = some (719162 : Int64))) = true := by decide +kernel
theorem cj_5_41 : (decide (41 < 65536) && decide (sm_look sm_CJ (5 * 65536 + 41) = some (3 : Int64))) = true := by decide +kernel
theorem cj_5_43 : (decide (43 < 65536) && decide (sm_look sm_CJ (5 * 65536 + 43) = some (7 : Int64))) = true := by decide +kernel
theorem cj_5_55 : (decide (55 < 65536) && decide (sm_look sm_CJ (5 * 65536 + 55) = some (86400 : Int64))) = true := by decide +kernel
theorem cp_2_28 : (decide (28 < 65536) && decide (sm_look sm_L (2 * 65536 + 28) = none) && decide (sm_look sm_LX (2 * 65536 + 28) = some (1, 0))) = true := by decide +kernel
theorem cs_1_76 : (decide (76 < 65536) && decide (sm_look sm_CI (1 * 65536 + 76) = none) && decide (sm_look sm_CS (1 * 65536 + 76) = some 22)) = true := by decide +kernel
theorem cs_10_125 : (decide (125 < 65536) && decide (sm_look sm_CI (10 * 65536 + 125) = none) && decide (sm_look sm_CS (10 * 65536 + 125) = some 38)) = true := by decide +kernel
theorem cs_10_130 : (decide (130 < 65536) && decide (sm_look sm_CI (10 * 65536 + 130) = none) && decide (sm_look sm_CS (10 * 65536 + 130) = some 39)) = true := by decide +kernel
theorem cs_10_138 : (decide (138 < 65536) && decide (sm_look sm_CI (10 * 65536 + 138) = none) && decide (sm_look sm_CS (10 * 65536 + 138) = some 40)) = true := by decide +kernel
theorem cs_10_144 : (decide (144 < 65536) && decide (sm_look sm_CI (10 * 65536 + 144) = none) && decide (sm_look sm_CS (10 * 65536 + 144) = some 41)) = true := by decide +kernel
theorem cs_10_149 : (decide (149 < 65536) && decide (sm_look sm_CI (10 * 65536 + 149) = none) && decide (sm_look sm_CS (10 * 65536 + 149) = some 42)) = true := by decide +kernel
theorem cs_10_161 : (decide (161 < 65536) && decide (sm_look sm_CI (10 * 65536 + 161) = none) && decide (sm_look sm_CS (10 * 65536 + 161) = some 43)) = true := by decide +kernel
theorem cs_10_50 : (decide (50 < 65536) && decide (sm_look sm_CI (10 * 65536 + 50) = none) && decide (sm_look sm_CS (10 * 65536 + 50) = some 34)) = true := by decide +kernel
theorem cs_10_69 : (decide (69 < 65536) && decide (sm_look sm_CI (10 * 65536 + 69) = none) && decide (sm_look sm_CS (10 * 65536 + 69) = some 35)) = true := by decide +kernel
theorem cs_10_74 : (decide (74 < 65536) && decide (sm_look sm_CI (10 * 65536 + 74) = none) && decide (sm_look sm_CS (10 * 65536 + 74) = some 36)) = true := by decide +kernel
theorem cs_10_95 : (decide (95 < 65536) && decide (sm_look sm_CI (10 * 65536 + 95) = none) && decide (sm_look sm_CS (10 * 65536 + 95) = some 37)) = true := by decide +kernel
theorem cs_11_142 : (decide (142 < 65536) && decide (sm_look sm_CI (11 * 65536 + 142) = none) && decide (sm_look sm_CS (11 * 65536 + 142) = some 23)) = true := by decide +kernel
theorem cs_12_172 : (decide (172 < 65536) && decide (sm_look sm_CI (12 * 65536 + 172) = none) && decide (sm_look sm_CS (12 * 65536 + 172) = some 44)) = true := by decide +kernel
theorem cs_12_178 : (decide (178 < 65536) && decide (sm_look sm_CI (12 * 65536 + 178) = none) && decide (sm_look sm_CS (12 * 65536 + 178) = some 45)) = true := by decide +kernel
theorem cs_12_180 : (decide (180 < 65536) && decide (sm_look sm_CI (12 * 65536 + 180) = none) && decide (sm_look sm_CS (12 * 65536 + 180) = some 46)) = true := by decide +kernel
theorem cs_12_181 : (decide (181 < 65536) && decide (sm_look sm_CI (12 * 65536 + 181) = none) && decide (sm_look sm_CS (12 * 65536 + 181) = some 47)) = true := by decide +kernel
theorem cs_12_183 : (decide (183 < 65536) && decide (sm_look sm_CI (12 * 65536 + 183) = none) && decide (sm_look sm_CS (12 * 65536 + 183) = some 48)) = true := by decide +kernel
theorem cs_12_185 : (decide (185 < 65536) && decide (sm_look sm_CI (12 * 65536 + 185) = none) && decide (sm_look sm_CS (12 * 65536 + 185) = some 49)) = true := by decide +kernel
theorem cs_12_253 : (decide (253 < 65536) && decide (sm_look sm_CI (12 * 65536 + 253) = none) && decide (sm_look sm_CS (12 * 65536 + 253) = some 50)) = true := by decide +kernel
theorem cs_12_259 : (decide (259 < 65536) && decide (sm_look sm_CI (12 * 65536 + 259) = none) && decide (sm_look sm_CS (12 * 65536 + 259) = some 51)) = true := by decide +kernel
theorem cs_12_279 : (decide (279 < 65536) && decide (sm_look sm_CI (12 * 65536 + 279) = none) && decide (sm_look sm_CS (12 * 65536 + 279) = some 52)) = true := by decide +kernel
theorem cs_12_293 : (decide (293 < 65536) && decide (sm_look sm_CI (12 * 65536 + 293) = none) && decide (sm_look sm_CS (12 * 65536 + 293) = some 53)) = true := by decide +kernel
theorem cs_12_298 : (decide (298 < 65536) && decide (sm_look sm_CI (12 * 65536 + 298) = none) && decide (sm_look sm_CS (12 * 65536 + 298) = some 54)) = true := by decide +kernel
theorem cs_12_300 : (decide (300 < 65536) && decide (sm_look sm_CI (12 * 65536 + 300) = none) && decide (sm_look sm_CS (12 * 65536 + 300) = some 55)) = true := by decide +kernel
theorem cs_12_302 : (decide (302 < 65536) && decide (sm_look sm_CI (12 * 65536 + 302) = none) && decide (sm_look sm_CS (12 * 65536 + 302) = some 56)) = true := by decide +kernel
theorem cs_12_304 : (decide (304 < 65536) && decide (sm_look sm_CI (12 * 65536 + 304) = none) && decide (sm_look sm_CS (12 * 65536 + 304) = some 57)) = true := by decide +kernel
theorem cs_12_306 : (decide (306 < 65536) && decide (sm_look sm_CI (12 * 65536 + 306) = none) && decide (sm_look sm_CS (12 * 65536 + 306) = some 58)) = true := by decide +kernel
theorem cs_12_323 : (decide (323 < 65536) && decide (sm_look sm_CI (12 * 65536 + 323) = none) && decide (sm_look sm_CS (12 * 65536 + 323) = some 59)) = true := by decide +kernel
theorem cs_12_335 : (decide (335 < 65536) && decide (sm_look sm_CI (12 * 65536 + 335) = none) && decide (sm_look sm_CS (12 * 65536 + 335) = some 60)) = true := by decide +kernel
theorem cs_12_390 : (decide (390 < 65536) && decide (sm_look sm_CI (12 * 65536 + 390) = none) && decide (sm_look sm_CS (12 * 65536 + 390) = some 61)) = true := by decide +kernel
theorem cs_12_395 : (decide (395 < 65536) && decide (sm_look sm_CI (12 * 65536 + 395) = none) && decide (sm_look sm_CS (12 * 65536 + 395) = some 62)) = true := by decide +kernel
theorem cs_12_397 : (decide (397 < 65536) && decide (sm_look sm_CI (12 * 65536 + 397) = none) && decide (sm_look sm_CS (12 * 65536 + 397) = some 63)) = true := by decide +kernel
theorem cs_12_541 : (decide (541 < 65536) && decide (sm_look sm_CI (12 * 65536 + 541) = none) && decide (sm_look sm_CS (12 * 65536 + 541) = some 64)) = true := by decide +kernel
theorem cs_12_552 : (decide (552 < 65536) && decide (sm_look sm_CI (12 * 65536 + 552) = none) && decide (sm_look sm_CS (12 * 65536 + 552) = some 65)) = true := by decide +kernel
theorem cs_12_557 : (decide (557 < 65536) && decide (sm_look sm_CI (12 * 65536 + 557) = none) && decide (sm_look sm_CS (12 * 65536 + 557) = some 66)) = true := by decide +kernel
theorem cs_12_559 : (decide (559 < 65536) && decide (sm_look sm_CI (12 * 65536 + 559) = none) && decide (sm_look sm_CS (12 * 65536 + 559) = some 67)) = true := by decide +kernel
theorem cs_12_564 : (decide (564 < 65536) && decide (sm_look sm_CI (12 * 65536 + 564) = none) && decide (sm_look sm_CS (12 * 65536 + 564) = some 68)) = true := by decide +kernel
theorem cs_12_569 : (decide (569 < 65536) && decide (sm_look sm_CI (12 * 65536 + 569) = none) && decide (sm_look sm_CS (12 * 65536 + 569) = some 69)) = true := by decide +kernel
theorem cs_12_583 : (decide (583 < 65536) && decide (sm_look sm_CI (12 * 65536 + 583) = none) && decide (sm_look sm_CS (12 * 65536 + 583) = some 70)) = true := by decide +kernel
theorem cs_3_177 : (decide (177 < 65536) && decide (sm_look sm_CI (3 * 65536 + 177) = none) && decide (sm_look sm_CS (3 * 65536 + 177) = some 12)) = true := by decide +kernel
theorem cs_3_183 : (decide (183 < 65536) && decide (sm_look sm_CI (3 * 65536 + 183) = none) && decide (sm_look sm_CS (3 * 65536 + 183) = some 13)) = true := by decide +kernel
theorem cs_3_185 : (decide (185 < 65536) && decide (sm_look sm_CI (3 * 65536 + 185) = none) && decide (sm_look sm_CS (3 * 65536 + 185) = some 14)) = true := by decide +kernel
theorem cs_3_187 : (decide (187 < 65536) && decide (sm_look sm_CI (3 * 65536 + 187) = none) && decide (sm_look sm_CS (3 * 65536 + 187) = some 15)) = true := by decide +kernel
theorem cs_3_189 : (decide (189 < 65536) && decide (sm_look sm_CI (3 * 65536 + 189) = none) && decide (sm_look sm_CS (3 * 65536 + 189) = some 16)) = true := by decide +kernel
theorem cs_3_190 : (decide (190 < 65536) && decide (sm_look sm_CI (3 * 65536 + 190) = none) && decide (sm_look sm_CS (3 * 65536 + 190) = some 17)) = true := by decide +kernel
theorem cs_4_104 : (decide (104 < 65536) && decide (sm_look sm_CI (4 * 65536 + 104) = none) && decide (sm_look sm_CS (4 * 65536 + 104) = some 27)) = true := by decide +kernel
theorem cs_4_134 : (decide (134 < 65536) && decide (sm_look sm_CI (4 * 65536 + 134) = none) && decide (sm_look sm_CS (4 * 65536 + 134) = some 28)) = true := by decide +kernel
theorem cs_4_147 : (decide (147 < 65536) && decide (sm_look sm_CI (4 * 65536 + 147) = none) && decide (sm_look sm_CS (4 * 65536 + 147) = some 29)) = true := by decide +kernel
theorem cs_4_153 : (decide (153 < 65536) && decide (sm_look sm_CI (4 * 65536 + 153) = none) && decide (sm_look sm_CS (4 * 65536 + 153) = some 30)) = true := by decide +kernel
theorem cs_4_155 : (decide (155 < 65536) && decide (sm_look sm_CI (4 * 65536 + 155) = none) && decide (sm_look sm_CS (4 * 65536 + 155) = some 31)) = true := by decide +kernel
theorem cs_4_157 : (decide (157 < 65536) && decide (sm_look sm_CI (4 * 65536 + 157) = none) && decide (sm_look sm_CS (4 * 65536 + 157) = some 32)) = true := by decide +kernel
theorem cs_4_159 : (decide (159 < 65536) && decide (sm_look sm_CI (4 * 65536 + 159) = none) && decide (sm_look sm_CS (4 * 65536 + 159) = some 33)) = true := by decide +kernel
theorem cs_4_29 : (decide (29 < 65536) && decide (sm_look sm_CI (4 * 65536 + 29) = none) && decide (sm_look sm_CS (4 * 65536 + 29) = some 24)) = true := by decide +kernel
theorem cs_4_35 : (decide (35 < 65536) && decide (sm_look sm_CI (4 * 65536 + 35) = none) && decide (sm_look sm_CS (4 * 65536 + 35) = some 25)) = true := by decide +kernel
theorem cs_4_78 : (decide (78 < 65536) && decide (sm_look sm_CI (4 * 65536 + 78) = none) && decide (sm_look sm_CS (4 * 65536 + 78) = some 26)) = true := by decide +kernel
theorem cs_5_73 : (decide (73 < 65536) && decide (sm_look sm_CI (5 * 65536 + 73) = none) && decide (sm_look sm_CS (5 * 65536 + 73) = some 10)) = true := by decide +kernel
theorem cs_5_89 : (decide (89 < 65536) && decide (sm_look sm_CI (5 * 65536 + 89) = none) && decide (sm_look sm_CS (5 * 65536 + 89) = some 11)) = true := by decide +kernel
theorem cs_6_81 : (decide (81 < 65536) && decide (sm_look sm_CI (6 * 65536 + 81) = none) && decide (sm_look sm_CS (6 * 65536 + 81) = some 7)) = true := by decide +kernel
theorem cs_7_102 : (decide (102 < 65536) && decide (sm_look sm_CI (7 * 65536 + 102) = none) && decide (sm_look sm_CS (7 * 65536 + 102) = some 9)) = true := by decide +kernel
theorem cs_7_85 : (decide (85 < 65536) && decide (sm_look sm_CI (7 * 65536 + 85) = none) && decide (sm_look sm_CS (7 * 65536 + 85) = some 8)) = true := by decide +kernel
theorem cs_8_88 : (decide (88 < 65536) && decide (sm_look sm_CI (8 * 65536 + 88) = none) && decide (sm_look sm_CS (8 * 65536 + 88) = some 18)) = true := by decide +kernel
theorem cs_8_94 : (decide (94 < 65536) && decide (sm_look sm_CI (8 * 65536 + 94) = none) && decide (sm_look sm_CS (8 * 65536 + 94) = some 19)) = true := by decide +kernel
theorem cs_8_96 : (decide (96 < 65536) && decide (sm_look sm_CI (8 * 65536 + 96) = none) && decide (sm_look sm_CS (8 * 65536 + 96) = some 20)) = true := by decide +kernel
theorem fk_0_101 : sm_fk 0 101 11 6 = true := by decide +kernel
theorem fk_0_104 : sm_fk 0 104 11 8 = true := by decide +kernel
theorem fk_0_12 : sm_fk 0 12 0 0 = true := by decide +kernel
theorem fk_0_130 : sm_fk 0 130 11 4 = true := by decide +kernel
theorem fk_0_146 : sm_fk 0 146 11 13 = true := by decide +kernel
theorem fk_0_150 : sm_fk 0 150 11 14 = true := by decide +kernel
theorem fk_0_167 : sm_fk 0 167 10 0 = true := by decide +kernel
theorem fk_0_28 : sm_fk 0 28 0 2 = true := by decide +kernel
theorem fk_0_35 : sm_fk 0 35 0 3 = true := by decide +kernel
theorem fk_0_42 : sm_fk 0 42 1 0 = true := by decide +kernel
theorem fk_0_46 : sm_fk 0 46 2 1 = true := by decide +kernel
theorem fk_0_75 : sm_fk 0 75 11 11 = true := by decide +kernel
theorem fk_0_81 : sm_fk 0 81 11 3 = true := by decide +kernel
theorem fk_0_89 : sm_fk 0 89 11 5 = true := by decide +kernel
theorem fk_0_98 : sm_fk 0 98 11 7 = true := by decide +kernel
theorem fk_1_14 : sm_fk 1 14 1 0 = true := by decide +kernel
theorem fk_1_40 : sm_fk 1 40 1 2 = true := by decide +kernel
theorem fk_1_43 : sm_fk 1 43 2 1 = true := by decide +kernel
theorem fk_1_49 : sm_fk 1 49 1 3 = true := by decide +kernel
theorem fk_1_55 : sm_fk 1 55 2 0 = true := by decide +kernel
theorem fk_1_59 : sm_fk 1 59 1 4 = true := by decide +kernel
theorem fk_10_110 : sm_fk 10 110 11 0 = true := by decide +kernel
theorem fk_10_135 : sm_fk 10 135 11 6 = true := by decide +kernel
theorem fk_10_14 : sm_fk 10 14 10 0 = true := by decide +kernel
theorem fk_10_24 : sm_fk 10 24 11 11 = true := by decide +kernel
theorem fk_10_29 : sm_fk 10 29 11 3 = true := by decide +kernel
theorem fk_10_46 : sm_fk 10 46 11 8 = true := by decide +kernel
theorem fk_10_79 : sm_fk 10 79 11 5 = true := by decide +kernel
theorem fk_10_86 : sm_fk 10 86 11 4 = true := by decide +kernel
theorem fk_11_16 : sm_fk 11 16 11 0 = true := by decide +kernel
theorem fk_11_20 : sm_fk 11 20 11 1 = true := by decide +kernel
theorem fk_11_24 : sm_fk 11 24 11 2 = true := by decide +kernel
theorem fk_11_27 : sm_fk 11 27 11 3 = true := by decide +kernel
theorem fk_11_30 : sm_fk 11 30 11 4 = true := by decide +kernel
theorem fk_11_33 : sm_fk 11 33 11 5 = true := by decide +kernel
theorem fk_11_36 : sm_fk 11 36 11 6 = true := by decide +kernel
theorem fk_11_39 : sm_fk 11 39 11 7 = true := by decide +kernel
theorem fk_11_42 : sm_fk 11 42 11 8 = true := by decide +kernel
theorem fk_11_46 : sm_fk 11 46 11 9 = true := by decide +kernel
theorem fk_11_49 : sm_fk 11 49 11 10 = true := by decide +kernel
theorem fk_11_52 : sm_fk 11 52 2 1 = true := by decide +kernel
theorem fk_11_62 : sm_fk 11 62 11 11 = true := by decide +kernel
theorem fk_11_65 : sm_fk 11 65 11 12 = true := by decide +kernel
theorem fk_11_88 : sm_fk 11 88 2 0 = true := by decide +kernel
theorem fk_12_103 : sm_fk 12 103 12 44 = true := by decide +kernel
theorem fk_12_106 : sm_fk 12 106 12 52 = true := by decide +kernel
theorem fk_12_109 : sm_fk 12 109 12 56 = true := by decide +kernel
theorem fk_12_112 : sm_fk 12 112 12 58 = true := by decide +kernel
theorem fk_12_115 : sm_fk 12 115 12 61 = true := by decide +kernel
theorem fk_12_118 : sm_fk 12 118 12 62 = true := by decide +kernel
theorem fk_12_121 : sm_fk 12 121 12 63 = true := by decide +kernel
theorem fk_12_124 : sm_fk 12 124 12 64 = true := by decide +kernel
theorem fk_12_127 : sm_fk 12 127 12 68 = true := by decide +kernel
theorem fk_12_13 : sm_fk 12 13 12 3 = true := by decide +kernel
theorem fk_12_130 : sm_fk 12 130 12 0 = true := by decide +kernel
theorem fk_12_134 : sm_fk 12 134 12 8 = true := by decide +kernel
theorem fk_12_141 : sm_fk 12 141 12 2 = true := by decide +kernel
theorem fk_12_148 : sm_fk 12 148 12 4 = true := by decide +kernel
theorem fk_12_16 : sm_fk 12 16 12 5 = true := by decide +kernel
theorem fk_12_187 : sm_fk 12 187 12 28 = true := by decide +kernel
theorem fk_12_19 : sm_fk 12 19 12 10 = true := by decide +kernel
theorem fk_12_190 : sm_fk 12 190 12 45 = true := by decide +kernel
theorem fk_12_208 : sm_fk 12 208 12 46 = true := by decide +kernel
theorem fk_12_211 : sm_fk 12 211 12 47 = true := by decide +kernel
theorem fk_12_23 : sm_fk 12 23 12 11 = true := by decide +kernel
theorem fk_12_232 : sm_fk 12 232 12 20 = true := by decide +kernel
theorem fk_12_235 : sm_fk 12 235 12 50 = true := by decide +kernel
theorem fk_12_238 : sm_fk 12 238 12 48 = true := by decide +kernel
theorem fk_12_250 : sm_fk 12 250 12 49 = true := by decide +kernel
theorem fk_12_26 : sm_fk 12 26 12 12 = true := by decide +kernel
theorem fk_12_29 : sm_fk 12 29 12 13 = true := by decide +kernel
theorem fk_12_308 : sm_fk 12 308 12 51 = true := by decide +kernel
theorem fk_12_33 : sm_fk 12 33 12 14 = true := by decide +kernel
theorem fk_12_348 : sm_fk 12 348 12 39 = true := by decide +kernel
theorem fk_12_357 : sm_fk 12 357 12 38 = true := by decide +kernel
theorem fk_12_36 : sm_fk 12 36 12 15 = true := by decide +kernel
theorem fk_12_364 : sm_fk 12 364 12 53 = true := by decide +kernel
theorem fk_12_380 : sm_fk 12 380 12 54 = true := by decide +kernel
theorem fk_12_384 : sm_fk 12 384 12 55 = true := by decide +kernel
theorem fk_12_39 : sm_fk 12 39 12 16 = true := by decide +kernel
theorem fk_12_399 : sm_fk 12 399 12 59 = true := by decide +kernel
theorem fk_12_402 : sm_fk 12 402 12 57 = true := by decide +kernel
theorem fk_12_42 : sm_fk 12 42 12 17 = true := by decide +kernel
theorem fk_12_420 : sm_fk 12 420 12 36 = true := by decide +kernel
theorem fk_12_45 : sm_fk 12 45 12 18 = true := by decide +kernel
theorem fk_12_462 : sm_fk 12 462 12 9 = true := by decide +kernel
theorem fk_12_465 : sm_fk 12 465 12 34 = true := by decide +kernel
theorem fk_12_477 : sm_fk 12 477 12 60 = true := by decide +kernel
theorem fk_12_48 : sm_fk 12 48 12 19 = true := by decide +kernel
theorem fk_12_483 : sm_fk 12 483 12 67 = true := by decide +kernel
theorem fk_12_486 : sm_fk 12 486 12 65 = true := by decide +kernel
theorem fk_12_489 : sm_fk 12 489 12 66 = true := by decide +kernel
theorem fk_12_51 : sm_fk 12 51 12 21 = true := by decide +kernel
theorem fk_12_516 : sm_fk 12 516 12 6 = true := by decide +kernel
theorem fk_12_519 : sm_fk 12 519 12 7 = true := by decide +kernel
theorem fk_12_535 : sm_fk 12 535 12 43 = true := by decide +kernel
theorem fk_12_54 : sm_fk 12 54 12 22 = true := by decide +kernel
theorem fk_12_57 : sm_fk 12 57 12 23 = true := by decide +kernel
theorem fk_12_60 : sm_fk 12 60 12 24 = true := by decide +kernel
theorem fk_12_63 : sm_fk 12 63 12 25 = true := by decide +kernel
theorem fk_12_66 : sm_fk 12 66 12 26 = true := by decide +kernel
theorem fk_12_69 : sm_fk 12 69 12 27 = true := by decide +kernel
theorem fk_12_7 : sm_fk 12 7 12 1 = true := by decide +kernel
theorem fk_12_72 : sm_fk 12 72 12 29 = true := by decide +kernel
theorem fk_12_75 : sm_fk 12 75 12 30 = true := by decide +kernel
theorem fk_12_78 : sm_fk 12 78 12 31 = true := by decide +kernel
theorem fk_12_81 : sm_fk 12 81 12 32 = true := by decide +kernel
theorem fk_12_84 : sm_fk 12 84 12 33 = true := by decide +kernel
theorem fk_12_87 : sm_fk 12 87 12 35 = true := by decide +kernel
theorem fk_12_90 : sm_fk 12 90 12 37 = true := by decide +kernel
theorem fk_12_93 : sm_fk 12 93 12 40 = true := by decide +kernel
theorem fk_12_96 : sm_fk 12 96 12 41 = true := by decide +kernel
theorem fk_12_99 : sm_fk 12 99 12 42 = true := by decide +kernel
theorem fk_13_15 : sm_fk 13 15 13 1 = true := by decide +kernel
theorem fk_13_9 : sm_fk 13 9 13 0 = true := by decide +kernel
theorem fk_2_15 : sm_fk 2 15 2 0 = true := by decide +kernel
theorem fk_2_21 : sm_fk 2 21 2 1 = true := by decide +kernel
theorem fk_3_101 : sm_fk 3 101 11 8 = true := by decide +kernel
theorem fk_3_117 : sm_fk 3 117 1 0 = true := by decide +kernel
theorem fk_3_123 : sm_fk 3 123 2 1 = true := by decide +kernel
theorem fk_3_135 : sm_fk 3 135 11 12 = true := by decide +kernel
theorem fk_3_15 : sm_fk 3 15 3 2 = true := by decide +kernel
theorem fk_3_161 : sm_fk 3 161 11 0 = true := by decide +kernel
theorem fk_3_18 : sm_fk 3 18 3 0 = true := by decide +kernel
theorem fk_3_197 : sm_fk 3 197 11 5 = true := by decide +kernel
theorem fk_3_206 : sm_fk 3 206 9 6 = true := by decide +kernel
theorem fk_3_215 : sm_fk 3 215 11 4 = true := by decide +kernel
theorem fk_3_27 : sm_fk 3 27 3 3 = true := by decide +kernel
theorem fk_3_34 : sm_fk 3 34 3 4 = true := by decide +kernel
theorem fk_3_41 : sm_fk 3 41 3 5 = true := by decide +kernel
theorem fk_3_48 : sm_fk 3 48 3 7 = true := by decide +kernel
theorem fk_3_57 : sm_fk 3 57 3 6 = true := by decide +kernel
theorem fk_3_64 : sm_fk 3 64 3 8 = true := by decide +kernel
theorem fk_3_79 : sm_fk 3 79 9 7 = true := by decide +kernel
theorem fk_3_87 : sm_fk 3 87 9 8 = true := by decide +kernel
theorem fk_3_9 : sm_fk 3 9 3 1 = true := by decide +kernel
theorem fk_3_90 : sm_fk 3 90 9 9 = true := by decide +kernel
theorem fk_4_144 : sm_fk 4 144 11 7 = true := by decide +kernel
theorem fk_4_15 : sm_fk 4 15 4 1 = true := by decide +kernel
theorem fk_4_42 : sm_fk 4 42 1 2 = true := by decide +kernel
theorem fk_4_53 : sm_fk 4 53 1 4 = true := by decide +kernel
theorem fk_4_70 : sm_fk 4 70 11 6 = true := by decide +kernel
theorem fk_4_74 : sm_fk 4 74 11 8 = true := by decide +kernel
theorem fk_4_9 : sm_fk 4 9 4 0 = true := by decide +kernel
theorem fk_4_95 : sm_fk 4 95 11 0 = true := by decide +kernel
theorem fk_4_99 : sm_fk 4 99 2 1 = true := by decide +kernel
theorem fk_5_110 : sm_fk 5 110 1 0 = true := by decide +kernel
theorem fk_5_20 : sm_fk 5 20 1 2 = true := by decide +kernel
theorem fk_5_66 : sm_fk 5 66 1 4 = true := by decide +kernel
theorem fk_5_9 : sm_fk 5 9 5 0 = true := by decide +kernel
theorem fk_6_20 : sm_fk 6 20 1 2 = true := by decide +kernel
theorem fk_6_51 : sm_fk 6 51 1 4 = true := by decide +kernel
theorem fk_6_54 : sm_fk 6 54 11 0 = true := by decide +kernel
theorem fk_6_58 : sm_fk 6 58 2 1 = true := by decide +kernel
theorem fk_6_9 : sm_fk 6 9 6 0 = true := by decide +kernel
theorem fk_7_15 : sm_fk 7 15 11 0 = true := by decide +kernel
theorem fk_7_21 : sm_fk 7 21 2 1 = true := by decide +kernel
theorem fk_7_31 : sm_fk 7 31 11 7 = true := by decide +kernel
theorem fk_7_54 : sm_fk 7 54 1 0 = true := by decide +kernel
theorem fk_7_76 : sm_fk 7 76 7 2 = true := by decide +kernel
theorem fk_7_79 : sm_fk 7 79 7 1 = true := by decide +kernel
theorem fk_7_82 : sm_fk 7 82 7 3 = true := by decide +kernel
theorem fk_7_9 : sm_fk 7 9 7 0 = true := by decide +kernel
theorem fk_8_107 : sm_fk 8 107 7 2 = true := by decide +kernel
theorem fk_8_14 : sm_fk 8 14 8 1 = true := by decide +kernel
theorem fk_8_20 : sm_fk 8 20 8 0 = true := by decide +kernel
theorem fk_8_24 : sm_fk 8 24 11 0 = true := by decide +kernel
theorem fk_8_36 : sm_fk 8 36 2 1 = true := by decide +kernel
theorem fk_9_15 : sm_fk 9 15 9 2 = true := by decide +kernel
theorem fk_9_18 : sm_fk 9 18 9 3 = true := by decide +kernel
theorem fk_9_21 : sm_fk 9 21 9 4 = true := by decide +kernel
theorem fk_9_24 : sm_fk 9 24 9 5 = true := by decide +kernel
theorem fk_9_28 : sm_fk 9 28 9 0 = true := by decide +kernel
theorem fk_9_32 : sm_fk 9 32 9 6 = true := by decide +kernel
theorem fk_9_39 : sm_fk 9 39 9 8 = true := by decide +kernel
theorem fk_9_42 : sm_fk 9 42 1 0 = true := by decide +kernel
theorem fk_9_48 : sm_fk 9 48 2 1 = true := by decide +kernel
theorem fk_9_53 : sm_fk 9 53 9 9 = true := by decide +kernel
theorem fk_9_64 : sm_fk 9 64 11 11 = true := by decide +kernel
theorem fk_9_9 : sm_fk 9 9 9 1 = true := by decide +kernel
theorem gs_13_1053 : (decide (1053 < 65536) && decide (sm_look sm_GS (13 * 65536 + 1053) = some 1) && decide (1 < 3)) = true := by decide +kernel
theorem gs_13_38 : (decide (38 < 65536) && decide (sm_look sm_GS (13 * 65536 + 38) = some 0) && decide (0 < 3)) = true := by decide +kernel
theorem gs_5_99 : (decide (99 < 65536) && decide (sm_look sm_GS (5 * 65536 + 99) = some 2) && decide (2 < 3)) = true := by decide +kernel
theorem lk_0_113 : sm_lk 0 113 150 = true := by decide +kernel
theorem lk_0_117 : sm_lk 0 117 11 = true := by decide +kernel
theorem lk_0_121 : sm_lk 0 121 139 = true := by decide +kernel
theorem lk_0_124 : sm_lk 0 124 15 = true := by decide +kernel
theorem lk_0_127 : sm_lk 0 127 129 = true := by decide +kernel
theorem lk_0_133 : sm_lk 0 133 130 = true := by decide +kernel
theorem lk_0_136 : sm_lk 0 136 17 = true := by decide +kernel
theorem lk_0_139 : sm_lk 0 139 133 = true := by decide +kernel
theorem lk_0_142 : sm_lk 0 142 136 = true := by decide +kernel
theorem lk_0_153 : sm_lk 0 153 23 = true := by decide +kernel
theorem lk_0_156 : sm_lk 0 156 151 = true := by decide +kernel
theorem lk_0_159 : sm_lk 0 159 145 = true := by decide +kernel
theorem lk_0_164 : sm_lk 0 164 110 = true := by decide +kernel
theorem lk_0_170 : sm_lk 0 170 42 = true := by decide +kernel
theorem lk_0_175 : sm_lk 0 175 46 = true := by decide +kernel
theorem lk_0_183 : sm_lk 0 183 265 = true := by decide +kernel
theorem lk_0_59 : sm_lk 0 59 40 = true := by decide +kernel
theorem lk_0_78 : sm_lk 0 78 10 = true := by decide +kernel
theorem lk_0_85 : sm_lk 0 85 148 = true := by decide +kernel
theorem lk_0_92 : sm_lk 0 92 147 = true := by decide +kernel
theorem lk_0_95 : sm_lk 0 95 138 = true := by decide +kernel
theorem lk_1_20 : sm_lk 1 20 44 = true := by decide +kernel
theorem lk_1_34 : sm_lk 1 34 283 = true := by decide +kernel
theorem lk_1_46 : sm_lk 1 46 284 = true := by decide +kernel
theorem lk_1_52 : sm_lk 1 52 31 = true := by decide +kernel
theorem lk_1_62 : sm_lk 1 62 29 = true := by decide +kernel
theorem lk_1_65 : sm_lk 1 65 3 = true := by decide +kernel
theorem lk_1_69 : sm_lk 1 69 33 = true := by decide +kernel
theorem lk_1_72 : sm_lk 1 72 4 = true := by decide +kernel
theorem lk_1_78 : sm_lk 1 78 34 = true := by decide +kernel
theorem lk_1_82 : sm_lk 1 82 6 = true := by decide +kernel
theorem lk_10_100 : sm_lk 10 100 117 = true := by decide +kernel
theorem lk_10_104 : sm_lk 10 104 143 = true := by decide +kernel
theorem lk_10_107 : sm_lk 10 107 144 = true := by decide +kernel
theorem lk_10_113 : sm_lk 10 113 45 = true := by decide +kernel
theorem lk_10_117 : sm_lk 10 117 42 = true := by decide +kernel
theorem lk_10_120 : sm_lk 10 120 283 = true := by decide +kernel
theorem lk_10_127 : sm_lk 10 127 133 = true := by decide +kernel
theorem lk_10_132 : sm_lk 10 132 142 = true := by decide +kernel
theorem lk_10_140 : sm_lk 10 140 136 = true := by decide +kernel
theorem lk_10_146 : sm_lk 10 146 119 = true := by decide +kernel
theorem lk_10_151 : sm_lk 10 151 139 = true := by decide +kernel
theorem lk_10_154 : sm_lk 10 154 121 = true := by decide +kernel
theorem lk_10_158 : sm_lk 10 158 122 = true := by decide +kernel
theorem lk_10_163 : sm_lk 10 163 262 = true := by decide +kernel
theorem lk_10_169 : sm_lk 10 169 260 = true := by decide +kernel
theorem lk_10_33 : sm_lk 10 33 111 = true := by decide +kernel
theorem lk_10_36 : sm_lk 10 36 114 = true := by decide +kernel
theorem lk_10_39 : sm_lk 10 39 115 = true := by decide +kernel
theorem lk_10_43 : sm_lk 10 43 118 = true := by decide +kernel
theorem lk_10_52 : sm_lk 10 52 112 = true := by decide +kernel
theorem lk_10_56 : sm_lk 10 56 147 = true := by decide +kernel
theorem lk_10_60 : sm_lk 10 60 120 = true := by decide +kernel
theorem lk_10_63 : sm_lk 10 63 123 = true := by decide +kernel
theorem lk_10_66 : sm_lk 10 66 149 = true := by decide +kernel
theorem lk_10_71 : sm_lk 10 71 113 = true := by decide +kernel
theorem lk_10_76 : sm_lk 10 76 44 = true := by decide +kernel
theorem lk_10_82 : sm_lk 10 82 129 = true := by decide +kernel
theorem lk_10_89 : sm_lk 10 89 130 = true := by decide +kernel
theorem lk_10_92 : sm_lk 10 92 116 = true := by decide +kernel
theorem lk_10_97 : sm_lk 10 97 138 = true := by decide +kernel
theorem lk_11_105 : sm_lk 11 105 262 = true := by decide +kernel
theorem lk_11_109 : sm_lk 11 109 44 = true := by decide +kernel
theorem lk_11_112 : sm_lk 11 112 140 = true := by decide +kernel
theorem lk_11_115 : sm_lk 11 115 42 = true := by decide +kernel
theorem lk_11_118 : sm_lk 11 118 138 = true := by decide +kernel
theorem lk_11_121 : sm_lk 11 121 43 = true := by decide +kernel
theorem lk_11_125 : sm_lk 11 125 139 = true := by decide +kernel
theorem lk_11_128 : sm_lk 11 128 45 = true := by decide +kernel
theorem lk_11_132 : sm_lk 11 132 3 = true := by decide +kernel
theorem lk_11_135 : sm_lk 11 135 149 = true := by decide +kernel
theorem lk_11_138 : sm_lk 11 138 136 = true := by decide +kernel
theorem lk_11_144 : sm_lk 11 144 141 = true := by decide +kernel
theorem lk_11_56 : sm_lk 11 56 291 = true := by decide +kernel
theorem lk_11_75 : sm_lk 11 75 128 = true := by decide +kernel
theorem lk_11_79 : sm_lk 11 79 129 = true := by decide +kernel
theorem lk_11_83 : sm_lk 11 83 283 = true := by decide +kernel
theorem lk_11_91 : sm_lk 11 91 2 = true := by decide +kernel
theorem lk_11_95 : sm_lk 11 95 131 = true := by decide +kernel
theorem lk_11_99 : sm_lk 11 99 260 = true := by decide +kernel
theorem lk_12_137 : sm_lk 12 137 157 = true := by decide +kernel
theorem lk_12_144 : sm_lk 12 144 155 = true := by decide +kernel
theorem lk_12_151 : sm_lk 12 151 161 = true := by decide +kernel
theorem lk_12_155 : sm_lk 12 155 162 = true := by decide +kernel
theorem lk_12_159 : sm_lk 12 159 260 = true := by decide +kernel
theorem lk_12_165 : sm_lk 12 165 168 = true := by decide +kernel
theorem lk_12_168 : sm_lk 12 168 262 = true := by decide +kernel
theorem lk_12_174 : sm_lk 12 174 167 = true := by decide +kernel
theorem lk_12_193 : sm_lk 12 193 165 = true := by decide +kernel
theorem lk_12_197 : sm_lk 12 197 166 = true := by decide +kernel
theorem lk_12_200 : sm_lk 12 200 169 = true := by decide +kernel
theorem lk_12_204 : sm_lk 12 204 170 = true := by decide +kernel
theorem lk_12_214 : sm_lk 12 214 177 = true := by decide +kernel
theorem lk_12_217 : sm_lk 12 217 179 = true := by decide +kernel
theorem lk_12_220 : sm_lk 12 220 180 = true := by decide +kernel
theorem lk_12_223 : sm_lk 12 223 181 = true := by decide +kernel
theorem lk_12_226 : sm_lk 12 226 185 = true := by decide +kernel
theorem lk_12_229 : sm_lk 12 229 186 = true := by decide +kernel
theorem lk_12_241 : sm_lk 12 241 183 = true := by decide +kernel
theorem lk_12_244 : sm_lk 12 244 184 = true := by decide +kernel
theorem lk_12_247 : sm_lk 12 247 173 = true := by decide +kernel
theorem lk_12_255 : sm_lk 12 255 172 = true := by decide +kernel
theorem lk_12_260 : sm_lk 12 260 176 = true := by decide +kernel
theorem lk_12_263 : sm_lk 12 263 178 = true := by decide +kernel
theorem lk_12_266 : sm_lk 12 266 182 = true := by decide +kernel
theorem lk_12_270 : sm_lk 12 270 187 = true := by decide +kernel
theorem lk_12_273 : sm_lk 12 273 188 = true := by decide +kernel
theorem lk_12_276 : sm_lk 12 276 191 = true := by decide +kernel
theorem lk_12_281 : sm_lk 12 281 192 = true := by decide +kernel
theorem lk_12_284 : sm_lk 12 284 193 = true := by decide +kernel
theorem lk_12_287 : sm_lk 12 287 189 = true := by decide +kernel
theorem lk_12_290 : sm_lk 12 290 190 = true := by decide +kernel
theorem lk_12_295 : sm_lk 12 295 194 = true := by decide +kernel
theorem lk_12_311 : sm_lk 12 311 203 = true := by decide +kernel
theorem lk_12_316 : sm_lk 12 316 202 = true := by decide +kernel
theorem lk_12_321 : sm_lk 12 321 197 = true := by decide +kernel
theorem lk_12_325 : sm_lk 12 325 198 = true := by decide +kernel
theorem lk_12_329 : sm_lk 12 329 199 = true := by decide +kernel
theorem lk_12_332 : sm_lk 12 332 200 = true := by decide +kernel
theorem lk_12_337 : sm_lk 12 337 201 = true := by decide +kernel
theorem lk_12_340 : sm_lk 12 340 204 = true := by decide +kernel
theorem lk_12_361 : sm_lk 12 361 206 = true := by decide +kernel
theorem lk_12_367 : sm_lk 12 367 207 = true := by decide +kernel
theorem lk_12_371 : sm_lk 12 371 208 = true := by decide +kernel
theorem lk_12_374 : sm_lk 12 374 210 = true := by decide +kernel
theorem lk_12_377 : sm_lk 12 377 209 = true := by decide +kernel
theorem lk_12_387 : sm_lk 12 387 214 = true := by decide +kernel
theorem lk_12_392 : sm_lk 12 392 215 = true := by decide +kernel
theorem lk_12_405 : sm_lk 12 405 216 = true := by decide +kernel
theorem lk_12_409 : sm_lk 12 409 219 = true := by decide +kernel
theorem lk_12_412 : sm_lk 12 412 217 = true := by decide +kernel
theorem lk_12_415 : sm_lk 12 415 218 = true := by decide +kernel
theorem lk_12_417 : sm_lk 12 417 220 = true := by decide +kernel
theorem lk_12_424 : sm_lk 12 424 221 = true := by decide +kernel
theorem lk_12_427 : sm_lk 12 427 223 = true := by decide +kernel
theorem lk_12_430 : sm_lk 12 430 224 = true := by decide +kernel
theorem lk_12_437 : sm_lk 12 437 212 = true := by decide +kernel
theorem lk_12_440 : sm_lk 12 440 213 = true := by decide +kernel
theorem lk_12_443 : sm_lk 12 443 222 = true := by decide +kernel
theorem lk_12_446 : sm_lk 12 446 175 = true := by decide +kernel
theorem lk_12_450 : sm_lk 12 450 195 = true := by decide +kernel
theorem lk_12_453 : sm_lk 12 453 196 = true := by decide +kernel
theorem lk_12_456 : sm_lk 12 456 205 = true := by decide +kernel
theorem lk_12_459 : sm_lk 12 459 211 = true := by decide +kernel
theorem lk_12_468 : sm_lk 12 468 164 = true := by decide +kernel
theorem lk_12_471 : sm_lk 12 471 171 = true := by decide +kernel
theorem lk_12_474 : sm_lk 12 474 174 = true := by decide +kernel
theorem lk_12_480 : sm_lk 12 480 225 = true := by decide +kernel
theorem lk_12_492 : sm_lk 12 492 160 = true := by decide +kernel
theorem lk_12_495 : sm_lk 12 495 163 = true := by decide +kernel
theorem lk_12_498 : sm_lk 12 498 229 = true := by decide +kernel
theorem lk_12_501 : sm_lk 12 501 230 = true := by decide +kernel
theorem lk_12_504 : sm_lk 12 504 226 = true := by decide +kernel
theorem lk_12_507 : sm_lk 12 507 227 = true := by decide +kernel
theorem lk_12_510 : sm_lk 12 510 228 = true := by decide +kernel
theorem lk_12_513 : sm_lk 12 513 159 = true := by decide +kernel
theorem lk_12_522 : sm_lk 12 522 232 = true := by decide +kernel
theorem lk_12_525 : sm_lk 12 525 233 = true := by decide +kernel
theorem lk_12_528 : sm_lk 12 528 237 = true := by decide +kernel
theorem lk_12_531 : sm_lk 12 531 239 = true := by decide +kernel
theorem lk_12_538 : sm_lk 12 538 250 = true := by decide +kernel
theorem lk_12_543 : sm_lk 12 543 249 = true := by decide +kernel
theorem lk_12_546 : sm_lk 12 546 252 = true := by decide +kernel
theorem lk_12_549 : sm_lk 12 549 254 = true := by decide +kernel
theorem lk_12_554 : sm_lk 12 554 255 = true := by decide +kernel
theorem lk_12_561 : sm_lk 12 561 251 = true := by decide +kernel
theorem lk_12_566 : sm_lk 12 566 257 = true := by decide +kernel
theorem lk_12_571 : sm_lk 12 571 247 = true := by decide +kernel
theorem lk_12_574 : sm_lk 12 574 248 = true := by decide +kernel
theorem lk_12_577 : sm_lk 12 577 253 = true := by decide +kernel
theorem lk_12_580 : sm_lk 12 580 256 = true := by decide +kernel
theorem lk_13_1059 : sm_lk 13 1059 290 = true := by decide +kernel
theorem lk_13_335 : sm_lk 13 335 261 = true := by decide +kernel
theorem lk_13_492 : sm_lk 13 492 263 = true := by decide +kernel
theorem lk_13_495 : sm_lk 13 495 286 = true := by decide +kernel
theorem lk_13_505 : sm_lk 13 505 260 = true := by decide +kernel
theorem lk_13_633 : sm_lk 13 633 266 = true := by decide +kernel
theorem lk_13_637 : sm_lk 13 637 287 = true := by decide +kernel
theorem lk_16_38 : sm_lk 16 38 284 = true := by decide +kernel
theorem lk_16_88 : sm_lk 16 88 288 = true := by decide +kernel
theorem lk_16_9 : sm_lk 16 9 264 = true := by decide +kernel
theorem lk_16_92 : sm_lk 16 92 283 = true := by decide +kernel
theorem lk_16_95 : sm_lk 16 95 289 = true := by decide +kernel
theorem lk_2_25 : sm_lk 2 25 284 = true := by decide +kernel
theorem lk_2_34 : sm_lk 2 34 42 = true := by decide +kernel
theorem lk_2_38 : sm_lk 2 38 3 = true := by decide +kernel
theorem lk_2_42 : sm_lk 2 42 260 = true := by decide +kernel
theorem lk_2_48 : sm_lk 2 48 2 = true := by decide +kernel
theorem lk_2_51 : sm_lk 2 51 262 = true := by decide +kernel
theorem lk_3_105 : sm_lk 3 105 103 = true := by decide +kernel
theorem lk_3_109 : sm_lk 3 109 85 = true := by decide +kernel
theorem lk_3_113 : sm_lk 3 113 108 = true := by decide +kernel
theorem lk_3_128 : sm_lk 3 128 42 = true := by decide +kernel
theorem lk_3_132 : sm_lk 3 132 29 = true := by decide +kernel
theorem lk_3_138 : sm_lk 3 138 51 = true := by decide +kernel
theorem lk_3_142 : sm_lk 3 142 53 = true := by decide +kernel
theorem lk_3_145 : sm_lk 3 145 55 = true := by decide +kernel
theorem lk_3_149 : sm_lk 3 149 52 = true := by decide +kernel
theorem lk_3_153 : sm_lk 3 153 54 = true := by decide +kernel
theorem lk_3_157 : sm_lk 3 157 127 = true := by decide +kernel
theorem lk_3_164 : sm_lk 3 164 44 = true := by decide +kernel
theorem lk_3_167 : sm_lk 3 167 130 = true := by decide +kernel
theorem lk_3_170 : sm_lk 3 170 131 = true := by decide +kernel
theorem lk_3_174 : sm_lk 3 174 132 = true := by decide +kernel
theorem lk_3_179 : sm_lk 3 179 43 = true := by decide +kernel
theorem lk_3_191 : sm_lk 3 191 3 = true := by decide +kernel
theorem lk_3_194 : sm_lk 3 194 58 = true := by decide +kernel
theorem lk_3_200 : sm_lk 3 200 129 = true := by decide +kernel
theorem lk_3_203 : sm_lk 3 203 30 = true := by decide +kernel
theorem lk_3_209 : sm_lk 3 209 59 = true := by decide +kernel
theorem lk_3_212 : sm_lk 3 212 63 = true := by decide +kernel
theorem lk_3_218 : sm_lk 3 218 91 = true := by decide +kernel
theorem lk_3_221 : sm_lk 3 221 67 = true := by decide +kernel
theorem lk_3_225 : sm_lk 3 225 77 = true := by decide +kernel
theorem lk_3_228 : sm_lk 3 228 65 = true := by decide +kernel
theorem lk_3_68 : sm_lk 3 68 49 = true := by decide +kernel
theorem lk_3_71 : sm_lk 3 71 125 = true := by decide +kernel
theorem lk_3_76 : sm_lk 3 76 102 = true := by decide +kernel
theorem lk_3_83 : sm_lk 3 83 126 = true := by decide +kernel
theorem lk_3_93 : sm_lk 3 93 50 = true := by decide +kernel
theorem lk_3_97 : sm_lk 3 97 56 = true := by decide +kernel
theorem lk_4_106 : sm_lk 4 106 34 = true := by decide +kernel
theorem lk_4_110 : sm_lk 4 110 135 = true := by decide +kernel
theorem lk_4_114 : sm_lk 4 114 136 = true := by decide +kernel
theorem lk_4_118 : sm_lk 4 118 137 = true := by decide +kernel
theorem lk_4_121 : sm_lk 4 121 36 = true := by decide +kernel
theorem lk_4_125 : sm_lk 4 125 131 = true := by decide +kernel
theorem lk_4_128 : sm_lk 4 128 138 = true := by decide +kernel
theorem lk_4_131 : sm_lk 4 131 139 = true := by decide +kernel
theorem lk_4_136 : sm_lk 4 136 4 = true := by decide +kernel
theorem lk_4_140 : sm_lk 4 140 64 = true := by decide +kernel
theorem lk_4_149 : sm_lk 4 149 43 = true := by decide +kernel
theorem lk_4_19 : sm_lk 4 19 127 = true := by decide +kernel
theorem lk_4_25 : sm_lk 4 25 133 = true := by decide +kernel
theorem lk_4_31 : sm_lk 4 31 134 = true := by decide +kernel
theorem lk_4_37 : sm_lk 4 37 32 = true := by decide +kernel
theorem lk_4_45 : sm_lk 4 45 60 = true := by decide +kernel
theorem lk_4_49 : sm_lk 4 49 35 = true := by decide +kernel
theorem lk_4_56 : sm_lk 4 56 31 = true := by decide +kernel
theorem lk_4_59 : sm_lk 4 59 61 = true := by decide +kernel
theorem lk_4_63 : sm_lk 4 63 37 = true := by decide +kernel
theorem lk_4_66 : sm_lk 4 66 128 = true := by decide +kernel
theorem lk_4_80 : sm_lk 4 80 141 = true := by decide +kernel
theorem lk_4_84 : sm_lk 4 84 142 = true := by decide +kernel
theorem lk_4_88 : sm_lk 4 88 62 = true := by decide +kernel
theorem lk_4_92 : sm_lk 4 92 29 = true := by decide +kernel
theorem lk_5_107 : sm_lk 5 107 31 = true := by decide +kernel
theorem lk_5_114 : sm_lk 5 114 42 = true := by decide +kernel
theorem lk_5_119 : sm_lk 5 119 2 = true := by decide +kernel
theorem lk_5_122 : sm_lk 5 122 260 = true := by decide +kernel
theorem lk_5_127 : sm_lk 5 127 262 = true := by decide +kernel
theorem lk_5_131 : sm_lk 5 131 74 = true := by decide +kernel
theorem lk_5_15 : sm_lk 5 15 32 = true := by decide +kernel
theorem lk_5_24 : sm_lk 5 24 68 = true := by decide +kernel
theorem lk_5_28 : sm_lk 5 28 70 = true := by decide +kernel
theorem lk_5_32 : sm_lk 5 32 73 = true := by decide +kernel
theorem lk_5_35 : sm_lk 5 35 75 = true := by decide +kernel
theorem lk_5_38 : sm_lk 5 38 37 = true := by decide +kernel
theorem lk_5_45 : sm_lk 5 45 285 = true := by decide +kernel
theorem lk_5_51 : sm_lk 5 51 29 = true := by decide +kernel
theorem lk_5_69 : sm_lk 5 69 5 = true := by decide +kernel
theorem lk_5_75 : sm_lk 5 75 69 = true := by decide +kernel
theorem lk_5_79 : sm_lk 5 79 35 = true := by decide +kernel
theorem lk_5_82 : sm_lk 5 82 38 = true := by decide +kernel
theorem lk_5_86 : sm_lk 5 86 6 = true := by decide +kernel
theorem lk_5_91 : sm_lk 5 91 71 = true := by decide +kernel
theorem lk_5_95 : sm_lk 5 95 72 = true := by decide +kernel
theorem lk_6_15 : sm_lk 6 15 32 = true := by decide +kernel
theorem lk_6_24 : sm_lk 6 24 29 = true := by decide +kernel
theorem lk_6_28 : sm_lk 6 28 78 = true := by decide +kernel
theorem lk_6_32 : sm_lk 6 32 31 = true := by decide +kernel
theorem lk_6_35 : sm_lk 6 35 79 = true := by decide +kernel
theorem lk_6_39 : sm_lk 6 39 35 = true := by decide +kernel
theorem lk_6_42 : sm_lk 6 42 80 = true := by decide +kernel
theorem lk_6_45 : sm_lk 6 45 146 = true := by decide +kernel
theorem lk_6_63 : sm_lk 6 63 36 = true := by decide +kernel
theorem lk_6_67 : sm_lk 6 67 39 = true := by decide +kernel
theorem lk_6_71 : sm_lk 6 71 145 = true := by decide +kernel
theorem lk_6_75 : sm_lk 6 75 131 = true := by decide +kernel
theorem lk_6_78 : sm_lk 6 78 44 = true := by decide +kernel
theorem lk_6_83 : sm_lk 6 83 34 = true := by decide +kernel
theorem lk_6_87 : sm_lk 6 87 135 = true := by decide +kernel
theorem lk_7_104 : sm_lk 7 104 4 = true := by decide +kernel
theorem lk_7_27 : sm_lk 7 27 128 = true := by decide +kernel
theorem lk_7_35 : sm_lk 7 35 86 = true := by decide +kernel
theorem lk_7_39 : sm_lk 7 39 87 = true := by decide +kernel
theorem lk_7_42 : sm_lk 7 42 89 = true := by decide +kernel
theorem lk_7_46 : sm_lk 7 46 147 = true := by decide +kernel
theorem lk_7_50 : sm_lk 7 50 131 = true := by decide +kernel
theorem lk_7_59 : sm_lk 7 59 42 = true := by decide +kernel
theorem lk_7_62 : sm_lk 7 62 29 = true := by decide +kernel
theorem lk_7_66 : sm_lk 7 66 44 = true := by decide +kernel
theorem lk_7_69 : sm_lk 7 69 82 = true := by decide +kernel
theorem lk_7_72 : sm_lk 7 72 83 = true := by decide +kernel
theorem lk_7_87 : sm_lk 7 87 265 = true := by decide +kernel
theorem lk_7_92 : sm_lk 7 92 88 = true := by decide +kernel
theorem lk_7_96 : sm_lk 7 96 3 = true := by decide +kernel
theorem lk_7_99 : sm_lk 7 99 84 = true := by decide +kernel
theorem lk_8_103 : sm_lk 8 103 83 = true := by decide +kernel
theorem lk_8_110 : sm_lk 8 110 84 = true := by decide +kernel
theorem lk_8_113 : sm_lk 8 113 99 = true := by decide +kernel
theorem lk_8_117 : sm_lk 8 117 100 = true := by decide +kernel
theorem lk_8_29 : sm_lk 8 29 143 = true := by decide +kernel
theorem lk_8_33 : sm_lk 8 33 144 = true := by decide +kernel
theorem lk_8_40 : sm_lk 8 40 45 = true := by decide +kernel
theorem lk_8_44 : sm_lk 8 44 92 = true := by decide +kernel
theorem lk_8_48 : sm_lk 8 48 97 = true := by decide +kernel
theorem lk_8_52 : sm_lk 8 52 98 = true := by decide +kernel
theorem lk_8_56 : sm_lk 8 56 283 = true := by decide +kernel
theorem lk_8_62 : sm_lk 8 62 131 = true := by decide +kernel
theorem lk_8_66 : sm_lk 8 66 42 = true := by decide +kernel
theorem lk_8_69 : sm_lk 8 69 44 = true := by decide +kernel
theorem lk_8_72 : sm_lk 8 72 93 = true := by decide +kernel
theorem lk_8_75 : sm_lk 8 75 94 = true := by decide +kernel
theorem lk_8_78 : sm_lk 8 78 2 = true := by decide +kernel
theorem lk_8_81 : sm_lk 8 81 95 = true := by decide +kernel
theorem lk_8_85 : sm_lk 8 85 96 = true := by decide +kernel
theorem lk_8_90 : sm_lk 8 90 43 = true := by decide +kernel
theorem lk_8_98 : sm_lk 8 98 82 = true := by decide +kernel
theorem lk_9_102 : sm_lk 9 102 3 = true := by decide +kernel
theorem lk_9_56 : sm_lk 9 56 104 = true := by decide +kernel
theorem lk_9_60 : sm_lk 9 60 29 = true := by decide +kernel
theorem lk_9_69 : sm_lk 9 69 283 = true := by decide +kernel
theorem lk_9_75 : sm_lk 9 75 142 = true := by decide +kernel
theorem lk_9_79 : sm_lk 9 79 42 = true := by decide +kernel
theorem lk_9_82 : sm_lk 9 82 105 = true := by decide +kernel
theorem lk_9_86 : sm_lk 9 86 106 = true := by decide +kernel
theorem lk_9_90 : sm_lk 9 90 107 = true := by decide +kernel
theorem lk_9_93 : sm_lk 9 93 284 = true := by decide +kernel
theorem lk_9_96 : sm_lk 9 96 138 = true := by decide +kernel
theorem lk_9_99 : sm_lk 9 99 139 = true := by decide +kernel
theorem na_10 : sm_na 10 = 1 := by decide +kernel
theorem na_100 : sm_na 100 = 2 := by decide +kernel
theorem na_102 : sm_na 102 = 0 := by decide +kernel
theorem na_103 : sm_na 103 = 3 := by decide +kernel
theorem na_104 : sm_na 104 = 3 := by decide +kernel
theorem na_105 : sm_na 105 = 4 := by decide +kernel
theorem na_106 : sm_na 106 = 2 := by decide +kernel
theorem na_107 : sm_na 107 = 2 := by decide +kernel
theorem na_108 : sm_na 108 = 1 := by decide +kernel
theorem na_11 : sm_na 11 = 2 := by decide +kernel
theorem na_110 : sm_na 110 = 1 := by decide +kernel
theorem na_111 : sm_na 111 = 1 := by decide +kernel
theorem na_112 : sm_na 112 = 1 := by decide +kernel
theorem na_113 : sm_na 113 = 1 := by decide +kernel
theorem na_114 : sm_na 114 = 0 := by decide +kernel
theorem na_115 : sm_na 115 = 2 := by decide +kernel
theorem na_116 : sm_na 116 = 2 := by decide +kernel
theorem na_117 : sm_na 117 = 3 := by decide +kernel
theorem na_118 : sm_na 118 = 2 := by decide +kernel
theorem na_119 : sm_na 119 = 2 := by decide +kernel
theorem na_120 : sm_na 120 = 2 := by decide +kernel
theorem na_121 : sm_na 121 = 4 := by decide +kernel
theorem na_122 : sm_na 122 = 1 := by decide +kernel
theorem na_123 : sm_na 123 = 2 := by decide +kernel
theorem na_125 : sm_na 125 = 0 := by decide +kernel
theorem na_126 : sm_na 126 = 1 := by decide +kernel
theorem na_127 : sm_na 127 = 2 := by decide +kernel
theorem na_128 : sm_na 128 = 1 := by decide +kernel
theorem na_129 : sm_na 129 = 2 := by decide +kernel
theorem na_130 : sm_na 130 = 2 := by decide +kernel
theorem na_131 : sm_na 131 = 2 := by decide +kernel
theorem na_132 : sm_na 132 = 2 := by decide +kernel
theorem na_133 : sm_na 133 = 2 := by decide +kernel
theorem na_134 : sm_na 134 = 2 := by decide +kernel
theorem na_135 : sm_na 135 = 2 := by decide +kernel
theorem na_136 : sm_na 136 = 3 := by decide +kernel
theorem na_137 : sm_na 137 = 2 := by decide +kernel
theorem na_138 : sm_na 138 = 1 := by decide +kernel
theorem na_139 : sm_na 139 = 2 := by decide +kernel
theorem na_140 : sm_na 140 = 1 := by decide +kernel
theorem na_141 : sm_na 141 = 2 := by decide +kernel
theorem na_142 : sm_na 142 = 1 := by decide +kernel
theorem na_143 : sm_na 143 = 1 := by decide +kernel
theorem na_144 : sm_na 144 = 1 := by decide +kernel
theorem na_145 : sm_na 145 = 3 := by decide +kernel
theorem na_146 : sm_na 146 = 2 := by decide +kernel
theorem na_147 : sm_na 147 = 1 := by decide +kernel
theorem na_148 : sm_na 148 = 1 := by decide +kernel
theorem na_149 : sm_na 149 = 1 := by decide +kernel
theorem na_15 : sm_na 15 = 2 := by decide +kernel
theorem na_150 : sm_na 150 = 2 := by decide +kernel
theorem na_151 : sm_na 151 = 1 := by decide +kernel
theorem na_155 : sm_na 155 = 1 := by decide +kernel
theorem na_157 : sm_na 157 = 3 := by decide +kernel
theorem na_159 : sm_na 159 = 0 := by decide +kernel
theorem na_160 : sm_na 160 = 0 := by decide +kernel
theorem na_161 : sm_na 161 = 1 := by decide +kernel
theorem na_162 : sm_na 162 = 1 := by decide +kernel
theorem na_163 : sm_na 163 = 3 := by decide +kernel
theorem na_164 : sm_na 164 = 3 := by decide +kernel
theorem na_165 : sm_na 165 = 3 := by decide +kernel
theorem na_166 : sm_na 166 = 3 := by decide +kernel
theorem na_167 : sm_na 167 = 3 := by decide +kernel
theorem na_168 : sm_na 168 = 1 := by decide +kernel
theorem na_169 : sm_na 169 = 2 := by decide +kernel
theorem na_17 : sm_na 17 = 2 := by decide +kernel
theorem na_170 : sm_na 170 = 1 := by decide +kernel
theorem na_171 : sm_na 171 = 1 := by decide +kernel
theorem na_172 : sm_na 172 = 1 := by decide +kernel
theorem na_173 : sm_na 173 = 1 := by decide +kernel
theorem na_174 : sm_na 174 = 1 := by decide +kernel
theorem na_175 : sm_na 175 = 2 := by decide +kernel
theorem na_176 : sm_na 176 = 1 := by decide +kernel
theorem na_177 : sm_na 177 = 0 := by decide +kernel
theorem na_178 : sm_na 178 = 0 := by decide +kernel
theorem na_179 : sm_na 179 = 0 := by decide +kernel
theorem na_180 : sm_na 180 = 0 := by decide +kernel
theorem na_181 : sm_na 181 = 0 := by decide +kernel
theorem na_182 : sm_na 182 = 2 := by decide +kernel
theorem na_183 : sm_na 183 = 1 := by decide +kernel
theorem na_184 : sm_na 184 = 1 := by decide +kernel
theorem na_185 : sm_na 185 = 1 := by decide +kernel
theorem na_186 : sm_na 186 = 1 := by decide +kernel
theorem na_187 : sm_na 187 = 1 := by decide +kernel
theorem na_188 : sm_na 188 = 1 := by decide +kernel
theorem na_189 : sm_na 189 = 3 := by decide +kernel
theorem na_190 : sm_na 190 = 1 := by decide +kernel
theorem na_191 : sm_na 191 = 0 := by decide +kernel
theorem na_192 : sm_na 192 = 3 := by decide +kernel
theorem na_193 : sm_na 193 = 1 := by decide +kernel
theorem na_194 : sm_na 194 = 1 := by decide +kernel
theorem na_195 : sm_na 195 = 2 := by decide +kernel
theorem na_196 : sm_na 196 = 1 := by decide +kernel
theorem na_197 : sm_na 197 = 0 := by decide +kernel
theorem na_198 : sm_na 198 = 1 := by decide +kernel
theorem na_199 : sm_na 199 = 0 := by decide +kernel
theorem na_2 : sm_na 2 = 1 := by decide +kernel
theorem na_200 : sm_na 200 = 2 := by decide +kernel
theorem na_201 : sm_na 201 = 4 := by decide +kernel
theorem na_202 : sm_na 202 = 2 := by decide +kernel
theorem na_203 : sm_na 203 = 1 := by decide +kernel
theorem na_204 : sm_na 204 = 3 := by decide +kernel
theorem na_205 : sm_na 205 = 2 := by decide +kernel
theorem na_206 : sm_na 206 = 1 := by decide +kernel
theorem na_207 : sm_na 207 = 3 := by decide +kernel
theorem na_208 : sm_na 208 = 0 := by decide +kernel
theorem na_209 : sm_na 209 = 0 := by decide +kernel
theorem na_210 : sm_na 210 = 0 := by decide +kernel
theorem na_211 : sm_na 211 = 1 := by decide +kernel
theorem na_212 : sm_na 212 = 1 := by decide +kernel
theorem na_213 : sm_na 213 = 2 := by decide +kernel
theorem na_214 : sm_na 214 = 2 := by decide +kernel
theorem na_215 : sm_na 215 = 3 := by decide +kernel
theorem na_216 : sm_na 216 = 2 := by decide +kernel
theorem na_217 : sm_na 217 = 1 := by decide +kernel
theorem na_218 : sm_na 218 = 1 := by decide +kernel
theorem na_219 : sm_na 219 = 2 := by decide +kernel
theorem na_220 : sm_na 220 = 1 := by decide +kernel
theorem na_221 : sm_na 221 = 1 := by decide +kernel
theorem na_222 : sm_na 222 = 0 := by decide +kernel
theorem na_223 : sm_na 223 = 1 := by decide +kernel
theorem na_224 : sm_na 224 = 1 := by decide +kernel
theorem na_225 : sm_na 225 = 3 := by decide +kernel
theorem na_226 : sm_na 226 = 1 := by decide +kernel
theorem na_227 : sm_na 227 = 2 := by decide +kernel
theorem na_228 : sm_na 228 = 2 := by decide +kernel
theorem na_229 : sm_na 229 = 3 := by decide +kernel
theorem na_23 : sm_na 23 = 1 := by decide +kernel
theorem na_230 : sm_na 230 = 3 := by decide +kernel
theorem na_232 : sm_na 232 = 1 := by decide +kernel
theorem na_233 : sm_na 233 = 1 := by decide +kernel
theorem na_237 : sm_na 237 = 2 := by decide +kernel
theorem na_239 : sm_na 239 = 4 := by decide +kernel
theorem na_247 : sm_na 247 = 2 := by decide +kernel
theorem na_248 : sm_na 248 = 1 := by decide +kernel
theorem na_249 : sm_na 249 = 1 := by decide +kernel
theorem na_250 : sm_na 250 = 1 := by decide +kernel
theorem na_251 : sm_na 251 = 1 := by decide +kernel
theorem na_252 : sm_na 252 = 0 := by decide +kernel
theorem na_253 : sm_na 253 = 1 := by decide +kernel
theorem na_254 : sm_na 254 = 1 := by decide +kernel
theorem na_255 : sm_na 255 = 2 := by decide +kernel
theorem na_256 : sm_na 256 = 1 := by decide +kernel
theorem na_257 : sm_na 257 = 1 := by decide +kernel
theorem na_260 : sm_na 260 = 0 := by decide +kernel
theorem na_261 : sm_na 261 = 0 := by decide +kernel
theorem na_262 : sm_na 262 = 1 := by decide +kernel
theorem na_263 : sm_na 263 = 0 := by decide +kernel
theorem na_264 : sm_na 264 = 2 := by decide +kernel
theorem na_265 : sm_na 265 = 1 := by decide +kernel
theorem na_266 : sm_na 266 = 2 := by decide +kernel
theorem na_283 : sm_na 283 = 2 := by decide +kernel
theorem na_284 : sm_na 284 = 2 := by decide +kernel
theorem na_285 : sm_na 285 = 2 := by decide +kernel
theorem na_286 : sm_na 286 = 2 := by decide +kernel
theorem na_287 : sm_na 287 = 4 := by decide +kernel
theorem na_288 : sm_na 288 = 1 := by decide +kernel
theorem na_289 : sm_na 289 = 4 := by decide +kernel
theorem na_29 : sm_na 29 = 1 := by decide +kernel
theorem na_290 : sm_na 290 = 3 := by decide +kernel
theorem na_291 : sm_na 291 = 2 := by decide +kernel
theorem na_3 : sm_na 3 = 1 := by decide +kernel
theorem na_30 : sm_na 30 = 2 := by decide +kernel
theorem na_31 : sm_na 31 = 0 := by decide +kernel
theorem na_32 : sm_na 32 = 0 := by decide +kernel
theorem na_33 : sm_na 33 = 0 := by decide +kernel
theorem na_34 : sm_na 34 = 2 := by decide +kernel
theorem na_35 : sm_na 35 = 1 := by decide +kernel
theorem na_36 : sm_na 36 = 2 := by decide +kernel
theorem na_37 : sm_na 37 = 0 := by decide +kernel
theorem na_38 : sm_na 38 = 1 := by decide +kernel
theorem na_39 : sm_na 39 = 1 := by decide +kernel
theorem na_4 : sm_na 4 = 2 := by decide +kernel
theorem na_40 : sm_na 40 = 1 := by decide +kernel
theorem na_42 : sm_na 42 = 1 := by decide +kernel
theorem na_43 : sm_na 43 = 3 := by decide +kernel
theorem na_44 : sm_na 44 = 1 := by decide +kernel
theorem na_45 : sm_na 45 = 3 := by decide +kernel
theorem na_46 : sm_na 46 = 1 := by decide +kernel
theorem na_49 : sm_na 49 = 0 := by decide +kernel
theorem na_5 : sm_na 5 = 1 := by decide +kernel
theorem na_50 : sm_na 50 = 4 := by decide +kernel
theorem na_51 : sm_na 51 = 2 := by decide +kernel
theorem na_52 : sm_na 52 = 1 := by decide +kernel
theorem na_53 : sm_na 53 = 4 := by decide +kernel
theorem na_54 : sm_na 54 = 3 := by decide +kernel
theorem na_55 : sm_na 55 = 3 := by decide +kernel
theorem na_56 : sm_na 56 = 2 := by decide +kernel
theorem na_58 : sm_na 58 = 2 := by decide +kernel
theorem na_59 : sm_na 59 = 3 := by decide +kernel
theorem na_6 : sm_na 6 = 1 := by decide +kernel
theorem na_60 : sm_na 60 = 2 := by decide +kernel
theorem na_61 : sm_na 61 = 3 := by decide +kernel
theorem na_62 : sm_na 62 = 2 := by decide +kernel
theorem na_63 : sm_na 63 = 2 := by decide +kernel
theorem na_64 : sm_na 64 = 3 := by decide +kernel
theorem na_65 : sm_na 65 = 2 := by decide +kernel
theorem na_67 : sm_na 67 = 1 := by decide +kernel
theorem na_68 : sm_na 68 = 0 := by decide +kernel
theorem na_69 : sm_na 69 = 1 := by decide +kernel
theorem na_70 : sm_na 70 = 0 := by decide +kernel
theorem na_71 : sm_na 71 = 2 := by decide +kernel
theorem na_72 : sm_na 72 = 1 := by decide +kernel
theorem na_73 : sm_na 73 = 0 := by decide +kernel
theorem na_74 : sm_na 74 = 1 := by decide +kernel
theorem na_75 : sm_na 75 = 0 := by decide +kernel
theorem na_77 : sm_na 77 = 2 := by decide +kernel
theorem na_78 : sm_na 78 = 3 := by decide +kernel
theorem na_79 : sm_na 79 = 3 := by decide +kernel
theorem na_80 : sm_na 80 = 3 := by decide +kernel
theorem na_82 : sm_na 82 = 0 := by decide +kernel
theorem na_83 : sm_na 83 = 2 := by decide +kernel
theorem na_84 : sm_na 84 = 2 := by decide +kernel
theorem na_85 : sm_na 85 = 4 := by decide +kernel
theorem na_86 : sm_na 86 = 3 := by decide +kernel
theorem na_87 : sm_na 87 = 3 := by decide +kernel
theorem na_88 : sm_na 88 = 2 := by decide +kernel
theorem na_89 : sm_na 89 = 4 := by decide +kernel
theorem na_91 : sm_na 91 = 2 := by decide +kernel
theorem na_92 : sm_na 92 = 3 := by decide +kernel
theorem na_93 : sm_na 93 = 3 := by decide +kernel
theorem na_94 : sm_na 94 = 3 := by decide +kernel
theorem na_95 : sm_na 95 = 3 := by decide +kernel
theorem na_96 : sm_na 96 = 3 := by decide +kernel
theorem na_97 : sm_na 97 = 3 := by decide +kernel
theorem na_98 : sm_na 98 = 2 := by decide +kernel
theorem na_99 : sm_na 99 = 1 := by decide +kernel
theorem pk_0_46 : sm_pk 0 46 2 1 = true := by decide +kernel
theorem pk_1_23 : sm_pk 1 23 1 1 = true := by decide +kernel
theorem pk_1_40 : sm_pk 1 40 1 2 = true := by decide +kernel
theorem pk_1_49 : sm_pk 1 49 1 3 = true := by decide +kernel
theorem pk_1_59 : sm_pk 1 59 1 4 = true := by decide +kernel
theorem pk_10_20 : sm_pk 10 20 2 1 = true := by decide +kernel
theorem pk_11_52 : sm_pk 11 52 2 1 = true := by decide +kernel
theorem pk_11_62 : sm_pk 11 62 11 11 = true := by decide +kernel
theorem pk_11_65 : sm_pk 11 65 11 12 = true := by decide +kernel
theorem pk_11_68 : sm_pk 11 68 11 13 = true := by decide +kernel
theorem pk_11_72 : sm_pk 11 72 11 14 = true := by decide +kernel
theorem pk_12_130 : sm_pk 12 130 12 0 = true := by decide +kernel
theorem pk_12_134 : sm_pk 12 134 12 8 = true := by decide +kernel
theorem pk_12_141 : sm_pk 12 141 12 2 = true := by decide +kernel
theorem pk_12_148 : sm_pk 12 148 12 4 = true := by decide +kernel
theorem pk_12_187 : sm_pk 12 187 12 28 = true := by decide +kernel
theorem pk_12_190 : sm_pk 12 190 12 45 = true := by decide +kernel
theorem pk_12_208 : sm_pk 12 208 12 46 = true := by decide +kernel
theorem pk_12_211 : sm_pk 12 211 12 47 = true := by decide +kernel
theorem pk_12_232 : sm_pk 12 232 12 20 = true := by decide +kernel
theorem pk_12_235 : sm_pk 12 235 12 50 = true := by decide +kernel
theorem pk_12_238 : sm_pk 12 238 12 48 = true := by decide +kernel
theorem pk_12_250 : sm_pk 12 250 12 49 = true := by decide +kernel
theorem pk_12_308 : sm_pk 12 308 12 51 = true := by decide +kernel
theorem pk_12_348 : sm_pk 12 348 12 39 = true := by decide +kernel
theorem pk_12_357 : sm_pk 12 357 12 38 = true := by decide +kernel
theorem pk_12_364 : sm_pk 12 364 12 53 = true := by decide +kernel
theorem pk_12_380 : sm_pk 12 380 12 54 = true := by decide +kernel
theorem pk_12_384 : sm_pk 12 384 12 55 = true := by decide +kernel
theorem pk_12_399 : sm_pk 12 399 12 59 = true := by decide +kernel
theorem pk_12_402 : sm_pk 12 402 12 57 = true := by decide +kernel
theorem pk_12_420 : sm_pk 12 420 12 36 = true := by decide +kernel
theorem pk_12_462 : sm_pk 12 462 12 9 = true := by decide +kernel
theorem pk_12_465 : sm_pk 12 465 12 34 = true := by decide +kernel
theorem pk_12_477 : sm_pk 12 477 12 60 = true := by decide +kernel
theorem pk_12_483 : sm_pk 12 483 12 67 = true := by decide +kernel
theorem pk_12_486 : sm_pk 12 486 12 65 = true := by decide +kernel
theorem pk_12_489 : sm_pk 12 489 12 66 = true := by decide +kernel
theorem pk_12_516 : sm_pk 12 516 12 6 = true := by decide +kernel
theorem pk_12_519 : sm_pk 12 519 12 7 = true := by decide +kernel
theorem pk_12_535 : sm_pk 12 535 12 43 = true := by decide +kernel
theorem pk_2_21 : sm_pk 2 21 2 1 = true := by decide +kernel
theorem pk_4_15 : sm_pk 4 15 4 1 = true := by decide +kernel
theorem pk_5_57 : sm_pk 5 57 11 13 = true := by decide +kernel
theorem pk_5_63 : sm_pk 5 63 11 14 = true := by decide +kernel
theorem pk_7_76 : sm_pk 7 76 7 2 = true := by decide +kernel
theorem pk_7_79 : sm_pk 7 79 7 1 = true := by decide +kernel
theorem pk_7_82 : sm_pk 7 82 7 3 = true := by decide +kernel
theorem pk_8_36 : sm_pk 8 36 2 1 = true := by decide +kernel
theorem pk_9_32 : sm_pk 9 32 9 6 = true := by decide +kernel
theorem pk_9_36 : sm_pk 9 36 9 7 = true := by decide +kernel
theorem pk_9_39 : sm_pk 9 39 9 8 = true := by decide +kernel
theorem pk_9_53 : sm_pk 9 53 9 9 = true := by decide +kernel
theorem th_0_108_110 : (decide (108 < 65536) && decide (110 < 65536) && decide (112 < 65536) && decide (sm_look sm_N (0 * 65536 + 108) = none) && decide (sm_look sm_NX (0 * 65536 + 108) = some (2, 6)) && decide (sm_look sm_CI (0 * 65536 + 110) = none) && decide (sm_look sm_CS (0 * 65536 + 110) = some 2) && decide (sm_look sm_L (0 * 65536 + 112) = none) && decide (sm_look sm_LX (0 * 65536 + 112) = some (2, 2))) = true := by decide +kernel
theorem th_0_108_181 : (decide (108 < 65536) && decide (181 < 65536) && decide (112 < 65536) && decide (sm_look sm_N (0 * 65536 + 108) = none) && decide (sm_look sm_NX (0 * 65536 + 108) = some (2, 6)) && decide (sm_look sm_CI (0 * 65536 + 181) = none) && decide (sm_look sm_CS (0 * 65536 + 181) = some 6) && decide (sm_look sm_L (0 * 65536 + 112) = none) && decide (sm_look sm_LX (0 * 65536 + 112) = some (2, 2))) = true := by decide +kernel
theorem th_0_52_162 : (decide (52 < 65536) && decide (162 < 65536) && decide (56 < 65536) && decide (sm_look sm_N (0 * 65536 + 52) = none) && decide (sm_look sm_NX (0 * 65536 + 52) = some (0, 6)) && decide (sm_look sm_CI (0 * 65536 + 162) = none) && decide (sm_look sm_CS (0 * 65536 + 162) = some 3) && decide (sm_look sm_L (0 * 65536 + 56) = none) && decide (sm_look sm_LX (0 * 65536 + 56) = some (2, 0))) = true := by decide +kernel
theorem th_0_52_173 : (decide (52 < 65536) && decide (173 < 65536) && decide (56 < 65536) && decide (sm_look sm_N (0 * 65536 + 52) = none) && decide (sm_look sm_NX (0 * 65536 + 52) = some (0, 6)) && decide (sm_look sm_CI (0 * 65536 + 173) = none) && decide (sm_look sm_CS (0 * 65536 + 173) = some 4) && decide (sm_look sm_L (0 * 65536 + 56) = none) && decide (sm_look sm_LX (0 * 65536 + 56) = some (2, 0))) = true := by decide +kernel
theorem th_0_52_54 : (decide (52 < 65536) && decide (54 < 65536) && decide (56 < 65536) && decide (sm_look sm_N (0 * 65536 + 52) = none) && decide (sm_look sm_NX (0 * 65536 + 52) = some (0, 6)) && decide (sm_look sm_CI (0 * 65536 + 54) = none) && decide (sm_look sm_CS (0 * 65536 + 54) = some 0) && decide (sm_look sm_L (0 * 65536 + 56) = none) && decide (sm_look sm_LX (0 * 65536 + 56) = some (2, 0))) = true := by decide +kernel
theorem th_0_63_179 : (decide (63 < 65536) && decide (179 < 65536) && decide (67 < 65536) && decide (sm_look sm_N (0 * 65536 + 63) = none) && decide (sm_look sm_NX (0 * 65536 + 63) = some (1, 6)) && decide (sm_look sm_CI (0 * 65536 + 179) = none) && decide (sm_look sm_CS (0 * 65536 + 179) = some 5) && decide (sm_look sm_L (0 * 65536 + 67) = none) && decide (sm_look sm_LX (0 * 65536 + 67) = some (2, 1))) = true := by decide +kernel
theorem th_0_63_65 : (decide (63 < 65536) && decide (65 < 65536) && decide (67 < 65536) && decide (sm_look sm_N (0 * 65536 + 63) = none) && decide (sm_look sm_NX (0 * 65536 + 63) = some (1, 6)) && decide (sm_look sm_CI (0 * 65536 + 65) = none) && decide (sm_look sm_CS (0 * 65536 + 65) = some 1) && decide (sm_look sm_L (0 * 65536 + 67) = none) && decide (sm_look sm_LX (0 * 65536 + 67) = some (2, 1))) = true := by decide +kernel
theorem th_1_27_29 : (decide (27 < 65536) && decide (29 < 65536) && decide (31 < 65536) && decide (sm_look sm_N (1 * 65536 + 27) = none) && decide (sm_look sm_NX (1 * 65536 + 27) = some (0, 6)) && decide (sm_look sm_CI (1 * 65536 + 29) = none) && decide (sm_look sm_CS (1 * 65536 + 29) = some 21) && decide (sm_look sm_L (1 * 65536 + 31) = none) && decide (sm_look sm_LX (1 * 65536 + 31) = some (2, 0))) = true := by decide +kernel
theorem vk_10 : ((sm_m 10).2.1.2.2 = false ∧ ¬ (sm_m 10).1.1.name = "<init>") ∧ (sm_m 10).2.1.1 < 14 := by decide +kernel
theorem vk_100 : ((sm_m 100).2.1.2.2 = false ∧ ¬ (sm_m 100).1.1.name = "<init>") ∧ (sm_m 100).2.1.1 < 14 := by decide +kernel
theorem vk_102 : ((sm_m 102).2.1.2.2 = false ∧ ¬ (sm_m 102).1.1.name = "<init>") ∧ (sm_m 102).2.1.1 < 14 := by decide +kernel
theorem vk_103 : ((sm_m 103).2.1.2.2 = false ∧ ¬ (sm_m 103).1.1.name = "<init>") ∧ (sm_m 103).2.1.1 < 14 := by decide +kernel
theorem vk_104 : ((sm_m 104).2.1.2.2 = false ∧ ¬ (sm_m 104).1.1.name = "<init>") ∧ (sm_m 104).2.1.1 < 14 := by decide +kernel
theorem vk_105 : ((sm_m 105).2.1.2.2 = false ∧ ¬ (sm_m 105).1.1.name = "<init>") ∧ (sm_m 105).2.1.1 < 14 := by decide +kernel
theorem vk_106 : ((sm_m 106).2.1.2.2 = false ∧ ¬ (sm_m 106).1.1.name = "<init>") ∧ (sm_m 106).2.1.1 < 14 := by decide +kernel
theorem vk_107 : ((sm_m 107).2.1.2.2 = false ∧ ¬ (sm_m 107).1.1.name = "<init>") ∧ (sm_m 107).2.1.1 < 14 := by decide +kernel
theorem vk_108 : ((sm_m 108).2.1.2.2 = false ∧ ¬ (sm_m 108).1.1.name = "<init>") ∧ (sm_m 108).2.1.1 < 14 := by decide +kernel
theorem vk_11 : ((sm_m 11).2.1.2.2 = false ∧ ¬ (sm_m 11).1.1.name = "<init>") ∧ (sm_m 11).2.1.1 < 14 := by decide +kernel
theorem vk_110 : ((sm_m 110).2.1.2.2 = false ∧ ¬ (sm_m 110).1.1.name = "<init>") ∧ (sm_m 110).2.1.1 < 14 := by decide +kernel
theorem vk_111 : ((sm_m 111).2.1.2.2 = false ∧ ¬ (sm_m 111).1.1.name = "<init>") ∧ (sm_m 111).2.1.1 < 14 := by decide +kernel
theorem vk_112 : ((sm_m 112).2.1.2.2 = false ∧ ¬ (sm_m 112).1.1.name = "<init>") ∧ (sm_m 112).2.1.1 < 14 := by decide +kernel
theorem vk_113 : ((sm_m 113).2.1.2.2 = false ∧ ¬ (sm_m 113).1.1.name = "<init>") ∧ (sm_m 113).2.1.1 < 14 := by decide +kernel
theorem vk_114 : ((sm_m 114).2.1.2.2 = false ∧ ¬ (sm_m 114).1.1.name = "<init>") ∧ (sm_m 114).2.1.1 < 14 := by decide +kernel
theorem vk_115 : ((sm_m 115).2.1.2.2 = false ∧ ¬ (sm_m 115).1.1.name = "<init>") ∧ (sm_m 115).2.1.1 < 14 := by decide +kernel
theorem vk_116 : ((sm_m 116).2.1.2.2 = false ∧ ¬ (sm_m 116).1.1.name = "<init>") ∧ (sm_m 116).2.1.1 < 14 := by decide +kernel
theorem vk_117 : ((sm_m 117).2.1.2.2 = false ∧ ¬ (sm_m 117).1.1.name = "<init>") ∧ (sm_m 117).2.1.1 < 14 := by decide +kernel
theorem vk_118 : ((sm_m 118).2.1.2.2 = false ∧ ¬ (sm_m 118).1.1.name = "<init>") ∧ (sm_m 118).2.1.1 < 14 := by decide +kernel
theorem vk_119 : ((sm_m 119).2.1.2.2 = false ∧ ¬ (sm_m 119).1.1.name = "<init>") ∧ (sm_m 119).2.1.1 < 14 := by decide +kernel
theorem vk_120 : ((sm_m 120).2.1.2.2 = false ∧ ¬ (sm_m 120).1.1.name = "<init>") ∧ (sm_m 120).2.1.1 < 14 := by decide +kernel
theorem vk_121 : ((sm_m 121).2.1.2.2 = false ∧ ¬ (sm_m 121).1.1.name = "<init>") ∧ (sm_m 121).2.1.1 < 14 := by decide +kernel
theorem vk_122 : ((sm_m 122).2.1.2.2 = false ∧ ¬ (sm_m 122).1.1.name = "<init>") ∧ (sm_m 122).2.1.1 < 14 := by decide +kernel
theorem vk_123 : ((sm_m 123).2.1.2.2 = false ∧ ¬ (sm_m 123).1.1.name = "<init>") ∧ (sm_m 123).2.1.1 < 14 := by decide +kernel
theorem vk_125 : ((sm_m 125).2.1.2.2 = false ∧ ¬ (sm_m 125).1.1.name = "<init>") ∧ (sm_m 125).2.1.1 < 14 := by decide +kernel
theorem vk_126 : ((sm_m 126).2.1.2.2 = false ∧ ¬ (sm_m 126).1.1.name = "<init>") ∧ (sm_m 126).2.1.1 < 14 := by decide +kernel
theorem vk_127 : ((sm_m 127).2.1.2.2 = false ∧ ¬ (sm_m 127).1.1.name = "<init>") ∧ (sm_m 127).2.1.1 < 14 := by decide +kernel
theorem vk_128 : ((sm_m 128).2.1.2.2 = false ∧ ¬ (sm_m 128).1.1.name = "<init>") ∧ (sm_m 128).2.1.1 < 14 := by decide +kernel
theorem vk_129 : ((sm_m 129).2.1.2.2 = false ∧ ¬ (sm_m 129).1.1.name = "<init>") ∧ (sm_m 129).2.1.1 < 14 := by decide +kernel
theorem vk_131 : ((sm_m 131).2.1.2.2 = false ∧ ¬ (sm_m 131).1.1.name = "<init>") ∧ (sm_m 131).2.1.1 < 14 := by decide +kernel
theorem vk_132 : ((sm_m 132).2.1.2.2 = false ∧ ¬ (sm_m 132).1.1.name = "<init>") ∧ (sm_m 132).2.1.1 < 14 := by decide +kernel
theorem vk_134 : ((sm_m 134).2.1.2.2 = false ∧ ¬ (sm_m 134).1.1.name = "<init>") ∧ (sm_m 134).2.1.1 < 14 := by decide +kernel
theorem vk_135 : ((sm_m 135).2.1.2.2 = false ∧ ¬ (sm_m 135).1.1.name = "<init>") ∧ (sm_m 135).2.1.1 < 14 := by decide +kernel
theorem vk_137 : ((sm_m 137).2.1.2.2 = false ∧ ¬ (sm_m 137).1.1.name = "<init>") ∧ (sm_m 137).2.1.1 < 14 := by decide +kernel
theorem vk_138 : ((sm_m 138).2.1.2.2 = false ∧ ¬ (sm_m 138).1.1.name = "<init>") ∧ (sm_m 138).2.1.1 < 14 := by decide +kernel
theorem vk_139 : ((sm_m 139).2.1.2.2 = false ∧ ¬ (sm_m 139).1.1.name = "<init>") ∧ (sm_m 139).2.1.1 < 14 := by decide +kernel
theorem vk_140 : ((sm_m 140).2.1.2.2 = false ∧ ¬ (sm_m 140).1.1.name = "<init>") ∧ (sm_m 140).2.1.1 < 14 := by decide +kernel
theorem vk_141 : ((sm_m 141).2.1.2.2 = false ∧ ¬ (sm_m 141).1.1.name = "<init>") ∧ (sm_m 141).2.1.1 < 14 := by decide +kernel
theorem vk_142 : ((sm_m 142).2.1.2.2 = false ∧ ¬ (sm_m 142).1.1.name = "<init>") ∧ (sm_m 142).2.1.1 < 14 := by decide +kernel
theorem vk_143 : ((sm_m 143).2.1.2.2 = false ∧ ¬ (sm_m 143).1.1.name = "<init>") ∧ (sm_m 143).2.1.1 < 14 := by decide +kernel
theorem vk_144 : ((sm_m 144).2.1.2.2 = false ∧ ¬ (sm_m 144).1.1.name = "<init>") ∧ (sm_m 144).2.1.1 < 14 := by decide +kernel
theorem vk_146 : ((sm_m 146).2.1.2.2 = false ∧ ¬ (sm_m 146).1.1.name = "<init>") ∧ (sm_m 146).2.1.1 < 14 := by decide +kernel
theorem vk_148 : ((sm_m 148).2.1.2.2 = false ∧ ¬ (sm_m 148).1.1.name = "<init>") ∧ (sm_m 148).2.1.1 < 14 := by decide +kernel
theorem vk_149 : ((sm_m 149).2.1.2.2 = false ∧ ¬ (sm_m 149).1.1.name = "<init>") ∧ (sm_m 149).2.1.1 < 14 := by decide +kernel
theorem vk_15 : ((sm_m 15).2.1.2.2 = false ∧ ¬ (sm_m 15).1.1.name = "<init>") ∧ (sm_m 15).2.1.1 < 14 := by decide +kernel
theorem vk_150 : ((sm_m 150).2.1.2.2 = false ∧ ¬ (sm_m 150).1.1.name = "<init>") ∧ (sm_m 150).2.1.1 < 14 := by decide +kernel
theorem vk_151 : ((sm_m 151).2.1.2.2 = false ∧ ¬ (sm_m 151).1.1.name = "<init>") ∧ (sm_m 151).2.1.1 < 14 := by decide +kernel
theorem vk_155 : ((sm_m 155).2.1.2.2 = false ∧ ¬ (sm_m 155).1.1.name = "<init>") ∧ (sm_m 155).2.1.1 < 14 := by decide +kernel
theorem vk_159 : ((sm_m 159).2.1.2.2 = false ∧ ¬ (sm_m 159).1.1.name = "<init>") ∧ (sm_m 159).2.1.1 < 14 := by decide +kernel
theorem vk_160 : ((sm_m 160).2.1.2.2 = false ∧ ¬ (sm_m 160).1.1.name = "<init>") ∧ (sm_m 160).2.1.1 < 14 := by decide +kernel
theorem vk_161 : ((sm_m 161).2.1.2.2 = false ∧ ¬ (sm_m 161).1.1.name = "<init>") ∧ (sm_m 161).2.1.1 < 14 := by decide +kernel
theorem vk_162 : ((sm_m 162).2.1.2.2 = false ∧ ¬ (sm_m 162).1.1.name = "<init>") ∧ (sm_m 162).2.1.1 < 14 := by decide +kernel
theorem vk_163 : ((sm_m 163).2.1.2.2 = false ∧ ¬ (sm_m 163).1.1.name = "<init>") ∧ (sm_m 163).2.1.1 < 14 := by decide +kernel
theorem vk_164 : ((sm_m 164).2.1.2.2 = false ∧ ¬ (sm_m 164).1.1.name = "<init>") ∧ (sm_m 164).2.1.1 < 14 := by decide +kernel
theorem vk_165 : ((sm_m 165).2.1.2.2 = false ∧ ¬ (sm_m 165).1.1.name = "<init>") ∧ (sm_m 165).2.1.1 < 14 := by decide +kernel
theorem vk_166 : ((sm_m 166).2.1.2.2 = false ∧ ¬ (sm_m 166).1.1.name = "<init>") ∧ (sm_m 166).2.1.1 < 14 := by decide +kernel
theorem vk_167 : ((sm_m 167).2.1.2.2 = false ∧ ¬ (sm_m 167).1.1.name = "<init>") ∧ (sm_m 167).2.1.1 < 14 := by decide +kernel
theorem vk_169 : ((sm_m 169).2.1.2.2 = false ∧ ¬ (sm_m 169).1.1.name = "<init>") ∧ (sm_m 169).2.1.1 < 14 := by decide +kernel
theorem vk_17 : ((sm_m 17).2.1.2.2 = false ∧ ¬ (sm_m 17).1.1.name = "<init>") ∧ (sm_m 17).2.1.1 < 14 := by decide +kernel
theorem vk_171 : ((sm_m 171).2.1.2.2 = false ∧ ¬ (sm_m 171).1.1.name = "<init>") ∧ (sm_m 171).2.1.1 < 14 := by decide +kernel
theorem vk_172 : ((sm_m 172).2.1.2.2 = false ∧ ¬ (sm_m 172).1.1.name = "<init>") ∧ (sm_m 172).2.1.1 < 14 := by decide +kernel
theorem vk_173 : ((sm_m 173).2.1.2.2 = false ∧ ¬ (sm_m 173).1.1.name = "<init>") ∧ (sm_m 173).2.1.1 < 14 := by decide +kernel
theorem vk_174 : ((sm_m 174).2.1.2.2 = false ∧ ¬ (sm_m 174).1.1.name = "<init>") ∧ (sm_m 174).2.1.1 < 14 := by decide +kernel
theorem vk_175 : ((sm_m 175).2.1.2.2 = false ∧ ¬ (sm_m 175).1.1.name = "<init>") ∧ (sm_m 175).2.1.1 < 14 := by decide +kernel
theorem vk_176 : ((sm_m 176).2.1.2.2 = false ∧ ¬ (sm_m 176).1.1.name = "<init>") ∧ (sm_m 176).2.1.1 < 14 := by decide +kernel
theorem vk_177 : ((sm_m 177).2.1.2.2 = false ∧ ¬ (sm_m 177).1.1.name = "<init>") ∧ (sm_m 177).2.1.1 < 14 := by decide +kernel
theorem vk_178 : ((sm_m 178).2.1.2.2 = false ∧ ¬ (sm_m 178).1.1.name = "<init>") ∧ (sm_m 178).2.1.1 < 14 := by decide +kernel
theorem vk_179 : ((sm_m 179).2.1.2.2 = false ∧ ¬ (sm_m 179).1.1.name = "<init>") ∧ (sm_m 179).2.1.1 < 14 := by decide +kernel
theorem vk_180 : ((sm_m 180).2.1.2.2 = false ∧ ¬ (sm_m 180).1.1.name = "<init>") ∧ (sm_m 180).2.1.1 < 14 := by decide +kernel
theorem vk_181 : ((sm_m 181).2.1.2.2 = false ∧ ¬ (sm_m 181).1.1.name = "<init>") ∧ (sm_m 181).2.1.1 < 14 := by decide +kernel
theorem vk_182 : ((sm_m 182).2.1.2.2 = false ∧ ¬ (sm_m 182).1.1.name = "<init>") ∧ (sm_m 182).2.1.1 < 14 := by decide +kernel
theorem vk_187 : ((sm_m 187).2.1.2.2 = false ∧ ¬ (sm_m 187).1.1.name = "<init>") ∧ (sm_m 187).2.1.1 < 14 := by decide +kernel
theorem vk_188 : ((sm_m 188).2.1.2.2 = false ∧ ¬ (sm_m 188).1.1.name = "<init>") ∧ (sm_m 188).2.1.1 < 14 := by decide +kernel
theorem vk_189 : ((sm_m 189).2.1.2.2 = false ∧ ¬ (sm_m 189).1.1.name = "<init>") ∧ (sm_m 189).2.1.1 < 14 := by decide +kernel
theorem vk_190 : ((sm_m 190).2.1.2.2 = false ∧ ¬ (sm_m 190).1.1.name = "<init>") ∧ (sm_m 190).2.1.1 < 14 := by decide +kernel
theorem vk_191 : ((sm_m 191).2.1.2.2 = false ∧ ¬ (sm_m 191).1.1.name = "<init>") ∧ (sm_m 191).2.1.1 < 14 := by decide +kernel
theorem vk_192 : ((sm_m 192).2.1.2.2 = false ∧ ¬ (sm_m 192).1.1.name = "<init>") ∧ (sm_m 192).2.1.1 < 14 := by decide +kernel
theorem vk_193 : ((sm_m 193).2.1.2.2 = false ∧ ¬ (sm_m 193).1.1.name = "<init>") ∧ (sm_m 193).2.1.1 < 14 := by decide +kernel
theorem vk_195 : ((sm_m 195).2.1.2.2 = false ∧ ¬ (sm_m 195).1.1.name = "<init>") ∧ (sm_m 195).2.1.1 < 14 := by decide +kernel
theorem vk_196 : ((sm_m 196).2.1.2.2 = false ∧ ¬ (sm_m 196).1.1.name = "<init>") ∧ (sm_m 196).2.1.1 < 14 := by decide +kernel
theorem vk_197 : ((sm_m 197).2.1.2.2 = false ∧ ¬ (sm_m 197).1.1.name = "<init>") ∧ (sm_m 197).2.1.1 < 14 := by decide +kernel
theorem vk_198 : ((sm_m 198).2.1.2.2 = false ∧ ¬ (sm_m 198).1.1.name = "<init>") ∧ (sm_m 198).2.1.1 < 14 := by decide +kernel
theorem vk_199 : ((sm_m 199).2.1.2.2 = false ∧ ¬ (sm_m 199).1.1.name = "<init>") ∧ (sm_m 199).2.1.1 < 14 := by decide +kernel
theorem vk_200 : ((sm_m 200).2.1.2.2 = false ∧ ¬ (sm_m 200).1.1.name = "<init>") ∧ (sm_m 200).2.1.1 < 14 := by decide +kernel
theorem vk_201 : ((sm_m 201).2.1.2.2 = false ∧ ¬ (sm_m 201).1.1.name = "<init>") ∧ (sm_m 201).2.1.1 < 14 := by decide +kernel
theorem vk_205 : ((sm_m 205).2.1.2.2 = false ∧ ¬ (sm_m 205).1.1.name = "<init>") ∧ (sm_m 205).2.1.1 < 14 := by decide +kernel
theorem vk_206 : ((sm_m 206).2.1.2.2 = false ∧ ¬ (sm_m 206).1.1.name = "<init>") ∧ (sm_m 206).2.1.1 < 14 := by decide +kernel
theorem vk_207 : ((sm_m 207).2.1.2.2 = false ∧ ¬ (sm_m 207).1.1.name = "<init>") ∧ (sm_m 207).2.1.1 < 14 := by decide +kernel
theorem vk_208 : ((sm_m 208).2.1.2.2 = false ∧ ¬ (sm_m 208).1.1.name = "<init>") ∧ (sm_m 208).2.1.1 < 14 := by decide +kernel
theorem vk_209 : ((sm_m 209).2.1.2.2 = false ∧ ¬ (sm_m 209).1.1.name = "<init>") ∧ (sm_m 209).2.1.1 < 14 := by decide +kernel
theorem vk_210 : ((sm_m 210).2.1.2.2 = false ∧ ¬ (sm_m 210).1.1.name = "<init>") ∧ (sm_m 210).2.1.1 < 14 := by decide +kernel
theorem vk_211 : ((sm_m 211).2.1.2.2 = false ∧ ¬ (sm_m 211).1.1.name = "<init>") ∧ (sm_m 211).2.1.1 < 14 := by decide +kernel
theorem vk_212 : ((sm_m 212).2.1.2.2 = false ∧ ¬ (sm_m 212).1.1.name = "<init>") ∧ (sm_m 212).2.1.1 < 14 := by decide +kernel
theorem vk_213 : ((sm_m 213).2.1.2.2 = false ∧ ¬ (sm_m 213).1.1.name = "<init>") ∧ (sm_m 213).2.1.1 < 14 := by decide +kernel
theorem vk_214 : ((sm_m 214).2.1.2.2 = false ∧ ¬ (sm_m 214).1.1.name = "<init>") ∧ (sm_m 214).2.1.1 < 14 := by decide +kernel
theorem vk_215 : ((sm_m 215).2.1.2.2 = false ∧ ¬ (sm_m 215).1.1.name = "<init>") ∧ (sm_m 215).2.1.1 < 14 := by decide +kernel
theorem vk_216 : ((sm_m 216).2.1.2.2 = false ∧ ¬ (sm_m 216).1.1.name = "<init>") ∧ (sm_m 216).2.1.1 < 14 := by decide +kernel
theorem vk_218 : ((sm_m 218).2.1.2.2 = false ∧ ¬ (sm_m 218).1.1.name = "<init>") ∧ (sm_m 218).2.1.1 < 14 := by decide +kernel
theorem vk_219 : ((sm_m 219).2.1.2.2 = false ∧ ¬ (sm_m 219).1.1.name = "<init>") ∧ (sm_m 219).2.1.1 < 14 := by decide +kernel
theorem vk_221 : ((sm_m 221).2.1.2.2 = false ∧ ¬ (sm_m 221).1.1.name = "<init>") ∧ (sm_m 221).2.1.1 < 14 := by decide +kernel
theorem vk_222 : ((sm_m 222).2.1.2.2 = false ∧ ¬ (sm_m 222).1.1.name = "<init>") ∧ (sm_m 222).2.1.1 < 14 := by decide +kernel
theorem vk_223 : ((sm_m 223).2.1.2.2 = false ∧ ¬ (sm_m 223).1.1.name = "<init>") ∧ (sm_m 223).2.1.1 < 14 := by decide +kernel
theorem vk_224 : ((sm_m 224).2.1.2.2 = false ∧ ¬ (sm_m 224).1.1.name = "<init>") ∧ (sm_m 224).2.1.1 < 14 := by decide +kernel
theorem vk_225 : ((sm_m 225).2.1.2.2 = false ∧ ¬ (sm_m 225).1.1.name = "<init>") ∧ (sm_m 225).2.1.1 < 14 := by decide +kernel
theorem vk_226 : ((sm_m 226).2.1.2.2 = false ∧ ¬ (sm_m 226).1.1.name = "<init>") ∧ (sm_m 226).2.1.1 < 14 := by decide +kernel
theorem vk_227 : ((sm_m 227).2.1.2.2 = false ∧ ¬ (sm_m 227).1.1.name = "<init>") ∧ (sm_m 227).2.1.1 < 14 := by decide +kernel
theorem vk_228 : ((sm_m 228).2.1.2.2 = false ∧ ¬ (sm_m 228).1.1.name = "<init>") ∧ (sm_m 228).2.1.1 < 14 := by decide +kernel
theorem vk_229 : ((sm_m 229).2.1.2.2 = false ∧ ¬ (sm_m 229).1.1.name = "<init>") ∧ (sm_m 229).2.1.1 < 14 := by decide +kernel
theorem vk_23 : ((sm_m 23).2.1.2.2 = false ∧ ¬ (sm_m 23).1.1.name = "<init>") ∧ (sm_m 23).2.1.1 < 14 := by decide +kernel
theorem vk_230 : ((sm_m 230).2.1.2.2 = false ∧ ¬ (sm_m 230).1.1.name = "<init>") ∧ (sm_m 230).2.1.1 < 14 := by decide +kernel
theorem vk_232 : ((sm_m 232).2.1.2.2 = false ∧ ¬ (sm_m 232).1.1.name = "<init>") ∧ (sm_m 232).2.1.1 < 14 := by decide +kernel
theorem vk_233 : ((sm_m 233).2.1.2.2 = false ∧ ¬ (sm_m 233).1.1.name = "<init>") ∧ (sm_m 233).2.1.1 < 14 := by decide +kernel
theorem vk_237 : ((sm_m 237).2.1.2.2 = false ∧ ¬ (sm_m 237).1.1.name = "<init>") ∧ (sm_m 237).2.1.1 < 14 := by decide +kernel
theorem vk_239 : ((sm_m 239).2.1.2.2 = false ∧ ¬ (sm_m 239).1.1.name = "<init>") ∧ (sm_m 239).2.1.1 < 14 := by decide +kernel
theorem vk_247 : ((sm_m 247).2.1.2.2 = false ∧ ¬ (sm_m 247).1.1.name = "<init>") ∧ (sm_m 247).2.1.1 < 14 := by decide +kernel
theorem vk_248 : ((sm_m 248).2.1.2.2 = false ∧ ¬ (sm_m 248).1.1.name = "<init>") ∧ (sm_m 248).2.1.1 < 14 := by decide +kernel
theorem vk_249 : ((sm_m 249).2.1.2.2 = false ∧ ¬ (sm_m 249).1.1.name = "<init>") ∧ (sm_m 249).2.1.1 < 14 := by decide +kernel
theorem vk_250 : ((sm_m 250).2.1.2.2 = false ∧ ¬ (sm_m 250).1.1.name = "<init>") ∧ (sm_m 250).2.1.1 < 14 := by decide +kernel
theorem vk_251 : ((sm_m 251).2.1.2.2 = false ∧ ¬ (sm_m 251).1.1.name = "<init>") ∧ (sm_m 251).2.1.1 < 14 := by decide +kernel
theorem vk_252 : ((sm_m 252).2.1.2.2 = false ∧ ¬ (sm_m 252).1.1.name = "<init>") ∧ (sm_m 252).2.1.1 < 14 := by decide +kernel
theorem vk_253 : ((sm_m 253).2.1.2.2 = false ∧ ¬ (sm_m 253).1.1.name = "<init>") ∧ (sm_m 253).2.1.1 < 14 := by decide +kernel
theorem vk_254 : ((sm_m 254).2.1.2.2 = false ∧ ¬ (sm_m 254).1.1.name = "<init>") ∧ (sm_m 254).2.1.1 < 14 := by decide +kernel
theorem vk_255 : ((sm_m 255).2.1.2.2 = false ∧ ¬ (sm_m 255).1.1.name = "<init>") ∧ (sm_m 255).2.1.1 < 14 := by decide +kernel
theorem vk_256 : ((sm_m 256).2.1.2.2 = false ∧ ¬ (sm_m 256).1.1.name = "<init>") ∧ (sm_m 256).2.1.1 < 14 := by decide +kernel
theorem vk_260 : ((sm_m 260).2.1.2.2 = false ∧ ¬ (sm_m 260).1.1.name = "<init>") ∧ (sm_m 260).2.1.1 < 14 := by decide +kernel
theorem vk_261 : ((sm_m 261).2.1.2.2 = false ∧ ¬ (sm_m 261).1.1.name = "<init>") ∧ (sm_m 261).2.1.1 < 14 := by decide +kernel
theorem vk_262 : ((sm_m 262).2.1.2.2 = false ∧ ¬ (sm_m 262).1.1.name = "<init>") ∧ (sm_m 262).2.1.1 < 14 := by decide +kernel
theorem vk_263 : ((sm_m 263).2.1.2.2 = false ∧ ¬ (sm_m 263).1.1.name = "<init>") ∧ (sm_m 263).2.1.1 < 14 := by decide +kernel
theorem vk_265 : ((sm_m 265).2.1.2.2 = false ∧ ¬ (sm_m 265).1.1.name = "<init>") ∧ (sm_m 265).2.1.1 < 14 := by decide +kernel
theorem vk_266 : ((sm_m 266).2.1.2.2 = false ∧ ¬ (sm_m 266).1.1.name = "<init>") ∧ (sm_m 266).2.1.1 < 14 := by decide +kernel
theorem vk_29 : ((sm_m 29).2.1.2.2 = false ∧ ¬ (sm_m 29).1.1.name = "<init>") ∧ (sm_m 29).2.1.1 < 14 := by decide +kernel
theorem vk_30 : ((sm_m 30).2.1.2.2 = false ∧ ¬ (sm_m 30).1.1.name = "<init>") ∧ (sm_m 30).2.1.1 < 14 := by decide +kernel
theorem vk_31 : ((sm_m 31).2.1.2.2 = false ∧ ¬ (sm_m 31).1.1.name = "<init>") ∧ (sm_m 31).2.1.1 < 14 := by decide +kernel
theorem vk_32 : ((sm_m 32).2.1.2.2 = false ∧ ¬ (sm_m 32).1.1.name = "<init>") ∧ (sm_m 32).2.1.1 < 14 := by decide +kernel
theorem vk_33 : ((sm_m 33).2.1.2.2 = false ∧ ¬ (sm_m 33).1.1.name = "<init>") ∧ (sm_m 33).2.1.1 < 14 := by decide +kernel
theorem vk_34 : ((sm_m 34).2.1.2.2 = false ∧ ¬ (sm_m 34).1.1.name = "<init>") ∧ (sm_m 34).2.1.1 < 14 := by decide +kernel
theorem vk_35 : ((sm_m 35).2.1.2.2 = false ∧ ¬ (sm_m 35).1.1.name = "<init>") ∧ (sm_m 35).2.1.1 < 14 := by decide +kernel
theorem vk_36 : ((sm_m 36).2.1.2.2 = false ∧ ¬ (sm_m 36).1.1.name = "<init>") ∧ (sm_m 36).2.1.1 < 14 := by decide +kernel
theorem vk_37 : ((sm_m 37).2.1.2.2 = false ∧ ¬ (sm_m 37).1.1.name = "<init>") ∧ (sm_m 37).2.1.1 < 14 := by decide +kernel
theorem vk_38 : ((sm_m 38).2.1.2.2 = false ∧ ¬ (sm_m 38).1.1.name = "<init>") ∧ (sm_m 38).2.1.1 < 14 := by decide +kernel
theorem vk_39 : ((sm_m 39).2.1.2.2 = false ∧ ¬ (sm_m 39).1.1.name = "<init>") ∧ (sm_m 39).2.1.1 < 14 := by decide +kernel
theorem vk_40 : ((sm_m 40).2.1.2.2 = false ∧ ¬ (sm_m 40).1.1.name = "<init>") ∧ (sm_m 40).2.1.1 < 14 := by decide +kernel
theorem vk_42 : ((sm_m 42).2.1.2.2 = false ∧ ¬ (sm_m 42).1.1.name = "<init>") ∧ (sm_m 42).2.1.1 < 14 := by decide +kernel
theorem vk_43 : ((sm_m 43).2.1.2.2 = false ∧ ¬ (sm_m 43).1.1.name = "<init>") ∧ (sm_m 43).2.1.1 < 14 := by decide +kernel
theorem vk_44 : ((sm_m 44).2.1.2.2 = false ∧ ¬ (sm_m 44).1.1.name = "<init>") ∧ (sm_m 44).2.1.1 < 14 := by decide +kernel
theorem vk_45 : ((sm_m 45).2.1.2.2 = false ∧ ¬ (sm_m 45).1.1.name = "<init>") ∧ (sm_m 45).2.1.1 < 14 := by decide +kernel
theorem vk_46 : ((sm_m 46).2.1.2.2 = false ∧ ¬ (sm_m 46).1.1.name = "<init>") ∧ (sm_m 46).2.1.1 < 14 := by decide +kernel
theorem vk_49 : ((sm_m 49).2.1.2.2 = false ∧ ¬ (sm_m 49).1.1.name = "<init>") ∧ (sm_m 49).2.1.1 < 14 := by decide +kernel
theorem vk_50 : ((sm_m 50).2.1.2.2 = false ∧ ¬ (sm_m 50).1.1.name = "<init>") ∧ (sm_m 50).2.1.1 < 14 := by decide +kernel
theorem vk_51 : ((sm_m 51).2.1.2.2 = false ∧ ¬ (sm_m 51).1.1.name = "<init>") ∧ (sm_m 51).2.1.1 < 14 := by decide +kernel
theorem vk_53 : ((sm_m 53).2.1.2.2 = false ∧ ¬ (sm_m 53).1.1.name = "<init>") ∧ (sm_m 53).2.1.1 < 14 := by decide +kernel
theorem vk_54 : ((sm_m 54).2.1.2.2 = false ∧ ¬ (sm_m 54).1.1.name = "<init>") ∧ (sm_m 54).2.1.1 < 14 := by decide +kernel
theorem vk_55 : ((sm_m 55).2.1.2.2 = false ∧ ¬ (sm_m 55).1.1.name = "<init>") ∧ (sm_m 55).2.1.1 < 14 := by decide +kernel
theorem vk_56 : ((sm_m 56).2.1.2.2 = false ∧ ¬ (sm_m 56).1.1.name = "<init>") ∧ (sm_m 56).2.1.1 < 14 := by decide +kernel
theorem vk_58 : ((sm_m 58).2.1.2.2 = false ∧ ¬ (sm_m 58).1.1.name = "<init>") ∧ (sm_m 58).2.1.1 < 14 := by decide +kernel
theorem vk_59 : ((sm_m 59).2.1.2.2 = false ∧ ¬ (sm_m 59).1.1.name = "<init>") ∧ (sm_m 59).2.1.1 < 14 := by decide +kernel
theorem vk_60 : ((sm_m 60).2.1.2.2 = false ∧ ¬ (sm_m 60).1.1.name = "<init>") ∧ (sm_m 60).2.1.1 < 14 := by decide +kernel
theorem vk_61 : ((sm_m 61).2.1.2.2 = false ∧ ¬ (sm_m 61).1.1.name = "<init>") ∧ (sm_m 61).2.1.1 < 14 := by decide +kernel
theorem vk_63 : ((sm_m 63).2.1.2.2 = false ∧ ¬ (sm_m 63).1.1.name = "<init>") ∧ (sm_m 63).2.1.1 < 14 := by decide +kernel
theorem vk_65 : ((sm_m 65).2.1.2.2 = false ∧ ¬ (sm_m 65).1.1.name = "<init>") ∧ (sm_m 65).2.1.1 < 14 := by decide +kernel
theorem vk_67 : ((sm_m 67).2.1.2.2 = false ∧ ¬ (sm_m 67).1.1.name = "<init>") ∧ (sm_m 67).2.1.1 < 14 := by decide +kernel
theorem vk_68 : ((sm_m 68).2.1.2.2 = false ∧ ¬ (sm_m 68).1.1.name = "<init>") ∧ (sm_m 68).2.1.1 < 14 := by decide +kernel
theorem vk_69 : ((sm_m 69).2.1.2.2 = false ∧ ¬ (sm_m 69).1.1.name = "<init>") ∧ (sm_m 69).2.1.1 < 14 := by decide +kernel
theorem vk_70 : ((sm_m 70).2.1.2.2 = false ∧ ¬ (sm_m 70).1.1.name = "<init>") ∧ (sm_m 70).2.1.1 < 14 := by decide +kernel
theorem vk_73 : ((sm_m 73).2.1.2.2 = false ∧ ¬ (sm_m 73).1.1.name = "<init>") ∧ (sm_m 73).2.1.1 < 14 := by decide +kernel
theorem vk_74 : ((sm_m 74).2.1.2.2 = false ∧ ¬ (sm_m 74).1.1.name = "<init>") ∧ (sm_m 74).2.1.1 < 14 := by decide +kernel
theorem vk_75 : ((sm_m 75).2.1.2.2 = false ∧ ¬ (sm_m 75).1.1.name = "<init>") ∧ (sm_m 75).2.1.1 < 14 := by decide +kernel
theorem vk_77 : ((sm_m 77).2.1.2.2 = false ∧ ¬ (sm_m 77).1.1.name = "<init>") ∧ (sm_m 77).2.1.1 < 14 := by decide +kernel
theorem vk_78 : ((sm_m 78).2.1.2.2 = false ∧ ¬ (sm_m 78).1.1.name = "<init>") ∧ (sm_m 78).2.1.1 < 14 := by decide +kernel
theorem vk_79 : ((sm_m 79).2.1.2.2 = false ∧ ¬ (sm_m 79).1.1.name = "<init>") ∧ (sm_m 79).2.1.1 < 14 := by decide +kernel
theorem vk_80 : ((sm_m 80).2.1.2.2 = false ∧ ¬ (sm_m 80).1.1.name = "<init>") ∧ (sm_m 80).2.1.1 < 14 := by decide +kernel
theorem vk_82 : ((sm_m 82).2.1.2.2 = false ∧ ¬ (sm_m 82).1.1.name = "<init>") ∧ (sm_m 82).2.1.1 < 14 := by decide +kernel
theorem vk_83 : ((sm_m 83).2.1.2.2 = false ∧ ¬ (sm_m 83).1.1.name = "<init>") ∧ (sm_m 83).2.1.1 < 14 := by decide +kernel
theorem vk_85 : ((sm_m 85).2.1.2.2 = false ∧ ¬ (sm_m 85).1.1.name = "<init>") ∧ (sm_m 85).2.1.1 < 14 := by decide +kernel
theorem vk_86 : ((sm_m 86).2.1.2.2 = false ∧ ¬ (sm_m 86).1.1.name = "<init>") ∧ (sm_m 86).2.1.1 < 14 := by decide +kernel
theorem vk_87 : ((sm_m 87).2.1.2.2 = false ∧ ¬ (sm_m 87).1.1.name = "<init>") ∧ (sm_m 87).2.1.1 < 14 := by decide +kernel
theorem vk_88 : ((sm_m 88).2.1.2.2 = false ∧ ¬ (sm_m 88).1.1.name = "<init>") ∧ (sm_m 88).2.1.1 < 14 := by decide +kernel
theorem vk_89 : ((sm_m 89).2.1.2.2 = false ∧ ¬ (sm_m 89).1.1.name = "<init>") ∧ (sm_m 89).2.1.1 < 14 := by decide +kernel
theorem vk_91 : ((sm_m 91).2.1.2.2 = false ∧ ¬ (sm_m 91).1.1.name = "<init>") ∧ (sm_m 91).2.1.1 < 14 := by decide +kernel
theorem vk_92 : ((sm_m 92).2.1.2.2 = false ∧ ¬ (sm_m 92).1.1.name = "<init>") ∧ (sm_m 92).2.1.1 < 14 := by decide +kernel
theorem vk_95 : ((sm_m 95).2.1.2.2 = false ∧ ¬ (sm_m 95).1.1.name = "<init>") ∧ (sm_m 95).2.1.1 < 14 := by decide +kernel
theorem vk_96 : ((sm_m 96).2.1.2.2 = false ∧ ¬ (sm_m 96).1.1.name = "<init>") ∧ (sm_m 96).2.1.1 < 14 := by decide +kernel
theorem vk_98 : ((sm_m 98).2.1.2.2 = false ∧ ¬ (sm_m 98).1.1.name = "<init>") ∧ (sm_m 98).2.1.1 < 14 := by decide +kernel
theorem vk_99 : ((sm_m 99).2.1.2.2 = false ∧ ¬ (sm_m 99).1.1.name = "<init>") ∧ (sm_m 99).2.1.1 < 14 := by decide +kernel
