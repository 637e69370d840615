/-! THE LAW (printed by gen/law.py): words, blocks, soundness -/
theorem kw_111 : Cond.classLink RL 8 RX8 ∈ T0 := in_T0_1 21 (by decide +kernel) rfl
theorem kw_112 : Cond.instantiable RX8 (nC 7) ∈ T0 := in_T0_1 22 (by decide +kernel) rfl
theorem kw_113 : Cond.methodLink RL 15 yX8_init ∈ T0 := in_T0_1 23 (by decide +kernel) rfl
theorem kw_114 : Cond.instanceMethod yX8_init ∈ T0 := in_T0_1 24 (by decide +kernel) rfl
theorem kw_115 : Cond.code yX8_init cX8_init 2 none ∈ T0 := in_T0_1 25 (by decide +kernel) rfl
theorem kw_477 : Cond.methodLink RL 21 yX8_feed ∈ T0 := in_T0_2 147 (by decide +kernel) rfl
theorem kw_478 : Cond.instanceMethod yX8_feed ∈ T0 := in_T0_2 148 (by decide +kernel) rfl
theorem kw_479 : Cond.selects RX8 yX8_feed yX8_feed ∈ T0 := in_T0_2 149 (by decide +kernel) rfl
theorem kw_480 : Cond.code yX8_feed cX8_feed 7 (some .int) ∈ T0 := in_T0_2 150 (by decide +kernel) rfl
theorem kw_485 : Cond.methodLink RL 26 yX8_truce ∈ T0 := in_T0_2 155 (by decide +kernel) rfl
theorem kw_486 : Cond.instanceMethod yX8_truce ∈ T0 := in_T0_2 156 (by decide +kernel) rfl
theorem kw_487 : Cond.selects RX8 yX8_truce yX8_truce ∈ T0 := in_T0_2 157 (by decide +kernel) rfl
theorem kw_488 : Cond.code yX8_truce cX8_truce 2 (some .int) ∈ T0 := in_T0_2 158 (by decide +kernel) rfl
theorem kw_620 : Cond.methodLink RL 31 yX8_stone ∈ T0 := in_T0_3 50 (by decide +kernel) rfl
theorem kw_621 : Cond.instanceMethod yX8_stone ∈ T0 := in_T0_3 51 (by decide +kernel) rfl
theorem kw_622 : Cond.selects RX8 yX8_stone yX8_stone ∈ T0 := in_T0_3 52 (by decide +kernel) rfl
theorem kw_623 : Cond.code yX8_stone cX8_stone 3 (some .int) ∈ T0 := in_T0_3 53 (by decide +kernel) rfl
theorem kw_624 : Cond.methodLink RL 36 yX8_set ∈ T0 := in_T0_3 54 (by decide +kernel) rfl
theorem kw_625 : Cond.instanceMethod yX8_set ∈ T0 := in_T0_3 55 (by decide +kernel) rfl
theorem kw_626 : Cond.selects RX8 yX8_set yX8_set ∈ T0 := in_T0_3 56 (by decide +kernel) rfl
theorem kw_627 : Cond.code yX8_set cX8_set 5 (some .int) ∈ T0 := in_T0_3 57 (by decide +kernel) rfl
theorem kw_681 : Cond.methodLink RL 41 yX8_leave ∈ T0 := in_T0_3 111 (by decide +kernel) rfl
theorem kw_682 : Cond.instanceMethod yX8_leave ∈ T0 := in_T0_3 112 (by decide +kernel) rfl
theorem kw_683 : Cond.selects RX8 yX8_leave yX8_leave ∈ T0 := in_T0_3 113 (by decide +kernel) rfl
theorem kw_684 : Cond.code yX8_leave cX8_leave 3 (some .int) ∈ T0 := in_T0_3 114 (by decide +kernel) rfl
theorem kw_691 : Cond.methodLink RL 45 yX8_fits ∈ T0 := in_T0_3 121 (by decide +kernel) rfl
theorem kw_692 : Cond.methodLink RL 49 yX8_undo ∈ T0 := in_T0_3 122 (by decide +kernel) rfl
theorem kw_693 : Cond.instanceMethod yX8_undo ∈ T0 := in_T0_3 123 (by decide +kernel) rfl
theorem kw_694 : Cond.selects RX8 yX8_undo yX8_undo ∈ T0 := in_T0_3 124 (by decide +kernel) rfl
theorem kw_695 : Cond.code yX8_undo cX8_undo 1 (some .boolean) ∈ T0 := in_T0_3 125 (by decide +kernel) rfl
theorem kw_702 : Cond.methodLink RL 54 yX8_column ∈ T0 := in_T0_3 132 (by decide +kernel) rfl
theorem kw_703 : Cond.instanceMethod yX8_column ∈ T0 := in_T0_3 133 (by decide +kernel) rfl
theorem kw_704 : Cond.selects RX8 yX8_column yX8_column ∈ T0 := in_T0_3 134 (by decide +kernel) rfl
theorem kw_705 : Cond.code yX8_column cX8_column 3 (some .int) ∈ T0 := in_T0_3 135 (by decide +kernel) rfl
theorem kw_708 : Cond.methodLink RL 67 yX8_act ∈ T0 := in_T0_3 138 (by decide +kernel) rfl
theorem kw_709 : Cond.instanceMethod yX8_act ∈ T0 := in_T0_3 139 (by decide +kernel) rfl
theorem kw_710 : Cond.selects RX8 yX8_act yX8_act ∈ T0 := in_T0_3 140 (by decide +kernel) rfl
theorem kw_711 : Cond.code yX8_act cX8_act 4 (some .int) ∈ T0 := in_T0_3 141 (by decide +kernel) rfl
theorem kw_716 : Cond.methodLink RL 71 yX8_pays ∈ T0 := in_T0_3 146 (by decide +kernel) rfl
theorem kw_717 : Cond.instanceMethod yX8_pays ∈ T0 := in_T0_3 147 (by decide +kernel) rfl
theorem kw_718 : Cond.selects RX8 yX8_pays yX8_pays ∈ T0 := in_T0_3 148 (by decide +kernel) rfl
theorem kw_719 : Cond.code yX8_pays cX8_pays 1 (some .int) ∈ T0 := in_T0_3 149 (by decide +kernel) rfl
theorem kw_774 : Cond.methodLink RL 75 yX8_days ∈ T0 := in_T0_3 204 (by decide +kernel) rfl
theorem kw_775 : Cond.instanceMethod yX8_days ∈ T0 := in_T0_3 205 (by decide +kernel) rfl
theorem kw_776 : Cond.selects RX8 yX8_days yX8_days ∈ T0 := in_T0_3 206 (by decide +kernel) rfl
theorem kw_777 : Cond.code yX8_days cX8_days 1 (some .int) ∈ T0 := in_T0_3 207 (by decide +kernel) rfl
theorem kw_779 : Cond.methodLink RL 79 yX8_best ∈ T0 := in_T0_3 209 (by decide +kernel) rfl
theorem kw_780 : Cond.instanceMethod yX8_best ∈ T0 := in_T0_3 210 (by decide +kernel) rfl
theorem kw_781 : Cond.selects RX8 yX8_best yX8_best ∈ T0 := in_T0_3 211 (by decide +kernel) rfl
theorem kw_782 : Cond.code yX8_best cX8_best 5 (some .int) ∈ T0 := in_T0_3 212 (by decide +kernel) rfl
theorem kw_790 : Cond.methodLink RL 83 yX8_holds ∈ T0 := in_T0_3 220 (by decide +kernel) rfl
theorem kw_791 : Cond.instanceMethod yX8_holds ∈ T0 := in_T0_3 221 (by decide +kernel) rfl
theorem kw_792 : Cond.selects RX8 yX8_holds yX8_holds ∈ T0 := in_T0_3 222 (by decide +kernel) rfl
theorem kw_793 : Cond.code yX8_holds cX8_holds 2 (some .int) ∈ T0 := in_T0_3 223 (by decide +kernel) rfl
theorem kw_794 : Cond.methodLink RL 87 yX8_mason ∈ T0 := in_T0_3 224 (by decide +kernel) rfl
theorem kw_795 : Cond.instanceMethod yX8_mason ∈ T0 := in_T0_3 225 (by decide +kernel) rfl
theorem kw_796 : Cond.selects RX8 yX8_mason yX8_mason ∈ T0 := in_T0_3 226 (by decide +kernel) rfl
theorem kw_797 : Cond.code yX8_mason cX8_mason 3 (some .int) ∈ T0 := in_T0_3 227 (by decide +kernel) rfl
theorem kw_798 : Cond.methodLink RL 91 yX8_reached ∈ T0 := in_T0_3 228 (by decide +kernel) rfl
theorem kw_799 : Cond.instanceMethod yX8_reached ∈ T0 := in_T0_3 229 (by decide +kernel) rfl
theorem kw_800 : Cond.selects RX8 yX8_reached yX8_reached ∈ T0 := in_T0_3 230 (by decide +kernel) rfl
theorem kw_801 : Cond.code yX8_reached cX8_reached 2 (some .int) ∈ T0 := in_T0_3 231 (by decide +kernel) rfl
theorem kw_837 : Cond.methodLink RL 95 yX8_histories ∈ T0 := in_T0_4 27 (by decide +kernel) rfl
theorem kw_838 : Cond.instanceMethod yX8_histories ∈ T0 := in_T0_4 28 (by decide +kernel) rfl
theorem kw_839 : Cond.selects RX8 yX8_histories yX8_histories ∈ T0 := in_T0_4 29 (by decide +kernel) rfl
theorem kw_840 : Cond.code yX8_histories cX8_histories 2 (some .int) ∈ T0 := in_T0_4 30 (by decide +kernel) rfl
theorem kw_845 : Cond.methodLink RL 99 yX8_lots ∈ T0 := in_T0_4 35 (by decide +kernel) rfl
theorem kw_846 : Cond.instanceMethod yX8_lots ∈ T0 := in_T0_4 36 (by decide +kernel) rfl
theorem kw_847 : Cond.selects RX8 yX8_lots yX8_lots ∈ T0 := in_T0_4 37 (by decide +kernel) rfl
theorem kw_848 : Cond.code yX8_lots cX8_lots 14 (some .int) ∈ T0 := in_T0_4 38 (by decide +kernel) rfl
theorem kw_854 : Cond.methodLink RL 103 yX8_mark ∈ T0 := in_T0_4 44 (by decide +kernel) rfl
theorem kw_855 : Cond.instanceMethod yX8_mark ∈ T0 := in_T0_4 45 (by decide +kernel) rfl
theorem kw_856 : Cond.selects RX8 yX8_mark yX8_mark ∈ T0 := in_T0_4 46 (by decide +kernel) rfl
theorem kw_857 : Cond.code yX8_mark cX8_mark 4 (some .boolean) ∈ T0 := in_T0_4 47 (by decide +kernel) rfl
theorem kw_868 : Cond.methodLink RL 108 yX8_count ∈ T0 := in_T0_4 58 (by decide +kernel) rfl
theorem kw_869 : Cond.instanceMethod yX8_count ∈ T0 := in_T0_4 59 (by decide +kernel) rfl
theorem kw_870 : Cond.selects RX8 yX8_count yX8_count ∈ T0 := in_T0_4 60 (by decide +kernel) rfl
theorem kw_871 : Cond.code yX8_count cX8_count 2 (some .int) ∈ T0 := in_T0_4 61 (by decide +kernel) rfl
theorem kw_947 : Cond.classLink RL 16 RX9 ∈ T0 := in_T0_4 137 (by decide +kernel) rfl
theorem kw_948 : Cond.instantiable RX9 (nC 8) ∈ T0 := in_T0_4 138 (by decide +kernel) rfl
theorem kw_949 : Cond.methodLink RL 18 yX9_init ∈ T0 := in_T0_4 139 (by decide +kernel) rfl
theorem kw_950 : Cond.instanceMethod yX9_init ∈ T0 := in_T0_4 140 (by decide +kernel) rfl
theorem kw_951 : Cond.code yX9_init cX9_init 1 none ∈ T0 := in_T0_4 141 (by decide +kernel) rfl
theorem kw_1163 : Cond.methodLink RL 64 yX9_thrown ∈ T0 := in_T0_5 113 (by decide +kernel) rfl
theorem kw_1164 : Cond.instanceMethod yX9_thrown ∈ T0 := in_T0_5 114 (by decide +kernel) rfl
theorem kw_1165 : Cond.selects RX9 yX9_thrown yX9_thrown ∈ T0 := in_T0_5 115 (by decide +kernel) rfl
theorem kw_1166 : Cond.code yX9_thrown cX9_thrown 1 (some .int) ∈ T0 := in_T0_5 116 (by decide +kernel) rfl
theorem kw_1167 : Cond.methodLink RL 25 yX9_feed ∈ T0 := in_T0_5 117 (by decide +kernel) rfl
theorem kw_1168 : Cond.instanceMethod yX9_feed ∈ T0 := in_T0_5 118 (by decide +kernel) rfl
theorem kw_1169 : Cond.selects RX9 yX9_feed yX9_feed ∈ T0 := in_T0_5 119 (by decide +kernel) rfl
theorem kw_1170 : Cond.code yX9_feed cX9_feed 11 (some .int) ∈ T0 := in_T0_5 120 (by decide +kernel) rfl
theorem kw_1172 : Cond.methodLink RL 30 yX9_truce ∈ T0 := in_T0_5 122 (by decide +kernel) rfl
theorem kw_1173 : Cond.instanceMethod yX9_truce ∈ T0 := in_T0_5 123 (by decide +kernel) rfl
theorem kw_1174 : Cond.selects RX9 yX9_truce yX9_truce ∈ T0 := in_T0_5 124 (by decide +kernel) rfl
theorem kw_1175 : Cond.code yX9_truce cX9_truce 1 (some .int) ∈ T0 := in_T0_5 125 (by decide +kernel) rfl
theorem kw_1266 : Cond.methodLink RL 35 yX9_stone ∈ T0 := in_T0_5 216 (by decide +kernel) rfl
theorem kw_1267 : Cond.instanceMethod yX9_stone ∈ T0 := in_T0_5 217 (by decide +kernel) rfl
theorem kw_1268 : Cond.selects RX9 yX9_stone yX9_stone ∈ T0 := in_T0_5 218 (by decide +kernel) rfl
theorem kw_1269 : Cond.code yX9_stone cX9_stone 3 (some .int) ∈ T0 := in_T0_5 219 (by decide +kernel) rfl
theorem kw_1270 : Cond.methodLink RL 40 yX9_set ∈ T0 := in_T0_5 220 (by decide +kernel) rfl
theorem kw_1271 : Cond.instanceMethod yX9_set ∈ T0 := in_T0_5 221 (by decide +kernel) rfl
theorem kw_1272 : Cond.selects RX9 yX9_set yX9_set ∈ T0 := in_T0_5 222 (by decide +kernel) rfl
theorem kw_1273 : Cond.code yX9_set cX9_set 5 (some .int) ∈ T0 := in_T0_5 223 (by decide +kernel) rfl
theorem kw_1302 : Cond.methodLink RL 44 yX9_leave ∈ T0 := in_T0_6 12 (by decide +kernel) rfl
theorem kw_1303 : Cond.instanceMethod yX9_leave ∈ T0 := in_T0_6 13 (by decide +kernel) rfl
theorem kw_1304 : Cond.selects RX9 yX9_leave yX9_leave ∈ T0 := in_T0_6 14 (by decide +kernel) rfl
theorem kw_1305 : Cond.code yX9_leave cX9_leave 3 (some .int) ∈ T0 := in_T0_6 15 (by decide +kernel) rfl
theorem kw_1306 : Cond.methodLink RL 48 yX9_fits ∈ T0 := in_T0_6 16 (by decide +kernel) rfl
theorem kw_1307 : Cond.instanceMethod yX9_fits ∈ T0 := in_T0_6 17 (by decide +kernel) rfl
theorem kw_1308 : Cond.selects RX9 yX9_fits yX9_fits ∈ T0 := in_T0_6 18 (by decide +kernel) rfl
theorem kw_1309 : Cond.code yX9_fits cX9_fits 4 (some .int) ∈ T0 := in_T0_6 19 (by decide +kernel) rfl
theorem kw_1310 : Cond.methodLink RL 53 yX9_undo ∈ T0 := in_T0_6 20 (by decide +kernel) rfl
theorem kw_1311 : Cond.instanceMethod yX9_undo ∈ T0 := in_T0_6 21 (by decide +kernel) rfl
theorem kw_1312 : Cond.selects RX9 yX9_undo yX9_undo ∈ T0 := in_T0_6 22 (by decide +kernel) rfl
theorem kw_1313 : Cond.code yX9_undo cX9_undo 2 (some .boolean) ∈ T0 := in_T0_6 23 (by decide +kernel) rfl
theorem kw_1314 : Cond.methodLink RL 57 yX9_column ∈ T0 := in_T0_6 24 (by decide +kernel) rfl
theorem kw_1315 : Cond.instanceMethod yX9_column ∈ T0 := in_T0_6 25 (by decide +kernel) rfl
theorem kw_1316 : Cond.selects RX9 yX9_column yX9_column ∈ T0 := in_T0_6 26 (by decide +kernel) rfl
theorem kw_1317 : Cond.code yX9_column cX9_column 3 (some .int) ∈ T0 := in_T0_6 27 (by decide +kernel) rfl
theorem kw_1318 : Cond.methodLink RL 63 yX9_state ∈ T0 := in_T0_6 28 (by decide +kernel) rfl
theorem kw_1319 : Cond.instanceMethod yX9_state ∈ T0 := in_T0_6 29 (by decide +kernel) rfl
theorem kw_1320 : Cond.selects RX9 yX9_state yX9_state ∈ T0 := in_T0_6 30 (by decide +kernel) rfl
theorem kw_1321 : Cond.code yX9_state cX9_state 2 (some .int) ∈ T0 := in_T0_6 31 (by decide +kernel) rfl
theorem kw_1330 : Cond.methodLink RL 70 yX9_act ∈ T0 := in_T0_6 40 (by decide +kernel) rfl
theorem kw_1331 : Cond.instanceMethod yX9_act ∈ T0 := in_T0_6 41 (by decide +kernel) rfl
theorem kw_1332 : Cond.selects RX9 yX9_act yX9_act ∈ T0 := in_T0_6 42 (by decide +kernel) rfl
theorem kw_1333 : Cond.code yX9_act cX9_act 3 (some .int) ∈ T0 := in_T0_6 43 (by decide +kernel) rfl
theorem kw_1338 : Cond.methodLink RL 74 yX9_pays ∈ T0 := in_T0_6 48 (by decide +kernel) rfl
theorem kw_1339 : Cond.instanceMethod yX9_pays ∈ T0 := in_T0_6 49 (by decide +kernel) rfl
theorem kw_1340 : Cond.selects RX9 yX9_pays yX9_pays ∈ T0 := in_T0_6 50 (by decide +kernel) rfl
theorem kw_1341 : Cond.code yX9_pays cX9_pays 1 (some .int) ∈ T0 := in_T0_6 51 (by decide +kernel) rfl
theorem kw_1373 : Cond.methodLink RL 78 yX9_days ∈ T0 := in_T0_6 83 (by decide +kernel) rfl
theorem kw_1374 : Cond.instanceMethod yX9_days ∈ T0 := in_T0_6 84 (by decide +kernel) rfl
theorem kw_1375 : Cond.selects RX9 yX9_days yX9_days ∈ T0 := in_T0_6 85 (by decide +kernel) rfl
theorem kw_1376 : Cond.code yX9_days cX9_days 1 (some .int) ∈ T0 := in_T0_6 86 (by decide +kernel) rfl
theorem kw_1377 : Cond.methodLink RL 82 yX9_best ∈ T0 := in_T0_6 87 (by decide +kernel) rfl
theorem kw_1378 : Cond.instanceMethod yX9_best ∈ T0 := in_T0_6 88 (by decide +kernel) rfl
theorem kw_1379 : Cond.selects RX9 yX9_best yX9_best ∈ T0 := in_T0_6 89 (by decide +kernel) rfl
theorem kw_1380 : Cond.code yX9_best cX9_best 4 (some .int) ∈ T0 := in_T0_6 90 (by decide +kernel) rfl
theorem kw_1385 : Cond.methodLink RL 86 yX9_holds ∈ T0 := in_T0_6 95 (by decide +kernel) rfl
theorem kw_1386 : Cond.instanceMethod yX9_holds ∈ T0 := in_T0_6 96 (by decide +kernel) rfl
theorem kw_1387 : Cond.selects RX9 yX9_holds yX9_holds ∈ T0 := in_T0_6 97 (by decide +kernel) rfl
theorem kw_1388 : Cond.code yX9_holds cX9_holds 3 (some .int) ∈ T0 := in_T0_6 98 (by decide +kernel) rfl
theorem kw_1389 : Cond.methodLink RL 90 yX9_mason ∈ T0 := in_T0_6 99 (by decide +kernel) rfl
theorem kw_1390 : Cond.instanceMethod yX9_mason ∈ T0 := in_T0_6 100 (by decide +kernel) rfl
theorem kw_1391 : Cond.selects RX9 yX9_mason yX9_mason ∈ T0 := in_T0_6 101 (by decide +kernel) rfl
theorem kw_1392 : Cond.code yX9_mason cX9_mason 4 (some .int) ∈ T0 := in_T0_6 102 (by decide +kernel) rfl
theorem kw_1401 : Cond.methodLink RL 94 yX9_reached ∈ T0 := in_T0_6 111 (by decide +kernel) rfl
theorem kw_1402 : Cond.instanceMethod yX9_reached ∈ T0 := in_T0_6 112 (by decide +kernel) rfl
theorem kw_1403 : Cond.selects RX9 yX9_reached yX9_reached ∈ T0 := in_T0_6 113 (by decide +kernel) rfl
theorem kw_1404 : Cond.code yX9_reached cX9_reached 6 (some .int) ∈ T0 := in_T0_6 114 (by decide +kernel) rfl
theorem kw_1414 : Cond.methodLink RL 98 yX9_histories ∈ T0 := in_T0_6 124 (by decide +kernel) rfl
theorem kw_1415 : Cond.instanceMethod yX9_histories ∈ T0 := in_T0_6 125 (by decide +kernel) rfl
theorem kw_1416 : Cond.selects RX9 yX9_histories yX9_histories ∈ T0 := in_T0_6 126 (by decide +kernel) rfl
theorem kw_1417 : Cond.code yX9_histories cX9_histories 5 (some .int) ∈ T0 := in_T0_6 127 (by decide +kernel) rfl
theorem kw_1418 : Cond.methodLink RL 102 yX9_lots ∈ T0 := in_T0_6 128 (by decide +kernel) rfl
theorem kw_1419 : Cond.instanceMethod yX9_lots ∈ T0 := in_T0_6 129 (by decide +kernel) rfl
theorem kw_1420 : Cond.selects RX9 yX9_lots yX9_lots ∈ T0 := in_T0_6 130 (by decide +kernel) rfl
theorem kw_1421 : Cond.code yX9_lots cX9_lots 7 (some .int) ∈ T0 := in_T0_6 131 (by decide +kernel) rfl
theorem kw_1430 : Cond.methodLink RL 107 yX9_mark ∈ T0 := in_T0_6 140 (by decide +kernel) rfl
theorem kw_1431 : Cond.instanceMethod yX9_mark ∈ T0 := in_T0_6 141 (by decide +kernel) rfl
theorem kw_1432 : Cond.selects RX9 yX9_mark yX9_mark ∈ T0 := in_T0_6 142 (by decide +kernel) rfl
theorem kw_1433 : Cond.code yX9_mark cX9_mark 5 (some .boolean) ∈ T0 := in_T0_6 143 (by decide +kernel) rfl
theorem kw_1434 : Cond.methodLink RL 111 yX9_count ∈ T0 := in_T0_6 144 (by decide +kernel) rfl
theorem kw_1435 : Cond.instanceMethod yX9_count ∈ T0 := in_T0_6 145 (by decide +kernel) rfl
theorem kw_1436 : Cond.selects RX9 yX9_count yX9_count ∈ T0 := in_T0_6 146 (by decide +kernel) rfl
theorem kw_1437 : Cond.code yX9_count cX9_count 2 (some .int) ∈ T0 := in_T0_6 147 (by decide +kernel) rfl
theorem kw_1438 : Cond.constantLong RL 19 (4294967295) ∈ T0 := in_T0_6 148 (by decide +kernel) rfl
def BL_0 (L : Nat) (sx : Nat → Int32) (orc : Orc) : K := o_new 7 (o_dup (o_nV orc 86 1 (o_astore 1 (o_new 8 (o_dup (o_nV orc 112 1 (o_astore 2 (o_iconst 1 (o_newa 1 (o_astore 3 (o_iconst 0 (o_istore 4 (o_jmp 1)))))))))))))
def BL_1 (L : Nat) (sx : Nat → Int32) (orc : Orc) : K := o_iload 4 (o_sload 0 (o_xlen L (o_iconst 7 (o_i2 (fun x y => x - y) (o_igt (o_iconst 1 (o_zret)) (o_sload 0 (o_iload 4 (o_xld L sx (o_iconst 31 (o_i2 (fun x y => x &&& y) (o_sw [(0, o_jmp 2), (1, o_jmp 3), (2, o_jmp 4), (3, o_jmp 5), (4, o_jmp 6), (5, o_jmp 7), (6, o_jmp 8), (7, o_jmp 9), (8, o_jmp 10), (9, o_jmp 12), (10, o_jmp 13), (11, o_jmp 14), (12, o_jmp 15), (13, o_jmp 16), (14, o_jmp 17), (15, o_jmp 18), (16, o_jmp 19), (17, o_jmp 20), (18, o_jmp 21), (19, o_jmp 24)] (o_jmp 25))))))))))))
def BL_2 (L : Nat) (sx : Nat → Int32) (orc : Orc) : K := o_aload 1 (o_sload 0 (o_iload 4 (o_iconst 1 (o_i2 (fun x y => x + y) (o_xld L sx (o_i2l (o_iconst 32 (o_lsh (fun x y => x <<< (y.toInt64 &&& 63)) (o_sload 0 (o_iload 4 (o_iconst 2 (o_i2 (fun x y => x + y) (o_xld L sx (o_i2l (o_lconst 4294967295 (o_l2 (fun x y => x &&& y) (o_l2 (fun x y => x ||| y) (o_sload 0 (o_iload 4 (o_iconst 3 (o_i2 (fun x y => x + y) (o_xld L sx (o_i2l (o_iconst 32 (o_lsh (fun x y => x <<< (y.toInt64 &&& 63)) (o_sload 0 (o_iload 4 (o_iconst 4 (o_i2 (fun x y => x + y) (o_xld L sx (o_i2l (o_lconst 4294967295 (o_l2 (fun x y => x &&& y) (o_l2 (fun x y => x ||| y) (o_sload 0 (o_iload 4 (o_iconst 5 (o_i2 (fun x y => x + y) (o_xld L sx (o_i2l (o_iconst 32 (o_lsh (fun x y => x <<< (y.toInt64 &&& 63)) (o_sload 0 (o_iload 4 (o_iconst 6 (o_i2 (fun x y => x + y) (o_xld L sx (o_i2l (o_lconst 4294967295 (o_l2 (fun x y => x &&& y) (o_l2 (fun x y => x ||| y) (o_vI orc 87 4 7 (o_aload 2 (o_sload 0 (o_iload 4 (o_iconst 1 (o_i2 (fun x y => x + y) (o_xld L sx (o_i2l (o_iconst 32 (o_lsh (fun x y => x <<< (y.toInt64 &&& 63)) (o_sload 0 (o_iload 4 (o_iconst 2 (o_i2 (fun x y => x + y) (o_xld L sx (o_i2l (o_lconst 4294967295 (o_l2 (fun x y => x &&& y) (o_l2 (fun x y => x ||| y) (o_sload 0 (o_iload 4 (o_iconst 3 (o_i2 (fun x y => x + y) (o_xld L sx (o_i2l (o_iconst 32 (o_lsh (fun x y => x <<< (y.toInt64 &&& 63)) (o_sload 0 (o_iload 4 (o_iconst 4 (o_i2 (fun x y => x + y) (o_xld L sx (o_i2l (o_lconst 4294967295 (o_l2 (fun x y => x &&& y) (o_l2 (fun x y => x ||| y) (o_sload 0 (o_iload 4 (o_iconst 5 (o_i2 (fun x y => x + y) (o_xld L sx (o_i2l (o_iconst 32 (o_lsh (fun x y => x <<< (y.toInt64 &&& 63)) (o_sload 0 (o_iload 4 (o_iconst 6 (o_i2 (fun x y => x + y) (o_xld L sx (o_i2l (o_lconst 4294967295 (o_l2 (fun x y => x &&& y) (o_l2 (fun x y => x ||| y) (o_vI orc 115 4 8 (o_ieq (o_jmp 25) (o_iconst 0 (o_zret))))))))))))))))))))))))))))))))))))))))))))))))))))))))))))))))))))))))))))))))))))))))))))))))))))))))))))
def BL_3 (L : Nat) (sx : Nat → Int32) (orc : Orc) : K := o_aload 1 (o_vI orc 88 1 7 (o_aload 2 (o_vI orc 138 1 8 (o_ieq (o_jmp 25) (o_iconst 0 (o_zret))))))
def BL_4 (L : Nat) (sx : Nat → Int32) (orc : Orc) : K := o_aload 1 (o_sload 0 (o_iload 4 (o_iconst 1 (o_i2 (fun x y => x + y) (o_xld L sx (o_sload 0 (o_iload 4 (o_iconst 2 (o_i2 (fun x y => x + y) (o_xld L sx (o_vI orc 89 3 7 (o_aload 2 (o_sload 0 (o_iload 4 (o_iconst 1 (o_i2 (fun x y => x + y) (o_xld L sx (o_sload 0 (o_iload 4 (o_iconst 2 (o_i2 (fun x y => x + y) (o_xld L sx (o_vI orc 156 3 8 (o_ieq (o_jmp 25) (o_iconst 0 (o_zret))))))))))))))))))))))))))
def BL_5 (L : Nat) (sx : Nat → Int32) (orc : Orc) : K := o_aload 1 (o_sload 0 (o_iload 4 (o_iconst 1 (o_i2 (fun x y => x + y) (o_xld L sx (o_sload 0 (o_iload 4 (o_iconst 2 (o_i2 (fun x y => x + y) (o_xld L sx (o_sload 0 (o_iload 4 (o_iconst 3 (o_i2 (fun x y => x + y) (o_xld L sx (o_vI orc 90 4 7 (o_aload 2 (o_sload 0 (o_iload 4 (o_iconst 1 (o_i2 (fun x y => x + y) (o_xld L sx (o_sload 0 (o_iload 4 (o_iconst 2 (o_i2 (fun x y => x + y) (o_xld L sx (o_sload 0 (o_iload 4 (o_iconst 3 (o_i2 (fun x y => x + y) (o_xld L sx (o_vI orc 157 4 8 (o_ieq (o_jmp 25) (o_iconst 0 (o_zret))))))))))))))))))))))))))))))))))))
def BL_6 (L : Nat) (sx : Nat → Int32) (orc : Orc) : K := o_aload 1 (o_sload 0 (o_iload 4 (o_iconst 1 (o_i2 (fun x y => x + y) (o_xld L sx (o_vI orc 91 2 7 (o_aload 2 (o_sload 0 (o_iload 4 (o_iconst 1 (o_i2 (fun x y => x + y) (o_xld L sx (o_vI orc 158 2 8 (o_ieq (o_jmp 25) (o_iconst 0 (o_zret))))))))))))))))
def BL_7 (L : Nat) (sx : Nat → Int32) (orc : Orc) : K := o_aload 1 (o_sload 0 (o_iload 4 (o_iconst 1 (o_i2 (fun x y => x + y) (o_xld L sx (o_sload 0 (o_iload 4 (o_iconst 2 (o_i2 (fun x y => x + y) (o_xld L sx (o_sload 0 (o_iload 4 (o_iconst 3 (o_i2 (fun x y => x + y) (o_xld L sx (o_vI orc 92 4 7 (o_aload 2 (o_sload 0 (o_iload 4 (o_iconst 1 (o_i2 (fun x y => x + y) (o_xld L sx (o_sload 0 (o_iload 4 (o_iconst 2 (o_i2 (fun x y => x + y) (o_xld L sx (o_sload 0 (o_iload 4 (o_iconst 3 (o_i2 (fun x y => x + y) (o_xld L sx (o_vI orc 159 4 8 (o_ieq (o_jmp 25) (o_iconst 0 (o_zret))))))))))))))))))))))))))))))))))))
def BL_8 (L : Nat) (sx : Nat → Int32) (orc : Orc) : K := o_aload 1 (o_vI orc 93 1 7 (o_aload 2 (o_vI orc 160 1 8 (o_ieq (o_jmp 25) (o_iconst 0 (o_zret))))))
def BL_9 (L : Nat) (sx : Nat → Int32) (orc : Orc) : K := o_aload 1 (o_sload 0 (o_iload 4 (o_iconst 1 (o_i2 (fun x y => x + y) (o_xld L sx (o_sload 0 (o_iload 4 (o_iconst 2 (o_i2 (fun x y => x + y) (o_xld L sx (o_vI orc 94 3 7 (o_aload 2 (o_sload 0 (o_iload 4 (o_iconst 1 (o_i2 (fun x y => x + y) (o_xld L sx (o_sload 0 (o_iload 4 (o_iconst 2 (o_i2 (fun x y => x + y) (o_xld L sx (o_vI orc 161 3 8 (o_ieq (o_jmp 25) (o_iconst 0 (o_zret))))))))))))))))))))))))))
def BL_10 (L : Nat) (sx : Nat → Int32) (orc : Orc) : K := o_aload 1 (o_sload 0 (o_iload 4 (o_iconst 1 (o_i2 (fun x y => x + y) (o_xld L sx (o_aload 3 (o_sI (orL orc) 195 3 (o_istore 5 (o_aload 2 (o_sload 0 (o_iload 4 (o_iconst 1 (o_i2 (fun x y => x + y) (o_xld L sx (o_vI orc 163 2 8 (o_istore 6 (o_aload 2 (o_vI orc 113 1 8 (o_iload 5 (o_ieq (o_iload 5 (o_if0 (o_aload 3 (o_iconst 0 (o_lald (o_iload 6 (o_i2l (o_lcmp (o_if0 (o_jmp 11) (o_iconst 0 (o_zret))))))))) (o_jmp 11))) (o_iconst 0 (o_zret))))))))))))))))))))))
def BL_11 (L : Nat) (sx : Nat → Int32) (orc : Orc) : K := o_jmp 25
def BL_12 (L : Nat) (sx : Nat → Int32) (orc : Orc) : K := o_aload 1 (o_sload 0 (o_iload 4 (o_iconst 1 (o_i2 (fun x y => x + y) (o_xld L sx (o_sload 0 (o_iload 4 (o_iconst 2 (o_i2 (fun x y => x + y) (o_xld L sx (o_vI orc 95 3 7 (o_aload 2 (o_sload 0 (o_iload 4 (o_iconst 1 (o_i2 (fun x y => x + y) (o_xld L sx (o_sload 0 (o_iload 4 (o_iconst 2 (o_i2 (fun x y => x + y) (o_xld L sx (o_vI orc 164 3 8 (o_ieq (o_jmp 25) (o_iconst 0 (o_zret))))))))))))))))))))))))))
def BL_13 (L : Nat) (sx : Nat → Int32) (orc : Orc) : K := o_aload 1 (o_vI orc 96 1 7 (o_aload 2 (o_vI orc 174 1 8 (o_ieq (o_jmp 25) (o_iconst 0 (o_zret))))))
def BL_14 (L : Nat) (sx : Nat → Int32) (orc : Orc) : K := o_aload 1 (o_vI orc 97 1 7 (o_aload 2 (o_vI orc 175 1 8 (o_ieq (o_jmp 25) (o_iconst 0 (o_zret))))))
def BL_15 (L : Nat) (sx : Nat → Int32) (orc : Orc) : K := o_aload 1 (o_vI orc 98 1 7 (o_aload 2 (o_vI orc 177 1 8 (o_ieq (o_jmp 25) (o_iconst 0 (o_zret))))))
def BL_16 (L : Nat) (sx : Nat → Int32) (orc : Orc) : K := o_aload 1 (o_sload 0 (o_iload 4 (o_iconst 1 (o_i2 (fun x y => x + y) (o_xld L sx (o_vI orc 99 2 7 (o_aload 2 (o_sload 0 (o_iload 4 (o_iconst 1 (o_i2 (fun x y => x + y) (o_xld L sx (o_vI orc 178 2 8 (o_ieq (o_jmp 25) (o_iconst 0 (o_zret))))))))))))))))
def BL_17 (L : Nat) (sx : Nat → Int32) (orc : Orc) : K := o_aload 1 (o_sload 0 (o_iload 4 (o_iconst 1 (o_i2 (fun x y => x + y) (o_xld L sx (o_sload 0 (o_iload 4 (o_iconst 2 (o_i2 (fun x y => x + y) (o_xld L sx (o_vI orc 100 3 7 (o_aload 2 (o_sload 0 (o_iload 4 (o_iconst 1 (o_i2 (fun x y => x + y) (o_xld L sx (o_sload 0 (o_iload 4 (o_iconst 2 (o_i2 (fun x y => x + y) (o_xld L sx (o_vI orc 181 3 8 (o_ieq (o_jmp 25) (o_iconst 0 (o_zret))))))))))))))))))))))))))
def BL_18 (L : Nat) (sx : Nat → Int32) (orc : Orc) : K := o_aload 1 (o_sload 0 (o_iload 4 (o_iconst 1 (o_i2 (fun x y => x + y) (o_xld L sx (o_vI orc 101 2 7 (o_aload 2 (o_sload 0 (o_iload 4 (o_iconst 1 (o_i2 (fun x y => x + y) (o_xld L sx (o_vI orc 183 2 8 (o_ieq (o_jmp 25) (o_iconst 0 (o_zret))))))))))))))))
def BL_19 (L : Nat) (sx : Nat → Int32) (orc : Orc) : K := o_aload 1 (o_sload 0 (o_iload 4 (o_iconst 1 (o_i2 (fun x y => x + y) (o_xld L sx (o_vI orc 102 2 7 (o_aload 2 (o_sload 0 (o_iload 4 (o_iconst 1 (o_i2 (fun x y => x + y) (o_xld L sx (o_vI orc 184 2 8 (o_ieq (o_jmp 25) (o_iconst 0 (o_zret))))))))))))))))
def BL_20 (L : Nat) (sx : Nat → Int32) (orc : Orc) : K := o_aload 1 (o_sload 0 (o_iload 4 (o_iconst 1 (o_i2 (fun x y => x + y) (o_xld L sx (o_sload 0 (o_iload 4 (o_iconst 2 (o_i2 (fun x y => x + y) (o_xld L sx (o_sload 0 (o_iload 4 (o_iconst 3 (o_i2 (fun x y => x + y) (o_xld L sx (o_vI orc 103 4 7 (o_aload 2 (o_sload 0 (o_iload 4 (o_iconst 1 (o_i2 (fun x y => x + y) (o_xld L sx (o_sload 0 (o_iload 4 (o_iconst 2 (o_i2 (fun x y => x + y) (o_xld L sx (o_sload 0 (o_iload 4 (o_iconst 3 (o_i2 (fun x y => x + y) (o_xld L sx (o_vI orc 186 4 8 (o_ieq (o_jmp 25) (o_iconst 0 (o_zret))))))))))))))))))))))))))))))))))))
def BL_21 (L : Nat) (sx : Nat → Int32) (orc : Orc) : K := o_aload 1 (o_sload 0 (o_iload 4 (o_iconst 1 (o_i2 (fun x y => x + y) (o_xld L sx (o_sload 0 (o_iload 4 (o_iconst 2 (o_i2 (fun x y => x + y) (o_xld L sx (o_if0 (o_iconst 0 (o_jmp 22)) (o_iconst 1 (o_jmp 22)))))))))))))
def BL_22 (L : Nat) (sx : Nat → Int32) (orc : Orc) : K := o_vI orc 104 3 7 (o_aload 2 (o_sload 0 (o_iload 4 (o_iconst 1 (o_i2 (fun x y => x + y) (o_xld L sx (o_sload 0 (o_iload 4 (o_iconst 2 (o_i2 (fun x y => x + y) (o_xld L sx (o_if0 (o_iconst 0 (o_jmp 23)) (o_iconst 1 (o_jmp 23))))))))))))))
def BL_23 (L : Nat) (sx : Nat → Int32) (orc : Orc) : K := o_vI orc 187 3 8 (o_ieq (o_jmp 25) (o_iconst 0 (o_zret)))
def BL_24 (L : Nat) (sx : Nat → Int32) (orc : Orc) : K := o_aload 1 (o_sload 0 (o_iload 4 (o_iconst 1 (o_i2 (fun x y => x + y) (o_xld L sx (o_vI orc 105 2 7 (o_aload 2 (o_sload 0 (o_iload 4 (o_iconst 1 (o_i2 (fun x y => x + y) (o_xld L sx (o_vI orc 188 2 8 (o_ieq (o_jmp 25) (o_iconst 0 (o_zret))))))))))))))))
def BL_25 (L : Nat) (sx : Nat → Int32) (orc : Orc) : K := o_iinc 4 7 (o_jmp 1)
def PL (L : Nat) (sx : Nat → Int32) (orc : Orc) (b : Nat) : K := match b with
  | 0 => BL_0 L sx orc
  | 1 => BL_1 L sx orc
  | 2 => BL_2 L sx orc
  | 3 => BL_3 L sx orc
  | 4 => BL_4 L sx orc
  | 5 => BL_5 L sx orc
  | 6 => BL_6 L sx orc
  | 7 => BL_7 L sx orc
  | 8 => BL_8 L sx orc
  | 9 => BL_9 L sx orc
  | 10 => BL_10 L sx orc
  | 11 => BL_11 L sx orc
  | 12 => BL_12 L sx orc
  | 13 => BL_13 L sx orc
  | 14 => BL_14 L sx orc
  | 15 => BL_15 L sx orc
  | 16 => BL_16 L sx orc
  | 17 => BL_17 L sx orc
  | 18 => BL_18 L sx orc
  | 19 => BL_19 L sx orc
  | 20 => BL_20 L sx orc
  | 21 => BL_21 L sx orc
  | 22 => BL_22 L sx orc
  | 23 => BL_23 L sx orc
  | 24 => BL_24 L sx orc
  | 25 => BL_25 L sx orc
  | _ => fun _ _ _ => none
def QL (b : Nat) : Nat := match b with
  | 0 => 0
  | 1 => 23
  | 2 => 136
  | 3 => 283
  | 4 => 296
  | 5 => 333
  | 6 => 382
  | 7 => 407
  | 8 => 456
  | 9 => 469
  | 10 => 506
  | 11 => 559
  | 12 => 562
  | 13 => 599
  | 14 => 612
  | 15 => 625
  | 16 => 638
  | 17 => 663
  | 18 => 700
  | 19 => 725
  | 20 => 750
  | 21 => 799
  | 22 => 820
  | 23 => 844
  | 24 => 852
  | 25 => 877
  | _ => 0
theorem so_L_law_40 {α : Type} {a0 a1 a2 a3 a4 a5 a6 a7 a8 a9 a10 a11 a12 a13 a14 a15 a16 a17 a18 a19 : α} (x : Int32) (hx : ∀ q ∈ ([(0, a0), (1, a1), (2, a2), (3, a3), (4, a4), (5, a5), (6, a6), (7, a7), (8, a8), (9, a9), (10, a10), (11, a11), (12, a12), (13, a13), (14, a14), (15, a15), (16, a16), (17, a17), (18, a18), (19, a19)] : List (Int32 × α)), x ≠ q.1) : x.toInt < 0 ∨ 19 < x.toInt := by
  simp only [List.mem_cons, List.not_mem_nil, or_false, forall_eq_or_imp, forall_eq] at hx
  simp only [ne_eq, ← Int32.toInt_inj] at hx
  simp at hx
  omega
set_option maxRecDepth 20000 in
set_option maxHeartbeats 4000000 in
theorem sL_0 {X : Cx} {orc : Orc} {d L : Nat} {sx : Nat → Int32} (h : XM X code RL) (hL : XLr X) (hrm : gZ (xf X) - gZ (x0 X) ≤ 601024 ∧ gU (xf X) - gU (x0 X) ≤ 7293034) (hXX : XX X L sx) (hxn : xn X = 7) (ho : xOS mtab X orc d) (hrd : Rd X d 45) (hrd2 : Rd X (d + 1) 45) (hNX : NX (xb X) (xs X)) (hls : (xl X).stackTraces = false) (hd5 : 5 ≤ d) : GK X QL 0 (BL_0 L sx orc) := by
  show GK X QL 0 (o_new 7 (o_dup (o_nV orc 86 1 (o_astore 1 (o_new 8 (o_dup (o_nV orc 112 1 (o_astore 2 (o_iconst 1 (o_newa 1 (o_astore 3 (o_iconst 0 (o_istore 4 (o_jmp 1))))))))))))))
  refine gk_new (i := 8) h ck_7 (by decide +kernel) kw_111 kw_112 kw_91 nd_7 ?_
  refine gk_dup h (by decide +kernel) ?_
  refine gk_nV (ca_n (idx := 15) h ho hm_86 (rd_le hrd (by decide)) (by decide +kernel) kw_113 kw_114 kw_91 kw_115 rfl (by decide +kernel) (by decide)) ?_
  refine gk_astore_n (j := 1) h (by decide +kernel) rfl hxn (by decide) ?_
  refine gk_new (i := 16) h ck_8 (by decide +kernel) kw_947 kw_948 kw_101 nd_8 ?_
  refine gk_dup h (by decide +kernel) ?_
  refine gk_nV (ca_n (idx := 18) h ho hm_112 (rd_le hrd (by decide)) (by decide +kernel) kw_949 kw_950 kw_101 kw_951 rfl (by decide +kernel) (by decide)) ?_
  refine gk_astore_n (j := 2) h (by decide +kernel) rfl hxn (by decide) ?_
  refine gk_iconst (n := 1) h (by decide +kernel) (by decide) ?_
  refine gk_newa (aty := .long) h (by decide) (by decide +kernel) rfl kw_191 ?_
  refine gk_astore_n (j := 3) h (by decide +kernel) rfl hxn (by decide) ?_
  refine gk_iconst (n := 0) h (by decide +kernel) (by decide) ?_
  refine gk_istore h (by decide +kernel) hxn (by decide) ?_
  exact gk_jmp 1 rfl
set_option maxRecDepth 20000 in
set_option maxHeartbeats 4000000 in
theorem sL_1 {X : Cx} {orc : Orc} {d L : Nat} {sx : Nat → Int32} (h : XM X code RL) (hL : XLr X) (hrm : gZ (xf X) - gZ (x0 X) ≤ 601024 ∧ gU (xf X) - gU (x0 X) ≤ 7293034) (hXX : XX X L sx) (hxn : xn X = 7) (ho : xOS mtab X orc d) (hrd : Rd X d 45) (hrd2 : Rd X (d + 1) 45) (hNX : NX (xb X) (xs X)) (hls : (xl X).stackTraces = false) (hd5 : 5 ≤ d) : GK X QL 23 (BL_1 L sx orc) := by
  show GK X QL 23 (o_iload 4 (o_sload 0 (o_xlen L (o_iconst 7 (o_i2 (fun x y => x - y) (o_igt (o_iconst 1 (o_zret)) (o_sload 0 (o_iload 4 (o_xld L sx (o_iconst 31 (o_i2 (fun x y => x &&& y) (o_sw [(0, o_jmp 2), (1, o_jmp 3), (2, o_jmp 4), (3, o_jmp 5), (4, o_jmp 6), (5, o_jmp 7), (6, o_jmp 8), (7, o_jmp 9), (8, o_jmp 10), (9, o_jmp 12), (10, o_jmp 13), (11, o_jmp 14), (12, o_jmp 15), (13, o_jmp 16), (14, o_jmp 17), (15, o_jmp 18), (16, o_jmp 19), (17, o_jmp 20), (18, o_jmp 21), (19, o_jmp 24)] (o_jmp 25)))))))))))))
  refine gk_iload h (by decide +kernel) ?_
  refine gk_sload_n (j := 0) h (by decide +kernel) rfl ?_
  refine gk_xlen h hXX (by decide +kernel) ?_
  refine gk_bipush (n := 7) h (by decide +kernel) (by decide) ?_
  refine gk_isub h (by decide +kernel) ?_
  refine gk_icmpgt (off := 853) (tgt := 883) h (by decide +kernel) (by decide) ?_ ?_
  · refine gk_iconst (n := 1) h (by decide +kernel) (by decide) ?_
    exact gk_lwr h hL hrm (by decide +kernel)
  · refine gk_sload_n (j := 0) h (by decide +kernel) rfl ?_
    refine gk_iload h (by decide +kernel) ?_
    refine gk_xld h hXX (by decide +kernel) ?_
    refine gk_bipush (n := 31) h (by decide +kernel) (by decide) ?_
    refine gk_iand h (by decide +kernel) ?_
    refine gk_tsw (dflt := 837) (lo := 0) (hi := 19) (offs := #[96, 243, 256, 293, 342, 367, 416, 429, 466, 522, 559, 572, 585, 598, 623, 660, 685, 710, 759, 812]) (len := 96) (td := 877) h (by decide +kernel) (by decide) ?_ ?_ (by intro x hx; exact so_L_law_40 x hx)
    · exact gk_jmp 25 rfl
    · intro q hq
      simp only [List.mem_cons, List.not_mem_nil, or_false] at hq
      rcases hq with rfl | rfl | rfl | rfl | rfl | rfl | rfl | rfl | rfl | rfl | rfl | rfl | rfl | rfl | rfl | rfl | rfl | rfl | rfl | rfl
      · refine ⟨136, 96, by dsimp only; decide, by dsimp only; decide, by dsimp only; decide, by decide, ?_⟩
        exact gk_jmp 2 rfl
      · refine ⟨283, 243, by dsimp only; decide, by dsimp only; decide, by dsimp only; decide, by decide, ?_⟩
        exact gk_jmp 3 rfl
      · refine ⟨296, 256, by dsimp only; decide, by dsimp only; decide, by dsimp only; decide, by decide, ?_⟩
        exact gk_jmp 4 rfl
      · refine ⟨333, 293, by dsimp only; decide, by dsimp only; decide, by dsimp only; decide, by decide, ?_⟩
        exact gk_jmp 5 rfl
      · refine ⟨382, 342, by dsimp only; decide, by dsimp only; decide, by dsimp only; decide, by decide, ?_⟩
        exact gk_jmp 6 rfl
      · refine ⟨407, 367, by dsimp only; decide, by dsimp only; decide, by dsimp only; decide, by decide, ?_⟩
        exact gk_jmp 7 rfl
      · refine ⟨456, 416, by dsimp only; decide, by dsimp only; decide, by dsimp only; decide, by decide, ?_⟩
        exact gk_jmp 8 rfl
      · refine ⟨469, 429, by dsimp only; decide, by dsimp only; decide, by dsimp only; decide, by decide, ?_⟩
        exact gk_jmp 9 rfl
      · refine ⟨506, 466, by dsimp only; decide, by dsimp only; decide, by dsimp only; decide, by decide, ?_⟩
        exact gk_jmp 10 rfl
      · refine ⟨562, 522, by dsimp only; decide, by dsimp only; decide, by dsimp only; decide, by decide, ?_⟩
        exact gk_jmp 12 rfl
      · refine ⟨599, 559, by dsimp only; decide, by dsimp only; decide, by dsimp only; decide, by decide, ?_⟩
        exact gk_jmp 13 rfl
      · refine ⟨612, 572, by dsimp only; decide, by dsimp only; decide, by dsimp only; decide, by decide, ?_⟩
        exact gk_jmp 14 rfl
      · refine ⟨625, 585, by dsimp only; decide, by dsimp only; decide, by dsimp only; decide, by decide, ?_⟩
        exact gk_jmp 15 rfl
      · refine ⟨638, 598, by dsimp only; decide, by dsimp only; decide, by dsimp only; decide, by decide, ?_⟩
        exact gk_jmp 16 rfl
      · refine ⟨663, 623, by dsimp only; decide, by dsimp only; decide, by dsimp only; decide, by decide, ?_⟩
        exact gk_jmp 17 rfl
      · refine ⟨700, 660, by dsimp only; decide, by dsimp only; decide, by dsimp only; decide, by decide, ?_⟩
        exact gk_jmp 18 rfl
      · refine ⟨725, 685, by dsimp only; decide, by dsimp only; decide, by dsimp only; decide, by decide, ?_⟩
        exact gk_jmp 19 rfl
      · refine ⟨750, 710, by dsimp only; decide, by dsimp only; decide, by dsimp only; decide, by decide, ?_⟩
        exact gk_jmp 20 rfl
      · refine ⟨799, 759, by dsimp only; decide, by dsimp only; decide, by dsimp only; decide, by decide, ?_⟩
        exact gk_jmp 21 rfl
      · refine ⟨852, 812, by dsimp only; decide, by dsimp only; decide, by dsimp only; decide, by decide, ?_⟩
        exact gk_jmp 24 rfl
set_option maxRecDepth 20000 in
set_option maxHeartbeats 4000000 in
theorem sL_2 {X : Cx} {orc : Orc} {d L : Nat} {sx : Nat → Int32} (h : XM X code RL) (hL : XLr X) (hrm : gZ (xf X) - gZ (x0 X) ≤ 601024 ∧ gU (xf X) - gU (x0 X) ≤ 7293034) (hXX : XX X L sx) (hxn : xn X = 7) (ho : xOS mtab X orc d) (hrd : Rd X d 45) (hrd2 : Rd X (d + 1) 45) (hNX : NX (xb X) (xs X)) (hls : (xl X).stackTraces = false) (hd5 : 5 ≤ d) : GK X QL 136 (BL_2 L sx orc) := by
  show GK X QL 136 (o_aload 1 (o_sload 0 (o_iload 4 (o_iconst 1 (o_i2 (fun x y => x + y) (o_xld L sx (o_i2l (o_iconst 32 (o_lsh (fun x y => x <<< (y.toInt64 &&& 63)) (o_sload 0 (o_iload 4 (o_iconst 2 (o_i2 (fun x y => x + y) (o_xld L sx (o_i2l (o_lconst 4294967295 (o_l2 (fun x y => x &&& y) (o_l2 (fun x y => x ||| y) (o_sload 0 (o_iload 4 (o_iconst 3 (o_i2 (fun x y => x + y) (o_xld L sx (o_i2l (o_iconst 32 (o_lsh (fun x y => x <<< (y.toInt64 &&& 63)) (o_sload 0 (o_iload 4 (o_iconst 4 (o_i2 (fun x y => x + y) (o_xld L sx (o_i2l (o_lconst 4294967295 (o_l2 (fun x y => x &&& y) (o_l2 (fun x y => x ||| y) (o_sload 0 (o_iload 4 (o_iconst 5 (o_i2 (fun x y => x + y) (o_xld L sx (o_i2l (o_iconst 32 (o_lsh (fun x y => x <<< (y.toInt64 &&& 63)) (o_sload 0 (o_iload 4 (o_iconst 6 (o_i2 (fun x y => x + y) (o_xld L sx (o_i2l (o_lconst 4294967295 (o_l2 (fun x y => x &&& y) (o_l2 (fun x y => x ||| y) (o_vI orc 87 4 7 (o_aload 2 (o_sload 0 (o_iload 4 (o_iconst 1 (o_i2 (fun x y => x + y) (o_xld L sx (o_i2l (o_iconst 32 (o_lsh (fun x y => x <<< (y.toInt64 &&& 63)) (o_sload 0 (o_iload 4 (o_iconst 2 (o_i2 (fun x y => x + y) (o_xld L sx (o_i2l (o_lconst 4294967295 (o_l2 (fun x y => x &&& y) (o_l2 (fun x y => x ||| y) (o_sload 0 (o_iload 4 (o_iconst 3 (o_i2 (fun x y => x + y) (o_xld L sx (o_i2l (o_iconst 32 (o_lsh (fun x y => x <<< (y.toInt64 &&& 63)) (o_sload 0 (o_iload 4 (o_iconst 4 (o_i2 (fun x y => x + y) (o_xld L sx (o_i2l (o_lconst 4294967295 (o_l2 (fun x y => x &&& y) (o_l2 (fun x y => x ||| y) (o_sload 0 (o_iload 4 (o_iconst 5 (o_i2 (fun x y => x + y) (o_xld L sx (o_i2l (o_iconst 32 (o_lsh (fun x y => x <<< (y.toInt64 &&& 63)) (o_sload 0 (o_iload 4 (o_iconst 6 (o_i2 (fun x y => x + y) (o_xld L sx (o_i2l (o_lconst 4294967295 (o_l2 (fun x y => x &&& y) (o_l2 (fun x y => x ||| y) (o_vI orc 115 4 8 (o_ieq (o_jmp 25) (o_iconst 0 (o_zret)))))))))))))))))))))))))))))))))))))))))))))))))))))))))))))))))))))))))))))))))))))))))))))))))))))))))))))
  refine gk_aload_n (j := 1) h (by decide +kernel) rfl ?_
  refine gk_sload_n (j := 0) h (by decide +kernel) rfl ?_
  refine gk_iload h (by decide +kernel) ?_
  refine gk_iconst (n := 1) h (by decide +kernel) (by decide) ?_
  refine gk_iadd h (by decide +kernel) ?_
  refine gk_xld h hXX (by decide +kernel) ?_
  refine gk_i2l h (by decide +kernel) ?_
  refine gk_bipush (n := 32) h (by decide +kernel) (by decide) ?_
  refine gk_lshl h (by decide +kernel) ?_
  refine gk_sload_n (j := 0) h (by decide +kernel) rfl ?_
  refine gk_iload h (by decide +kernel) ?_
  refine gk_iconst (n := 2) h (by decide +kernel) (by decide) ?_
  refine gk_iadd h (by decide +kernel) ?_
  refine gk_xld h hXX (by decide +kernel) ?_
  refine gk_i2l h (by decide +kernel) ?_
  refine gk_ldc2 (i := 19) h (by decide +kernel) kw_1438 ?_
  refine gk_land h (by decide +kernel) ?_
  refine gk_lor h (by decide +kernel) ?_
  refine gk_sload_n (j := 0) h (by decide +kernel) rfl ?_
  refine gk_iload h (by decide +kernel) ?_
  refine gk_iconst (n := 3) h (by decide +kernel) (by decide) ?_
  refine gk_iadd h (by decide +kernel) ?_
  refine gk_xld h hXX (by decide +kernel) ?_
  refine gk_i2l h (by decide +kernel) ?_
  refine gk_bipush (n := 32) h (by decide +kernel) (by decide) ?_
  refine gk_lshl h (by decide +kernel) ?_
  refine gk_sload_n (j := 0) h (by decide +kernel) rfl ?_
  refine gk_iload h (by decide +kernel) ?_
  refine gk_iconst (n := 4) h (by decide +kernel) (by decide) ?_
  refine gk_iadd h (by decide +kernel) ?_
  refine gk_xld h hXX (by decide +kernel) ?_
  refine gk_i2l h (by decide +kernel) ?_
  refine gk_ldc2 (i := 19) h (by decide +kernel) kw_1438 ?_
  refine gk_land h (by decide +kernel) ?_
  refine gk_lor h (by decide +kernel) ?_
  refine gk_sload_n (j := 0) h (by decide +kernel) rfl ?_
  refine gk_iload h (by decide +kernel) ?_
  refine gk_iconst (n := 5) h (by decide +kernel) (by decide) ?_
  refine gk_iadd h (by decide +kernel) ?_
  refine gk_xld h hXX (by decide +kernel) ?_
  refine gk_i2l h (by decide +kernel) ?_
  refine gk_bipush (n := 32) h (by decide +kernel) (by decide) ?_
  refine gk_lshl h (by decide +kernel) ?_
  refine gk_sload_n (j := 0) h (by decide +kernel) rfl ?_
  refine gk_iload h (by decide +kernel) ?_
  refine gk_bipush (n := 6) h (by decide +kernel) (by decide) ?_
  refine gk_iadd h (by decide +kernel) ?_
  refine gk_xld h hXX (by decide +kernel) ?_
  refine gk_i2l h (by decide +kernel) ?_
  refine gk_ldc2 (i := 19) h (by decide +kernel) kw_1438 ?_
  refine gk_land h (by decide +kernel) ?_
  refine gk_lor h (by decide +kernel) ?_
  refine gk_vI (ca_v (idx := 21) h ho hm_87 (rd_le hrd (by decide)) ck_7 (by decide +kernel) kw_477 kw_478 kw_479 kw_91 kw_480 rfl (by decide +kernel) (by decide)) ?_
  refine gk_aload_n (j := 2) h (by decide +kernel) rfl ?_
  refine gk_sload_n (j := 0) h (by decide +kernel) rfl ?_
  refine gk_iload h (by decide +kernel) ?_
  refine gk_iconst (n := 1) h (by decide +kernel) (by decide) ?_
  refine gk_iadd h (by decide +kernel) ?_
  refine gk_xld h hXX (by decide +kernel) ?_
  refine gk_i2l h (by decide +kernel) ?_
  refine gk_bipush (n := 32) h (by decide +kernel) (by decide) ?_
  refine gk_lshl h (by decide +kernel) ?_
  refine gk_sload_n (j := 0) h (by decide +kernel) rfl ?_
  refine gk_iload h (by decide +kernel) ?_
  refine gk_iconst (n := 2) h (by decide +kernel) (by decide) ?_
  refine gk_iadd h (by decide +kernel) ?_
  refine gk_xld h hXX (by decide +kernel) ?_
  refine gk_i2l h (by decide +kernel) ?_
  refine gk_ldc2 (i := 19) h (by decide +kernel) kw_1438 ?_
  refine gk_land h (by decide +kernel) ?_
  refine gk_lor h (by decide +kernel) ?_
  refine gk_sload_n (j := 0) h (by decide +kernel) rfl ?_
  refine gk_iload h (by decide +kernel) ?_
  refine gk_iconst (n := 3) h (by decide +kernel) (by decide) ?_
  refine gk_iadd h (by decide +kernel) ?_
  refine gk_xld h hXX (by decide +kernel) ?_
  refine gk_i2l h (by decide +kernel) ?_
  refine gk_bipush (n := 32) h (by decide +kernel) (by decide) ?_
  refine gk_lshl h (by decide +kernel) ?_
  refine gk_sload_n (j := 0) h (by decide +kernel) rfl ?_
  refine gk_iload h (by decide +kernel) ?_
  refine gk_iconst (n := 4) h (by decide +kernel) (by decide) ?_
  refine gk_iadd h (by decide +kernel) ?_
  refine gk_xld h hXX (by decide +kernel) ?_
  refine gk_i2l h (by decide +kernel) ?_
  refine gk_ldc2 (i := 19) h (by decide +kernel) kw_1438 ?_
  refine gk_land h (by decide +kernel) ?_
  refine gk_lor h (by decide +kernel) ?_
  refine gk_sload_n (j := 0) h (by decide +kernel) rfl ?_
  refine gk_iload h (by decide +kernel) ?_
  refine gk_iconst (n := 5) h (by decide +kernel) (by decide) ?_
  refine gk_iadd h (by decide +kernel) ?_
  refine gk_xld h hXX (by decide +kernel) ?_
  refine gk_i2l h (by decide +kernel) ?_
  refine gk_bipush (n := 32) h (by decide +kernel) (by decide) ?_
  refine gk_lshl h (by decide +kernel) ?_
  refine gk_sload_n (j := 0) h (by decide +kernel) rfl ?_
  refine gk_iload h (by decide +kernel) ?_
  refine gk_bipush (n := 6) h (by decide +kernel) (by decide) ?_
  refine gk_iadd h (by decide +kernel) ?_
  refine gk_xld h hXX (by decide +kernel) ?_
  refine gk_i2l h (by decide +kernel) ?_
  refine gk_ldc2 (i := 19) h (by decide +kernel) kw_1438 ?_
  refine gk_land h (by decide +kernel) ?_
  refine gk_lor h (by decide +kernel) ?_
  refine gk_vI (ca_v (idx := 25) h ho hm_115 (rd_le hrd (by decide)) ck_8 (by decide +kernel) kw_1167 kw_1168 kw_1169 kw_101 kw_1170 rfl (by decide +kernel) (by decide)) ?_
  refine gk_icmpeq (off := 599) (tgt := 877) h (by decide +kernel) (by decide) ?_ ?_
  · exact gk_jmp 25 rfl
  · refine gk_iconst (n := 0) h (by decide +kernel) (by decide) ?_
    exact gk_lwr h hL hrm (by decide +kernel)
set_option maxRecDepth 20000 in
set_option maxHeartbeats 4000000 in
theorem sL_3 {X : Cx} {orc : Orc} {d L : Nat} {sx : Nat → Int32} (h : XM X code RL) (hL : XLr X) (hrm : gZ (xf X) - gZ (x0 X) ≤ 601024 ∧ gU (xf X) - gU (x0 X) ≤ 7293034) (hXX : XX X L sx) (hxn : xn X = 7) (ho : xOS mtab X orc d) (hrd : Rd X d 45) (hrd2 : Rd X (d + 1) 45) (hNX : NX (xb X) (xs X)) (hls : (xl X).stackTraces = false) (hd5 : 5 ≤ d) : GK X QL 283 (BL_3 L sx orc) := by
  show GK X QL 283 (o_aload 1 (o_vI orc 88 1 7 (o_aload 2 (o_vI orc 138 1 8 (o_ieq (o_jmp 25) (o_iconst 0 (o_zret)))))))
  refine gk_aload_n (j := 1) h (by decide +kernel) rfl ?_
  refine gk_vI (ca_v (idx := 26) h ho hm_88 (rd_le hrd (by decide)) ck_7 (by decide +kernel) kw_485 kw_486 kw_487 kw_91 kw_488 rfl (by decide +kernel) (by decide)) ?_
  refine gk_aload_n (j := 2) h (by decide +kernel) rfl ?_
  refine gk_vI (ca_v (idx := 30) h ho hm_138 (rd_le hrd (by decide)) ck_8 (by decide +kernel) kw_1172 kw_1173 kw_1174 kw_101 kw_1175 rfl (by decide +kernel) (by decide)) ?_
  refine gk_icmpeq (off := 586) (tgt := 877) h (by decide +kernel) (by decide) ?_ ?_
  · exact gk_jmp 25 rfl
  · refine gk_iconst (n := 0) h (by decide +kernel) (by decide) ?_
    exact gk_lwr h hL hrm (by decide +kernel)
set_option maxRecDepth 20000 in
set_option maxHeartbeats 4000000 in
theorem sL_4 {X : Cx} {orc : Orc} {d L : Nat} {sx : Nat → Int32} (h : XM X code RL) (hL : XLr X) (hrm : gZ (xf X) - gZ (x0 X) ≤ 601024 ∧ gU (xf X) - gU (x0 X) ≤ 7293034) (hXX : XX X L sx) (hxn : xn X = 7) (ho : xOS mtab X orc d) (hrd : Rd X d 45) (hrd2 : Rd X (d + 1) 45) (hNX : NX (xb X) (xs X)) (hls : (xl X).stackTraces = false) (hd5 : 5 ≤ d) : GK X QL 296 (BL_4 L sx orc) := by
  show GK X QL 296 (o_aload 1 (o_sload 0 (o_iload 4 (o_iconst 1 (o_i2 (fun x y => x + y) (o_xld L sx (o_sload 0 (o_iload 4 (o_iconst 2 (o_i2 (fun x y => x + y) (o_xld L sx (o_vI orc 89 3 7 (o_aload 2 (o_sload 0 (o_iload 4 (o_iconst 1 (o_i2 (fun x y => x + y) (o_xld L sx (o_sload 0 (o_iload 4 (o_iconst 2 (o_i2 (fun x y => x + y) (o_xld L sx (o_vI orc 156 3 8 (o_ieq (o_jmp 25) (o_iconst 0 (o_zret)))))))))))))))))))))))))))
  refine gk_aload_n (j := 1) h (by decide +kernel) rfl ?_
  refine gk_sload_n (j := 0) h (by decide +kernel) rfl ?_
  refine gk_iload h (by decide +kernel) ?_
  refine gk_iconst (n := 1) h (by decide +kernel) (by decide) ?_
  refine gk_iadd h (by decide +kernel) ?_
  refine gk_xld h hXX (by decide +kernel) ?_
  refine gk_sload_n (j := 0) h (by decide +kernel) rfl ?_
  refine gk_iload h (by decide +kernel) ?_
  refine gk_iconst (n := 2) h (by decide +kernel) (by decide) ?_
  refine gk_iadd h (by decide +kernel) ?_
  refine gk_xld h hXX (by decide +kernel) ?_
  refine gk_vI (ca_v (idx := 31) h ho hm_89 (rd_le hrd (by decide)) ck_7 (by decide +kernel) kw_620 kw_621 kw_622 kw_91 kw_623 rfl (by decide +kernel) (by decide)) ?_
  refine gk_aload_n (j := 2) h (by decide +kernel) rfl ?_
  refine gk_sload_n (j := 0) h (by decide +kernel) rfl ?_
  refine gk_iload h (by decide +kernel) ?_
  refine gk_iconst (n := 1) h (by decide +kernel) (by decide) ?_
  refine gk_iadd h (by decide +kernel) ?_
  refine gk_xld h hXX (by decide +kernel) ?_
  refine gk_sload_n (j := 0) h (by decide +kernel) rfl ?_
  refine gk_iload h (by decide +kernel) ?_
  refine gk_iconst (n := 2) h (by decide +kernel) (by decide) ?_
  refine gk_iadd h (by decide +kernel) ?_
  refine gk_xld h hXX (by decide +kernel) ?_
  refine gk_vI (ca_v (idx := 35) h ho hm_156 (rd_le hrd (by decide)) ck_8 (by decide +kernel) kw_1266 kw_1267 kw_1268 kw_101 kw_1269 rfl (by decide +kernel) (by decide)) ?_
  refine gk_icmpeq (off := 549) (tgt := 877) h (by decide +kernel) (by decide) ?_ ?_
  · exact gk_jmp 25 rfl
  · refine gk_iconst (n := 0) h (by decide +kernel) (by decide) ?_
    exact gk_lwr h hL hrm (by decide +kernel)
set_option maxRecDepth 20000 in
set_option maxHeartbeats 4000000 in
theorem sL_5 {X : Cx} {orc : Orc} {d L : Nat} {sx : Nat → Int32} (h : XM X code RL) (hL : XLr X) (hrm : gZ (xf X) - gZ (x0 X) ≤ 601024 ∧ gU (xf X) - gU (x0 X) ≤ 7293034) (hXX : XX X L sx) (hxn : xn X = 7) (ho : xOS mtab X orc d) (hrd : Rd X d 45) (hrd2 : Rd X (d + 1) 45) (hNX : NX (xb X) (xs X)) (hls : (xl X).stackTraces = false) (hd5 : 5 ≤ d) : GK X QL 333 (BL_5 L sx orc) := by
  show GK X QL 333 (o_aload 1 (o_sload 0 (o_iload 4 (o_iconst 1 (o_i2 (fun x y => x + y) (o_xld L sx (o_sload 0 (o_iload 4 (o_iconst 2 (o_i2 (fun x y => x + y) (o_xld L sx (o_sload 0 (o_iload 4 (o_iconst 3 (o_i2 (fun x y => x + y) (o_xld L sx (o_vI orc 90 4 7 (o_aload 2 (o_sload 0 (o_iload 4 (o_iconst 1 (o_i2 (fun x y => x + y) (o_xld L sx (o_sload 0 (o_iload 4 (o_iconst 2 (o_i2 (fun x y => x + y) (o_xld L sx (o_sload 0 (o_iload 4 (o_iconst 3 (o_i2 (fun x y => x + y) (o_xld L sx (o_vI orc 157 4 8 (o_ieq (o_jmp 25) (o_iconst 0 (o_zret)))))))))))))))))))))))))))))))))))))
  refine gk_aload_n (j := 1) h (by decide +kernel) rfl ?_
  refine gk_sload_n (j := 0) h (by decide +kernel) rfl ?_
  refine gk_iload h (by decide +kernel) ?_
  refine gk_iconst (n := 1) h (by decide +kernel) (by decide) ?_
  refine gk_iadd h (by decide +kernel) ?_
  refine gk_xld h hXX (by decide +kernel) ?_
  refine gk_sload_n (j := 0) h (by decide +kernel) rfl ?_
  refine gk_iload h (by decide +kernel) ?_
  refine gk_iconst (n := 2) h (by decide +kernel) (by decide) ?_
  refine gk_iadd h (by decide +kernel) ?_
  refine gk_xld h hXX (by decide +kernel) ?_
  refine gk_sload_n (j := 0) h (by decide +kernel) rfl ?_
  refine gk_iload h (by decide +kernel) ?_
  refine gk_iconst (n := 3) h (by decide +kernel) (by decide) ?_
  refine gk_iadd h (by decide +kernel) ?_
  refine gk_xld h hXX (by decide +kernel) ?_
  refine gk_vI (ca_v (idx := 36) h ho hm_90 (rd_le hrd (by decide)) ck_7 (by decide +kernel) kw_624 kw_625 kw_626 kw_91 kw_627 rfl (by decide +kernel) (by decide)) ?_
  refine gk_aload_n (j := 2) h (by decide +kernel) rfl ?_
  refine gk_sload_n (j := 0) h (by decide +kernel) rfl ?_
  refine gk_iload h (by decide +kernel) ?_
  refine gk_iconst (n := 1) h (by decide +kernel) (by decide) ?_
  refine gk_iadd h (by decide +kernel) ?_
  refine gk_xld h hXX (by decide +kernel) ?_
  refine gk_sload_n (j := 0) h (by decide +kernel) rfl ?_
  refine gk_iload h (by decide +kernel) ?_
  refine gk_iconst (n := 2) h (by decide +kernel) (by decide) ?_
  refine gk_iadd h (by decide +kernel) ?_
  refine gk_xld h hXX (by decide +kernel) ?_
  refine gk_sload_n (j := 0) h (by decide +kernel) rfl ?_
  refine gk_iload h (by decide +kernel) ?_
  refine gk_iconst (n := 3) h (by decide +kernel) (by decide) ?_
  refine gk_iadd h (by decide +kernel) ?_
  refine gk_xld h hXX (by decide +kernel) ?_
  refine gk_vI (ca_v (idx := 40) h ho hm_157 (rd_le hrd (by decide)) ck_8 (by decide +kernel) kw_1270 kw_1271 kw_1272 kw_101 kw_1273 rfl (by decide +kernel) (by decide)) ?_
  refine gk_icmpeq (off := 500) (tgt := 877) h (by decide +kernel) (by decide) ?_ ?_
  · exact gk_jmp 25 rfl
  · refine gk_iconst (n := 0) h (by decide +kernel) (by decide) ?_
    exact gk_lwr h hL hrm (by decide +kernel)
set_option maxRecDepth 20000 in
set_option maxHeartbeats 4000000 in
theorem sL_6 {X : Cx} {orc : Orc} {d L : Nat} {sx : Nat → Int32} (h : XM X code RL) (hL : XLr X) (hrm : gZ (xf X) - gZ (x0 X) ≤ 601024 ∧ gU (xf X) - gU (x0 X) ≤ 7293034) (hXX : XX X L sx) (hxn : xn X = 7) (ho : xOS mtab X orc d) (hrd : Rd X d 45) (hrd2 : Rd X (d + 1) 45) (hNX : NX (xb X) (xs X)) (hls : (xl X).stackTraces = false) (hd5 : 5 ≤ d) : GK X QL 382 (BL_6 L sx orc) := by
  show GK X QL 382 (o_aload 1 (o_sload 0 (o_iload 4 (o_iconst 1 (o_i2 (fun x y => x + y) (o_xld L sx (o_vI orc 91 2 7 (o_aload 2 (o_sload 0 (o_iload 4 (o_iconst 1 (o_i2 (fun x y => x + y) (o_xld L sx (o_vI orc 158 2 8 (o_ieq (o_jmp 25) (o_iconst 0 (o_zret)))))))))))))))))
  refine gk_aload_n (j := 1) h (by decide +kernel) rfl ?_
  refine gk_sload_n (j := 0) h (by decide +kernel) rfl ?_
  refine gk_iload h (by decide +kernel) ?_
  refine gk_iconst (n := 1) h (by decide +kernel) (by decide) ?_
  refine gk_iadd h (by decide +kernel) ?_
  refine gk_xld h hXX (by decide +kernel) ?_
  refine gk_vI (ca_v (idx := 41) h ho hm_91 (rd_le hrd (by decide)) ck_7 (by decide +kernel) kw_681 kw_682 kw_683 kw_91 kw_684 rfl (by decide +kernel) (by decide)) ?_
  refine gk_aload_n (j := 2) h (by decide +kernel) rfl ?_
  refine gk_sload_n (j := 0) h (by decide +kernel) rfl ?_
  refine gk_iload h (by decide +kernel) ?_
  refine gk_iconst (n := 1) h (by decide +kernel) (by decide) ?_
  refine gk_iadd h (by decide +kernel) ?_
  refine gk_xld h hXX (by decide +kernel) ?_
  refine gk_vI (ca_v (idx := 44) h ho hm_158 (rd_le hrd (by decide)) ck_8 (by decide +kernel) kw_1302 kw_1303 kw_1304 kw_101 kw_1305 rfl (by decide +kernel) (by decide)) ?_
  refine gk_icmpeq (off := 475) (tgt := 877) h (by decide +kernel) (by decide) ?_ ?_
  · exact gk_jmp 25 rfl
  · refine gk_iconst (n := 0) h (by decide +kernel) (by decide) ?_
    exact gk_lwr h hL hrm (by decide +kernel)
set_option maxRecDepth 20000 in
set_option maxHeartbeats 4000000 in
theorem sL_7 {X : Cx} {orc : Orc} {d L : Nat} {sx : Nat → Int32} (h : XM X code RL) (hL : XLr X) (hrm : gZ (xf X) - gZ (x0 X) ≤ 601024 ∧ gU (xf X) - gU (x0 X) ≤ 7293034) (hXX : XX X L sx) (hxn : xn X = 7) (ho : xOS mtab X orc d) (hrd : Rd X d 45) (hrd2 : Rd X (d + 1) 45) (hNX : NX (xb X) (xs X)) (hls : (xl X).stackTraces = false) (hd5 : 5 ≤ d) : GK X QL 407 (BL_7 L sx orc) := by
  show GK X QL 407 (o_aload 1 (o_sload 0 (o_iload 4 (o_iconst 1 (o_i2 (fun x y => x + y) (o_xld L sx (o_sload 0 (o_iload 4 (o_iconst 2 (o_i2 (fun x y => x + y) (o_xld L sx (o_sload 0 (o_iload 4 (o_iconst 3 (o_i2 (fun x y => x + y) (o_xld L sx (o_vI orc 92 4 7 (o_aload 2 (o_sload 0 (o_iload 4 (o_iconst 1 (o_i2 (fun x y => x + y) (o_xld L sx (o_sload 0 (o_iload 4 (o_iconst 2 (o_i2 (fun x y => x + y) (o_xld L sx (o_sload 0 (o_iload 4 (o_iconst 3 (o_i2 (fun x y => x + y) (o_xld L sx (o_vI orc 159 4 8 (o_ieq (o_jmp 25) (o_iconst 0 (o_zret)))))))))))))))))))))))))))))))))))))
  refine gk_aload_n (j := 1) h (by decide +kernel) rfl ?_
  refine gk_sload_n (j := 0) h (by decide +kernel) rfl ?_
  refine gk_iload h (by decide +kernel) ?_
  refine gk_iconst (n := 1) h (by decide +kernel) (by decide) ?_
  refine gk_iadd h (by decide +kernel) ?_
  refine gk_xld h hXX (by decide +kernel) ?_
  refine gk_sload_n (j := 0) h (by decide +kernel) rfl ?_
  refine gk_iload h (by decide +kernel) ?_
  refine gk_iconst (n := 2) h (by decide +kernel) (by decide) ?_
  refine gk_iadd h (by decide +kernel) ?_
  refine gk_xld h hXX (by decide +kernel) ?_
  refine gk_sload_n (j := 0) h (by decide +kernel) rfl ?_
  refine gk_iload h (by decide +kernel) ?_
  refine gk_iconst (n := 3) h (by decide +kernel) (by decide) ?_
  refine gk_iadd h (by decide +kernel) ?_
  refine gk_xld h hXX (by decide +kernel) ?_
  refine gk_vI (ca_v (idx := 45) h ho hm_92 (rd_le hrd (by decide)) ck_7 (by decide +kernel) kw_691 kw_629 kw_630 kw_91 kw_631 rfl (by decide +kernel) (by decide)) ?_
  refine gk_aload_n (j := 2) h (by decide +kernel) rfl ?_
  refine gk_sload_n (j := 0) h (by decide +kernel) rfl ?_
  refine gk_iload h (by decide +kernel) ?_
  refine gk_iconst (n := 1) h (by decide +kernel) (by decide) ?_
  refine gk_iadd h (by decide +kernel) ?_
  refine gk_xld h hXX (by decide +kernel) ?_
  refine gk_sload_n (j := 0) h (by decide +kernel) rfl ?_
  refine gk_iload h (by decide +kernel) ?_
  refine gk_iconst (n := 2) h (by decide +kernel) (by decide) ?_
  refine gk_iadd h (by decide +kernel) ?_
  refine gk_xld h hXX (by decide +kernel) ?_
  refine gk_sload_n (j := 0) h (by decide +kernel) rfl ?_
  refine gk_iload h (by decide +kernel) ?_
  refine gk_iconst (n := 3) h (by decide +kernel) (by decide) ?_
  refine gk_iadd h (by decide +kernel) ?_
  refine gk_xld h hXX (by decide +kernel) ?_
  refine gk_vI (ca_v (idx := 48) h ho hm_159 (rd_le hrd (by decide)) ck_8 (by decide +kernel) kw_1306 kw_1307 kw_1308 kw_101 kw_1309 rfl (by decide +kernel) (by decide)) ?_
  refine gk_icmpeq (off := 426) (tgt := 877) h (by decide +kernel) (by decide) ?_ ?_
  · exact gk_jmp 25 rfl
  · refine gk_iconst (n := 0) h (by decide +kernel) (by decide) ?_
    exact gk_lwr h hL hrm (by decide +kernel)
set_option maxRecDepth 20000 in
set_option maxHeartbeats 4000000 in
theorem sL_8 {X : Cx} {orc : Orc} {d L : Nat} {sx : Nat → Int32} (h : XM X code RL) (hL : XLr X) (hrm : gZ (xf X) - gZ (x0 X) ≤ 601024 ∧ gU (xf X) - gU (x0 X) ≤ 7293034) (hXX : XX X L sx) (hxn : xn X = 7) (ho : xOS mtab X orc d) (hrd : Rd X d 45) (hrd2 : Rd X (d + 1) 45) (hNX : NX (xb X) (xs X)) (hls : (xl X).stackTraces = false) (hd5 : 5 ≤ d) : GK X QL 456 (BL_8 L sx orc) := by
  show GK X QL 456 (o_aload 1 (o_vI orc 93 1 7 (o_aload 2 (o_vI orc 160 1 8 (o_ieq (o_jmp 25) (o_iconst 0 (o_zret)))))))
  refine gk_aload_n (j := 1) h (by decide +kernel) rfl ?_
  refine gk_vI (ca_v (idx := 49) h ho hm_93 (rd_le hrd (by decide)) ck_7 (by decide +kernel) kw_692 kw_693 kw_694 kw_91 kw_695 rfl (by decide +kernel) (by decide)) ?_
  refine gk_aload_n (j := 2) h (by decide +kernel) rfl ?_
  refine gk_vI (ca_v (idx := 53) h ho hm_160 (rd_le hrd (by decide)) ck_8 (by decide +kernel) kw_1310 kw_1311 kw_1312 kw_101 kw_1313 rfl (by decide +kernel) (by decide)) ?_
  refine gk_icmpeq (off := 413) (tgt := 877) h (by decide +kernel) (by decide) ?_ ?_
  · exact gk_jmp 25 rfl
  · refine gk_iconst (n := 0) h (by decide +kernel) (by decide) ?_
    exact gk_lwr h hL hrm (by decide +kernel)
set_option maxRecDepth 20000 in
set_option maxHeartbeats 4000000 in
theorem sL_9 {X : Cx} {orc : Orc} {d L : Nat} {sx : Nat → Int32} (h : XM X code RL) (hL : XLr X) (hrm : gZ (xf X) - gZ (x0 X) ≤ 601024 ∧ gU (xf X) - gU (x0 X) ≤ 7293034) (hXX : XX X L sx) (hxn : xn X = 7) (ho : xOS mtab X orc d) (hrd : Rd X d 45) (hrd2 : Rd X (d + 1) 45) (hNX : NX (xb X) (xs X)) (hls : (xl X).stackTraces = false) (hd5 : 5 ≤ d) : GK X QL 469 (BL_9 L sx orc) := by
  show GK X QL 469 (o_aload 1 (o_sload 0 (o_iload 4 (o_iconst 1 (o_i2 (fun x y => x + y) (o_xld L sx (o_sload 0 (o_iload 4 (o_iconst 2 (o_i2 (fun x y => x + y) (o_xld L sx (o_vI orc 94 3 7 (o_aload 2 (o_sload 0 (o_iload 4 (o_iconst 1 (o_i2 (fun x y => x + y) (o_xld L sx (o_sload 0 (o_iload 4 (o_iconst 2 (o_i2 (fun x y => x + y) (o_xld L sx (o_vI orc 161 3 8 (o_ieq (o_jmp 25) (o_iconst 0 (o_zret)))))))))))))))))))))))))))
  refine gk_aload_n (j := 1) h (by decide +kernel) rfl ?_
  refine gk_sload_n (j := 0) h (by decide +kernel) rfl ?_
  refine gk_iload h (by decide +kernel) ?_
  refine gk_iconst (n := 1) h (by decide +kernel) (by decide) ?_
  refine gk_iadd h (by decide +kernel) ?_
  refine gk_xld h hXX (by decide +kernel) ?_
  refine gk_sload_n (j := 0) h (by decide +kernel) rfl ?_
  refine gk_iload h (by decide +kernel) ?_
  refine gk_iconst (n := 2) h (by decide +kernel) (by decide) ?_
  refine gk_iadd h (by decide +kernel) ?_
  refine gk_xld h hXX (by decide +kernel) ?_
  refine gk_vI (ca_v (idx := 54) h ho hm_94 (rd_le hrd (by decide)) ck_7 (by decide +kernel) kw_702 kw_703 kw_704 kw_91 kw_705 rfl (by decide +kernel) (by decide)) ?_
  refine gk_aload_n (j := 2) h (by decide +kernel) rfl ?_
  refine gk_sload_n (j := 0) h (by decide +kernel) rfl ?_
  refine gk_iload h (by decide +kernel) ?_
  refine gk_iconst (n := 1) h (by decide +kernel) (by decide) ?_
  refine gk_iadd h (by decide +kernel) ?_
  refine gk_xld h hXX (by decide +kernel) ?_
  refine gk_sload_n (j := 0) h (by decide +kernel) rfl ?_
  refine gk_iload h (by decide +kernel) ?_
  refine gk_iconst (n := 2) h (by decide +kernel) (by decide) ?_
  refine gk_iadd h (by decide +kernel) ?_
  refine gk_xld h hXX (by decide +kernel) ?_
  refine gk_vI (ca_v (idx := 57) h ho hm_161 (rd_le hrd (by decide)) ck_8 (by decide +kernel) kw_1314 kw_1315 kw_1316 kw_101 kw_1317 rfl (by decide +kernel) (by decide)) ?_
  refine gk_icmpeq (off := 376) (tgt := 877) h (by decide +kernel) (by decide) ?_ ?_
  · exact gk_jmp 25 rfl
  · refine gk_iconst (n := 0) h (by decide +kernel) (by decide) ?_
    exact gk_lwr h hL hrm (by decide +kernel)
set_option maxRecDepth 20000 in
set_option maxHeartbeats 4000000 in
theorem sL_10 {X : Cx} {orc : Orc} {d L : Nat} {sx : Nat → Int32} (h : XM X code RL) (hL : XLr X) (hrm : gZ (xf X) - gZ (x0 X) ≤ 601024 ∧ gU (xf X) - gU (x0 X) ≤ 7293034) (hXX : XX X L sx) (hxn : xn X = 7) (ho : xOS mtab X orc d) (hrd : Rd X d 45) (hrd2 : Rd X (d + 1) 45) (hNX : NX (xb X) (xs X)) (hls : (xl X).stackTraces = false) (hd5 : 5 ≤ d) : GK X QL 506 (BL_10 L sx orc) := by
  show GK X QL 506 (o_aload 1 (o_sload 0 (o_iload 4 (o_iconst 1 (o_i2 (fun x y => x + y) (o_xld L sx (o_aload 3 (o_sI (orL orc) 195 3 (o_istore 5 (o_aload 2 (o_sload 0 (o_iload 4 (o_iconst 1 (o_i2 (fun x y => x + y) (o_xld L sx (o_vI orc 163 2 8 (o_istore 6 (o_aload 2 (o_vI orc 113 1 8 (o_iload 5 (o_ieq (o_iload 5 (o_if0 (o_aload 3 (o_iconst 0 (o_lald (o_iload 6 (o_i2l (o_lcmp (o_if0 (o_jmp 11) (o_iconst 0 (o_zret))))))))) (o_jmp 11))) (o_iconst 0 (o_zret)))))))))))))))))))))))
  refine gk_aload_n (j := 1) h (by decide +kernel) rfl ?_
  refine gk_sload_n (j := 0) h (by decide +kernel) rfl ?_
  refine gk_iload h (by decide +kernel) ?_
  refine gk_iconst (n := 1) h (by decide +kernel) (by decide) ?_
  refine gk_iadd h (by decide +kernel) ?_
  refine gk_xld h hXX (by decide +kernel) ?_
  refine gk_aload_n (j := 3) h (by decide +kernel) rfl ?_
  refine gk_sI (ca_ls h ho hNX hls hd5 hrd2 (by decide +kernel)) ?_
  refine gk_istore h (by decide +kernel) hxn (by decide) ?_
  refine gk_aload_n (j := 2) h (by decide +kernel) rfl ?_
  refine gk_sload_n (j := 0) h (by decide +kernel) rfl ?_
  refine gk_iload h (by decide +kernel) ?_
  refine gk_iconst (n := 1) h (by decide +kernel) (by decide) ?_
  refine gk_iadd h (by decide +kernel) ?_
  refine gk_xld h hXX (by decide +kernel) ?_
  refine gk_vI (ca_v (idx := 63) h ho hm_163 (rd_le hrd (by decide)) ck_8 (by decide +kernel) kw_1318 kw_1319 kw_1320 kw_101 kw_1321 rfl (by decide +kernel) (by decide)) ?_
  refine gk_istore h (by decide +kernel) hxn (by decide) ?_
  refine gk_aload_n (j := 2) h (by decide +kernel) rfl ?_
  refine gk_vI (ca_v (idx := 64) h ho hm_113 (rd_le hrd (by decide)) ck_8 (by decide +kernel) kw_1163 kw_1164 kw_1165 kw_101 kw_1166 rfl (by decide +kernel) (by decide)) ?_
  refine gk_iload h (by decide +kernel) ?_
  refine gk_icmpeq (off := 5) (tgt := 542) h (by decide +kernel) (by decide) ?_ ?_
  · refine gk_iload h (by decide +kernel) ?_
    refine gk_ifne (off := 15) (tgt := 559) h (by decide +kernel) (by decide) ?_ ?_
    · exact gk_jmp 11 rfl
    · refine gk_aload_n (j := 3) h (by decide +kernel) rfl ?_
      refine gk_iconst (n := 0) h (by decide +kernel) (by decide) ?_
      refine gk_lald h (by decide +kernel) ?_
      refine gk_iload h (by decide +kernel) ?_
      refine gk_i2l h (by decide +kernel) ?_
      refine gk_lcmp h (by decide +kernel) ?_
      refine gk_ifeq (off := 5) (tgt := 559) h (by decide +kernel) (by decide) ?_ ?_
      · exact gk_jmp 11 rfl
      · refine gk_iconst (n := 0) h (by decide +kernel) (by decide) ?_
        exact gk_lwr h hL hrm (by decide +kernel)
  · refine gk_iconst (n := 0) h (by decide +kernel) (by decide) ?_
    exact gk_lwr h hL hrm (by decide +kernel)
set_option maxRecDepth 20000 in
set_option maxHeartbeats 4000000 in
theorem sL_11 {X : Cx} {orc : Orc} {d L : Nat} {sx : Nat → Int32} (h : XM X code RL) (hL : XLr X) (hrm : gZ (xf X) - gZ (x0 X) ≤ 601024 ∧ gU (xf X) - gU (x0 X) ≤ 7293034) (hXX : XX X L sx) (hxn : xn X = 7) (ho : xOS mtab X orc d) (hrd : Rd X d 45) (hrd2 : Rd X (d + 1) 45) (hNX : NX (xb X) (xs X)) (hls : (xl X).stackTraces = false) (hd5 : 5 ≤ d) : GK X QL 559 (BL_11 L sx orc) := by
  show GK X QL 559 (o_jmp 25)
  refine gk_goto (off := 318) (tgt := 877) h (by decide +kernel) (by decide) ?_
  exact gk_jmp 25 rfl
set_option maxRecDepth 20000 in
set_option maxHeartbeats 4000000 in
theorem sL_12 {X : Cx} {orc : Orc} {d L : Nat} {sx : Nat → Int32} (h : XM X code RL) (hL : XLr X) (hrm : gZ (xf X) - gZ (x0 X) ≤ 601024 ∧ gU (xf X) - gU (x0 X) ≤ 7293034) (hXX : XX X L sx) (hxn : xn X = 7) (ho : xOS mtab X orc d) (hrd : Rd X d 45) (hrd2 : Rd X (d + 1) 45) (hNX : NX (xb X) (xs X)) (hls : (xl X).stackTraces = false) (hd5 : 5 ≤ d) : GK X QL 562 (BL_12 L sx orc) := by
  show GK X QL 562 (o_aload 1 (o_sload 0 (o_iload 4 (o_iconst 1 (o_i2 (fun x y => x + y) (o_xld L sx (o_sload 0 (o_iload 4 (o_iconst 2 (o_i2 (fun x y => x + y) (o_xld L sx (o_vI orc 95 3 7 (o_aload 2 (o_sload 0 (o_iload 4 (o_iconst 1 (o_i2 (fun x y => x + y) (o_xld L sx (o_sload 0 (o_iload 4 (o_iconst 2 (o_i2 (fun x y => x + y) (o_xld L sx (o_vI orc 164 3 8 (o_ieq (o_jmp 25) (o_iconst 0 (o_zret)))))))))))))))))))))))))))
  refine gk_aload_n (j := 1) h (by decide +kernel) rfl ?_
  refine gk_sload_n (j := 0) h (by decide +kernel) rfl ?_
  refine gk_iload h (by decide +kernel) ?_
  refine gk_iconst (n := 1) h (by decide +kernel) (by decide) ?_
  refine gk_iadd h (by decide +kernel) ?_
  refine gk_xld h hXX (by decide +kernel) ?_
  refine gk_sload_n (j := 0) h (by decide +kernel) rfl ?_
  refine gk_iload h (by decide +kernel) ?_
  refine gk_iconst (n := 2) h (by decide +kernel) (by decide) ?_
  refine gk_iadd h (by decide +kernel) ?_
  refine gk_xld h hXX (by decide +kernel) ?_
  refine gk_vI (ca_v (idx := 67) h ho hm_95 (rd_le hrd (by decide)) ck_7 (by decide +kernel) kw_708 kw_709 kw_710 kw_91 kw_711 rfl (by decide +kernel) (by decide)) ?_
  refine gk_aload_n (j := 2) h (by decide +kernel) rfl ?_
  refine gk_sload_n (j := 0) h (by decide +kernel) rfl ?_
  refine gk_iload h (by decide +kernel) ?_
  refine gk_iconst (n := 1) h (by decide +kernel) (by decide) ?_
  refine gk_iadd h (by decide +kernel) ?_
  refine gk_xld h hXX (by decide +kernel) ?_
  refine gk_sload_n (j := 0) h (by decide +kernel) rfl ?_
  refine gk_iload h (by decide +kernel) ?_
  refine gk_iconst (n := 2) h (by decide +kernel) (by decide) ?_
  refine gk_iadd h (by decide +kernel) ?_
  refine gk_xld h hXX (by decide +kernel) ?_
  refine gk_vI (ca_v (idx := 70) h ho hm_164 (rd_le hrd (by decide)) ck_8 (by decide +kernel) kw_1330 kw_1331 kw_1332 kw_101 kw_1333 rfl (by decide +kernel) (by decide)) ?_
  refine gk_icmpeq (off := 283) (tgt := 877) h (by decide +kernel) (by decide) ?_ ?_
  · exact gk_jmp 25 rfl
  · refine gk_iconst (n := 0) h (by decide +kernel) (by decide) ?_
    exact gk_lwr h hL hrm (by decide +kernel)
set_option maxRecDepth 20000 in
set_option maxHeartbeats 4000000 in
theorem sL_13 {X : Cx} {orc : Orc} {d L : Nat} {sx : Nat → Int32} (h : XM X code RL) (hL : XLr X) (hrm : gZ (xf X) - gZ (x0 X) ≤ 601024 ∧ gU (xf X) - gU (x0 X) ≤ 7293034) (hXX : XX X L sx) (hxn : xn X = 7) (ho : xOS mtab X orc d) (hrd : Rd X d 45) (hrd2 : Rd X (d + 1) 45) (hNX : NX (xb X) (xs X)) (hls : (xl X).stackTraces = false) (hd5 : 5 ≤ d) : GK X QL 599 (BL_13 L sx orc) := by
  show GK X QL 599 (o_aload 1 (o_vI orc 96 1 7 (o_aload 2 (o_vI orc 174 1 8 (o_ieq (o_jmp 25) (o_iconst 0 (o_zret)))))))
  refine gk_aload_n (j := 1) h (by decide +kernel) rfl ?_
  refine gk_vI (ca_v (idx := 71) h ho hm_96 (rd_le hrd (by decide)) ck_7 (by decide +kernel) kw_716 kw_717 kw_718 kw_91 kw_719 rfl (by decide +kernel) (by decide)) ?_
  refine gk_aload_n (j := 2) h (by decide +kernel) rfl ?_
  refine gk_vI (ca_v (idx := 74) h ho hm_174 (rd_le hrd (by decide)) ck_8 (by decide +kernel) kw_1338 kw_1339 kw_1340 kw_101 kw_1341 rfl (by decide +kernel) (by decide)) ?_
  refine gk_icmpeq (off := 270) (tgt := 877) h (by decide +kernel) (by decide) ?_ ?_
  · exact gk_jmp 25 rfl
  · refine gk_iconst (n := 0) h (by decide +kernel) (by decide) ?_
    exact gk_lwr h hL hrm (by decide +kernel)
set_option maxRecDepth 20000 in
set_option maxHeartbeats 4000000 in
theorem sL_14 {X : Cx} {orc : Orc} {d L : Nat} {sx : Nat → Int32} (h : XM X code RL) (hL : XLr X) (hrm : gZ (xf X) - gZ (x0 X) ≤ 601024 ∧ gU (xf X) - gU (x0 X) ≤ 7293034) (hXX : XX X L sx) (hxn : xn X = 7) (ho : xOS mtab X orc d) (hrd : Rd X d 45) (hrd2 : Rd X (d + 1) 45) (hNX : NX (xb X) (xs X)) (hls : (xl X).stackTraces = false) (hd5 : 5 ≤ d) : GK X QL 612 (BL_14 L sx orc) := by
  show GK X QL 612 (o_aload 1 (o_vI orc 97 1 7 (o_aload 2 (o_vI orc 175 1 8 (o_ieq (o_jmp 25) (o_iconst 0 (o_zret)))))))
  refine gk_aload_n (j := 1) h (by decide +kernel) rfl ?_
  refine gk_vI (ca_v (idx := 75) h ho hm_97 (rd_le hrd (by decide)) ck_7 (by decide +kernel) kw_774 kw_775 kw_776 kw_91 kw_777 rfl (by decide +kernel) (by decide)) ?_
  refine gk_aload_n (j := 2) h (by decide +kernel) rfl ?_
  refine gk_vI (ca_v (idx := 78) h ho hm_175 (rd_le hrd (by decide)) ck_8 (by decide +kernel) kw_1373 kw_1374 kw_1375 kw_101 kw_1376 rfl (by decide +kernel) (by decide)) ?_
  refine gk_icmpeq (off := 257) (tgt := 877) h (by decide +kernel) (by decide) ?_ ?_
  · exact gk_jmp 25 rfl
  · refine gk_iconst (n := 0) h (by decide +kernel) (by decide) ?_
    exact gk_lwr h hL hrm (by decide +kernel)
set_option maxRecDepth 20000 in
set_option maxHeartbeats 4000000 in
theorem sL_15 {X : Cx} {orc : Orc} {d L : Nat} {sx : Nat → Int32} (h : XM X code RL) (hL : XLr X) (hrm : gZ (xf X) - gZ (x0 X) ≤ 601024 ∧ gU (xf X) - gU (x0 X) ≤ 7293034) (hXX : XX X L sx) (hxn : xn X = 7) (ho : xOS mtab X orc d) (hrd : Rd X d 45) (hrd2 : Rd X (d + 1) 45) (hNX : NX (xb X) (xs X)) (hls : (xl X).stackTraces = false) (hd5 : 5 ≤ d) : GK X QL 625 (BL_15 L sx orc) := by
  show GK X QL 625 (o_aload 1 (o_vI orc 98 1 7 (o_aload 2 (o_vI orc 177 1 8 (o_ieq (o_jmp 25) (o_iconst 0 (o_zret)))))))
  refine gk_aload_n (j := 1) h (by decide +kernel) rfl ?_
  refine gk_vI (ca_v (idx := 79) h ho hm_98 (rd_le hrd (by decide)) ck_7 (by decide +kernel) kw_779 kw_780 kw_781 kw_91 kw_782 rfl (by decide +kernel) (by decide)) ?_
  refine gk_aload_n (j := 2) h (by decide +kernel) rfl ?_
  refine gk_vI (ca_v (idx := 82) h ho hm_177 (rd_le hrd (by decide)) ck_8 (by decide +kernel) kw_1377 kw_1378 kw_1379 kw_101 kw_1380 rfl (by decide +kernel) (by decide)) ?_
  refine gk_icmpeq (off := 244) (tgt := 877) h (by decide +kernel) (by decide) ?_ ?_
  · exact gk_jmp 25 rfl
  · refine gk_iconst (n := 0) h (by decide +kernel) (by decide) ?_
    exact gk_lwr h hL hrm (by decide +kernel)
set_option maxRecDepth 20000 in
set_option maxHeartbeats 4000000 in
theorem sL_16 {X : Cx} {orc : Orc} {d L : Nat} {sx : Nat → Int32} (h : XM X code RL) (hL : XLr X) (hrm : gZ (xf X) - gZ (x0 X) ≤ 601024 ∧ gU (xf X) - gU (x0 X) ≤ 7293034) (hXX : XX X L sx) (hxn : xn X = 7) (ho : xOS mtab X orc d) (hrd : Rd X d 45) (hrd2 : Rd X (d + 1) 45) (hNX : NX (xb X) (xs X)) (hls : (xl X).stackTraces = false) (hd5 : 5 ≤ d) : GK X QL 638 (BL_16 L sx orc) := by
  show GK X QL 638 (o_aload 1 (o_sload 0 (o_iload 4 (o_iconst 1 (o_i2 (fun x y => x + y) (o_xld L sx (o_vI orc 99 2 7 (o_aload 2 (o_sload 0 (o_iload 4 (o_iconst 1 (o_i2 (fun x y => x + y) (o_xld L sx (o_vI orc 178 2 8 (o_ieq (o_jmp 25) (o_iconst 0 (o_zret)))))))))))))))))
  refine gk_aload_n (j := 1) h (by decide +kernel) rfl ?_
  refine gk_sload_n (j := 0) h (by decide +kernel) rfl ?_
  refine gk_iload h (by decide +kernel) ?_
  refine gk_iconst (n := 1) h (by decide +kernel) (by decide) ?_
  refine gk_iadd h (by decide +kernel) ?_
  refine gk_xld h hXX (by decide +kernel) ?_
  refine gk_vI (ca_v (idx := 83) h ho hm_99 (rd_le hrd (by decide)) ck_7 (by decide +kernel) kw_790 kw_791 kw_792 kw_91 kw_793 rfl (by decide +kernel) (by decide)) ?_
  refine gk_aload_n (j := 2) h (by decide +kernel) rfl ?_
  refine gk_sload_n (j := 0) h (by decide +kernel) rfl ?_
  refine gk_iload h (by decide +kernel) ?_
  refine gk_iconst (n := 1) h (by decide +kernel) (by decide) ?_
  refine gk_iadd h (by decide +kernel) ?_
  refine gk_xld h hXX (by decide +kernel) ?_
  refine gk_vI (ca_v (idx := 86) h ho hm_178 (rd_le hrd (by decide)) ck_8 (by decide +kernel) kw_1385 kw_1386 kw_1387 kw_101 kw_1388 rfl (by decide +kernel) (by decide)) ?_
  refine gk_icmpeq (off := 219) (tgt := 877) h (by decide +kernel) (by decide) ?_ ?_
  · exact gk_jmp 25 rfl
  · refine gk_iconst (n := 0) h (by decide +kernel) (by decide) ?_
    exact gk_lwr h hL hrm (by decide +kernel)
set_option maxRecDepth 20000 in
set_option maxHeartbeats 4000000 in
theorem sL_17 {X : Cx} {orc : Orc} {d L : Nat} {sx : Nat → Int32} (h : XM X code RL) (hL : XLr X) (hrm : gZ (xf X) - gZ (x0 X) ≤ 601024 ∧ gU (xf X) - gU (x0 X) ≤ 7293034) (hXX : XX X L sx) (hxn : xn X = 7) (ho : xOS mtab X orc d) (hrd : Rd X d 45) (hrd2 : Rd X (d + 1) 45) (hNX : NX (xb X) (xs X)) (hls : (xl X).stackTraces = false) (hd5 : 5 ≤ d) : GK X QL 663 (BL_17 L sx orc) := by
  show GK X QL 663 (o_aload 1 (o_sload 0 (o_iload 4 (o_iconst 1 (o_i2 (fun x y => x + y) (o_xld L sx (o_sload 0 (o_iload 4 (o_iconst 2 (o_i2 (fun x y => x + y) (o_xld L sx (o_vI orc 100 3 7 (o_aload 2 (o_sload 0 (o_iload 4 (o_iconst 1 (o_i2 (fun x y => x + y) (o_xld L sx (o_sload 0 (o_iload 4 (o_iconst 2 (o_i2 (fun x y => x + y) (o_xld L sx (o_vI orc 181 3 8 (o_ieq (o_jmp 25) (o_iconst 0 (o_zret)))))))))))))))))))))))))))
  refine gk_aload_n (j := 1) h (by decide +kernel) rfl ?_
  refine gk_sload_n (j := 0) h (by decide +kernel) rfl ?_
  refine gk_iload h (by decide +kernel) ?_
  refine gk_iconst (n := 1) h (by decide +kernel) (by decide) ?_
  refine gk_iadd h (by decide +kernel) ?_
  refine gk_xld h hXX (by decide +kernel) ?_
  refine gk_sload_n (j := 0) h (by decide +kernel) rfl ?_
  refine gk_iload h (by decide +kernel) ?_
  refine gk_iconst (n := 2) h (by decide +kernel) (by decide) ?_
  refine gk_iadd h (by decide +kernel) ?_
  refine gk_xld h hXX (by decide +kernel) ?_
  refine gk_vI (ca_v (idx := 87) h ho hm_100 (rd_le hrd (by decide)) ck_7 (by decide +kernel) kw_794 kw_795 kw_796 kw_91 kw_797 rfl (by decide +kernel) (by decide)) ?_
  refine gk_aload_n (j := 2) h (by decide +kernel) rfl ?_
  refine gk_sload_n (j := 0) h (by decide +kernel) rfl ?_
  refine gk_iload h (by decide +kernel) ?_
  refine gk_iconst (n := 1) h (by decide +kernel) (by decide) ?_
  refine gk_iadd h (by decide +kernel) ?_
  refine gk_xld h hXX (by decide +kernel) ?_
  refine gk_sload_n (j := 0) h (by decide +kernel) rfl ?_
  refine gk_iload h (by decide +kernel) ?_
  refine gk_iconst (n := 2) h (by decide +kernel) (by decide) ?_
  refine gk_iadd h (by decide +kernel) ?_
  refine gk_xld h hXX (by decide +kernel) ?_
  refine gk_vI (ca_v (idx := 90) h ho hm_181 (rd_le hrd (by decide)) ck_8 (by decide +kernel) kw_1389 kw_1390 kw_1391 kw_101 kw_1392 rfl (by decide +kernel) (by decide)) ?_
  refine gk_icmpeq (off := 182) (tgt := 877) h (by decide +kernel) (by decide) ?_ ?_
  · exact gk_jmp 25 rfl
  · refine gk_iconst (n := 0) h (by decide +kernel) (by decide) ?_
    exact gk_lwr h hL hrm (by decide +kernel)
set_option maxRecDepth 20000 in
set_option maxHeartbeats 4000000 in
theorem sL_18 {X : Cx} {orc : Orc} {d L : Nat} {sx : Nat → Int32} (h : XM X code RL) (hL : XLr X) (hrm : gZ (xf X) - gZ (x0 X) ≤ 601024 ∧ gU (xf X) - gU (x0 X) ≤ 7293034) (hXX : XX X L sx) (hxn : xn X = 7) (ho : xOS mtab X orc d) (hrd : Rd X d 45) (hrd2 : Rd X (d + 1) 45) (hNX : NX (xb X) (xs X)) (hls : (xl X).stackTraces = false) (hd5 : 5 ≤ d) : GK X QL 700 (BL_18 L sx orc) := by
  show GK X QL 700 (o_aload 1 (o_sload 0 (o_iload 4 (o_iconst 1 (o_i2 (fun x y => x + y) (o_xld L sx (o_vI orc 101 2 7 (o_aload 2 (o_sload 0 (o_iload 4 (o_iconst 1 (o_i2 (fun x y => x + y) (o_xld L sx (o_vI orc 183 2 8 (o_ieq (o_jmp 25) (o_iconst 0 (o_zret)))))))))))))))))
  refine gk_aload_n (j := 1) h (by decide +kernel) rfl ?_
  refine gk_sload_n (j := 0) h (by decide +kernel) rfl ?_
  refine gk_iload h (by decide +kernel) ?_
  refine gk_iconst (n := 1) h (by decide +kernel) (by decide) ?_
  refine gk_iadd h (by decide +kernel) ?_
  refine gk_xld h hXX (by decide +kernel) ?_
  refine gk_vI (ca_v (idx := 91) h ho hm_101 (rd_le hrd (by decide)) ck_7 (by decide +kernel) kw_798 kw_799 kw_800 kw_91 kw_801 rfl (by decide +kernel) (by decide)) ?_
  refine gk_aload_n (j := 2) h (by decide +kernel) rfl ?_
  refine gk_sload_n (j := 0) h (by decide +kernel) rfl ?_
  refine gk_iload h (by decide +kernel) ?_
  refine gk_iconst (n := 1) h (by decide +kernel) (by decide) ?_
  refine gk_iadd h (by decide +kernel) ?_
  refine gk_xld h hXX (by decide +kernel) ?_
  refine gk_vI (ca_v (idx := 94) h ho hm_183 (rd_le hrd (by decide)) ck_8 (by decide +kernel) kw_1401 kw_1402 kw_1403 kw_101 kw_1404 rfl (by decide +kernel) (by decide)) ?_
  refine gk_icmpeq (off := 157) (tgt := 877) h (by decide +kernel) (by decide) ?_ ?_
  · exact gk_jmp 25 rfl
  · refine gk_iconst (n := 0) h (by decide +kernel) (by decide) ?_
    exact gk_lwr h hL hrm (by decide +kernel)
set_option maxRecDepth 20000 in
set_option maxHeartbeats 4000000 in
theorem sL_19 {X : Cx} {orc : Orc} {d L : Nat} {sx : Nat → Int32} (h : XM X code RL) (hL : XLr X) (hrm : gZ (xf X) - gZ (x0 X) ≤ 601024 ∧ gU (xf X) - gU (x0 X) ≤ 7293034) (hXX : XX X L sx) (hxn : xn X = 7) (ho : xOS mtab X orc d) (hrd : Rd X d 45) (hrd2 : Rd X (d + 1) 45) (hNX : NX (xb X) (xs X)) (hls : (xl X).stackTraces = false) (hd5 : 5 ≤ d) : GK X QL 725 (BL_19 L sx orc) := by
  show GK X QL 725 (o_aload 1 (o_sload 0 (o_iload 4 (o_iconst 1 (o_i2 (fun x y => x + y) (o_xld L sx (o_vI orc 102 2 7 (o_aload 2 (o_sload 0 (o_iload 4 (o_iconst 1 (o_i2 (fun x y => x + y) (o_xld L sx (o_vI orc 184 2 8 (o_ieq (o_jmp 25) (o_iconst 0 (o_zret)))))))))))))))))
  refine gk_aload_n (j := 1) h (by decide +kernel) rfl ?_
  refine gk_sload_n (j := 0) h (by decide +kernel) rfl ?_
  refine gk_iload h (by decide +kernel) ?_
  refine gk_iconst (n := 1) h (by decide +kernel) (by decide) ?_
  refine gk_iadd h (by decide +kernel) ?_
  refine gk_xld h hXX (by decide +kernel) ?_
  refine gk_vI (ca_v (idx := 95) h ho hm_102 (rd_le hrd (by decide)) ck_7 (by decide +kernel) kw_837 kw_838 kw_839 kw_91 kw_840 rfl (by decide +kernel) (by decide)) ?_
  refine gk_aload_n (j := 2) h (by decide +kernel) rfl ?_
  refine gk_sload_n (j := 0) h (by decide +kernel) rfl ?_
  refine gk_iload h (by decide +kernel) ?_
  refine gk_iconst (n := 1) h (by decide +kernel) (by decide) ?_
  refine gk_iadd h (by decide +kernel) ?_
  refine gk_xld h hXX (by decide +kernel) ?_
  refine gk_vI (ca_v (idx := 98) h ho hm_184 (rd_le hrd (by decide)) ck_8 (by decide +kernel) kw_1414 kw_1415 kw_1416 kw_101 kw_1417 rfl (by decide +kernel) (by decide)) ?_
  refine gk_icmpeq (off := 132) (tgt := 877) h (by decide +kernel) (by decide) ?_ ?_
  · exact gk_jmp 25 rfl
  · refine gk_iconst (n := 0) h (by decide +kernel) (by decide) ?_
    exact gk_lwr h hL hrm (by decide +kernel)
set_option maxRecDepth 20000 in
set_option maxHeartbeats 4000000 in
theorem sL_20 {X : Cx} {orc : Orc} {d L : Nat} {sx : Nat → Int32} (h : XM X code RL) (hL : XLr X) (hrm : gZ (xf X) - gZ (x0 X) ≤ 601024 ∧ gU (xf X) - gU (x0 X) ≤ 7293034) (hXX : XX X L sx) (hxn : xn X = 7) (ho : xOS mtab X orc d) (hrd : Rd X d 45) (hrd2 : Rd X (d + 1) 45) (hNX : NX (xb X) (xs X)) (hls : (xl X).stackTraces = false) (hd5 : 5 ≤ d) : GK X QL 750 (BL_20 L sx orc) := by
  show GK X QL 750 (o_aload 1 (o_sload 0 (o_iload 4 (o_iconst 1 (o_i2 (fun x y => x + y) (o_xld L sx (o_sload 0 (o_iload 4 (o_iconst 2 (o_i2 (fun x y => x + y) (o_xld L sx (o_sload 0 (o_iload 4 (o_iconst 3 (o_i2 (fun x y => x + y) (o_xld L sx (o_vI orc 103 4 7 (o_aload 2 (o_sload 0 (o_iload 4 (o_iconst 1 (o_i2 (fun x y => x + y) (o_xld L sx (o_sload 0 (o_iload 4 (o_iconst 2 (o_i2 (fun x y => x + y) (o_xld L sx (o_sload 0 (o_iload 4 (o_iconst 3 (o_i2 (fun x y => x + y) (o_xld L sx (o_vI orc 186 4 8 (o_ieq (o_jmp 25) (o_iconst 0 (o_zret)))))))))))))))))))))))))))))))))))))
  refine gk_aload_n (j := 1) h (by decide +kernel) rfl ?_
  refine gk_sload_n (j := 0) h (by decide +kernel) rfl ?_
  refine gk_iload h (by decide +kernel) ?_
  refine gk_iconst (n := 1) h (by decide +kernel) (by decide) ?_
  refine gk_iadd h (by decide +kernel) ?_
  refine gk_xld h hXX (by decide +kernel) ?_
  refine gk_sload_n (j := 0) h (by decide +kernel) rfl ?_
  refine gk_iload h (by decide +kernel) ?_
  refine gk_iconst (n := 2) h (by decide +kernel) (by decide) ?_
  refine gk_iadd h (by decide +kernel) ?_
  refine gk_xld h hXX (by decide +kernel) ?_
  refine gk_sload_n (j := 0) h (by decide +kernel) rfl ?_
  refine gk_iload h (by decide +kernel) ?_
  refine gk_iconst (n := 3) h (by decide +kernel) (by decide) ?_
  refine gk_iadd h (by decide +kernel) ?_
  refine gk_xld h hXX (by decide +kernel) ?_
  refine gk_vI (ca_v (idx := 99) h ho hm_103 (rd_le hrd (by decide)) ck_7 (by decide +kernel) kw_845 kw_846 kw_847 kw_91 kw_848 rfl (by decide +kernel) (by decide)) ?_
  refine gk_aload_n (j := 2) h (by decide +kernel) rfl ?_
  refine gk_sload_n (j := 0) h (by decide +kernel) rfl ?_
  refine gk_iload h (by decide +kernel) ?_
  refine gk_iconst (n := 1) h (by decide +kernel) (by decide) ?_
  refine gk_iadd h (by decide +kernel) ?_
  refine gk_xld h hXX (by decide +kernel) ?_
  refine gk_sload_n (j := 0) h (by decide +kernel) rfl ?_
  refine gk_iload h (by decide +kernel) ?_
  refine gk_iconst (n := 2) h (by decide +kernel) (by decide) ?_
  refine gk_iadd h (by decide +kernel) ?_
  refine gk_xld h hXX (by decide +kernel) ?_
  refine gk_sload_n (j := 0) h (by decide +kernel) rfl ?_
  refine gk_iload h (by decide +kernel) ?_
  refine gk_iconst (n := 3) h (by decide +kernel) (by decide) ?_
  refine gk_iadd h (by decide +kernel) ?_
  refine gk_xld h hXX (by decide +kernel) ?_
  refine gk_vI (ca_v (idx := 102) h ho hm_186 (rd_le hrd (by decide)) ck_8 (by decide +kernel) kw_1418 kw_1419 kw_1420 kw_101 kw_1421 rfl (by decide +kernel) (by decide)) ?_
  refine gk_icmpeq (off := 83) (tgt := 877) h (by decide +kernel) (by decide) ?_ ?_
  · exact gk_jmp 25 rfl
  · refine gk_iconst (n := 0) h (by decide +kernel) (by decide) ?_
    exact gk_lwr h hL hrm (by decide +kernel)
set_option maxRecDepth 20000 in
set_option maxHeartbeats 4000000 in
theorem sL_21 {X : Cx} {orc : Orc} {d L : Nat} {sx : Nat → Int32} (h : XM X code RL) (hL : XLr X) (hrm : gZ (xf X) - gZ (x0 X) ≤ 601024 ∧ gU (xf X) - gU (x0 X) ≤ 7293034) (hXX : XX X L sx) (hxn : xn X = 7) (ho : xOS mtab X orc d) (hrd : Rd X d 45) (hrd2 : Rd X (d + 1) 45) (hNX : NX (xb X) (xs X)) (hls : (xl X).stackTraces = false) (hd5 : 5 ≤ d) : GK X QL 799 (BL_21 L sx orc) := by
  show GK X QL 799 (o_aload 1 (o_sload 0 (o_iload 4 (o_iconst 1 (o_i2 (fun x y => x + y) (o_xld L sx (o_sload 0 (o_iload 4 (o_iconst 2 (o_i2 (fun x y => x + y) (o_xld L sx (o_if0 (o_iconst 0 (o_jmp 22)) (o_iconst 1 (o_jmp 22))))))))))))))
  refine gk_aload_n (j := 1) h (by decide +kernel) rfl ?_
  refine gk_sload_n (j := 0) h (by decide +kernel) rfl ?_
  refine gk_iload h (by decide +kernel) ?_
  refine gk_iconst (n := 1) h (by decide +kernel) (by decide) ?_
  refine gk_iadd h (by decide +kernel) ?_
  refine gk_xld h hXX (by decide +kernel) ?_
  refine gk_sload_n (j := 0) h (by decide +kernel) rfl ?_
  refine gk_iload h (by decide +kernel) ?_
  refine gk_iconst (n := 2) h (by decide +kernel) (by decide) ?_
  refine gk_iadd h (by decide +kernel) ?_
  refine gk_xld h hXX (by decide +kernel) ?_
  refine gk_ifeq (off := 7) (tgt := 819) h (by decide +kernel) (by decide) ?_ ?_
  · refine gk_iconst (n := 0) h (by decide +kernel) (by decide) ?_
    exact gk_jmp 22 rfl
  · refine gk_iconst (n := 1) h (by decide +kernel) (by decide) ?_
    refine gk_goto (off := 4) (tgt := 820) h (by decide +kernel) (by decide) ?_
    exact gk_jmp 22 rfl
set_option maxRecDepth 20000 in
set_option maxHeartbeats 4000000 in
theorem sL_22 {X : Cx} {orc : Orc} {d L : Nat} {sx : Nat → Int32} (h : XM X code RL) (hL : XLr X) (hrm : gZ (xf X) - gZ (x0 X) ≤ 601024 ∧ gU (xf X) - gU (x0 X) ≤ 7293034) (hXX : XX X L sx) (hxn : xn X = 7) (ho : xOS mtab X orc d) (hrd : Rd X d 45) (hrd2 : Rd X (d + 1) 45) (hNX : NX (xb X) (xs X)) (hls : (xl X).stackTraces = false) (hd5 : 5 ≤ d) : GK X QL 820 (BL_22 L sx orc) := by
  show GK X QL 820 (o_vI orc 104 3 7 (o_aload 2 (o_sload 0 (o_iload 4 (o_iconst 1 (o_i2 (fun x y => x + y) (o_xld L sx (o_sload 0 (o_iload 4 (o_iconst 2 (o_i2 (fun x y => x + y) (o_xld L sx (o_if0 (o_iconst 0 (o_jmp 23)) (o_iconst 1 (o_jmp 23)))))))))))))))
  refine gk_vI (ca_v (idx := 103) h ho hm_104 (rd_le hrd (by decide)) ck_7 (by decide +kernel) kw_854 kw_855 kw_856 kw_91 kw_857 rfl (by decide +kernel) (by decide)) ?_
  refine gk_aload_n (j := 2) h (by decide +kernel) rfl ?_
  refine gk_sload_n (j := 0) h (by decide +kernel) rfl ?_
  refine gk_iload h (by decide +kernel) ?_
  refine gk_iconst (n := 1) h (by decide +kernel) (by decide) ?_
  refine gk_iadd h (by decide +kernel) ?_
  refine gk_xld h hXX (by decide +kernel) ?_
  refine gk_sload_n (j := 0) h (by decide +kernel) rfl ?_
  refine gk_iload h (by decide +kernel) ?_
  refine gk_iconst (n := 2) h (by decide +kernel) (by decide) ?_
  refine gk_iadd h (by decide +kernel) ?_
  refine gk_xld h hXX (by decide +kernel) ?_
  refine gk_ifeq (off := 7) (tgt := 843) h (by decide +kernel) (by decide) ?_ ?_
  · refine gk_iconst (n := 0) h (by decide +kernel) (by decide) ?_
    exact gk_jmp 23 rfl
  · refine gk_iconst (n := 1) h (by decide +kernel) (by decide) ?_
    refine gk_goto (off := 4) (tgt := 844) h (by decide +kernel) (by decide) ?_
    exact gk_jmp 23 rfl
set_option maxRecDepth 20000 in
set_option maxHeartbeats 4000000 in
theorem sL_23 {X : Cx} {orc : Orc} {d L : Nat} {sx : Nat → Int32} (h : XM X code RL) (hL : XLr X) (hrm : gZ (xf X) - gZ (x0 X) ≤ 601024 ∧ gU (xf X) - gU (x0 X) ≤ 7293034) (hXX : XX X L sx) (hxn : xn X = 7) (ho : xOS mtab X orc d) (hrd : Rd X d 45) (hrd2 : Rd X (d + 1) 45) (hNX : NX (xb X) (xs X)) (hls : (xl X).stackTraces = false) (hd5 : 5 ≤ d) : GK X QL 844 (BL_23 L sx orc) := by
  show GK X QL 844 (o_vI orc 187 3 8 (o_ieq (o_jmp 25) (o_iconst 0 (o_zret))))
  refine gk_vI (ca_v (idx := 107) h ho hm_187 (rd_le hrd (by decide)) ck_8 (by decide +kernel) kw_1430 kw_1431 kw_1432 kw_101 kw_1433 rfl (by decide +kernel) (by decide)) ?_
  refine gk_icmpeq (off := 30) (tgt := 877) h (by decide +kernel) (by decide) ?_ ?_
  · exact gk_jmp 25 rfl
  · refine gk_iconst (n := 0) h (by decide +kernel) (by decide) ?_
    exact gk_lwr h hL hrm (by decide +kernel)
set_option maxRecDepth 20000 in
set_option maxHeartbeats 4000000 in
theorem sL_24 {X : Cx} {orc : Orc} {d L : Nat} {sx : Nat → Int32} (h : XM X code RL) (hL : XLr X) (hrm : gZ (xf X) - gZ (x0 X) ≤ 601024 ∧ gU (xf X) - gU (x0 X) ≤ 7293034) (hXX : XX X L sx) (hxn : xn X = 7) (ho : xOS mtab X orc d) (hrd : Rd X d 45) (hrd2 : Rd X (d + 1) 45) (hNX : NX (xb X) (xs X)) (hls : (xl X).stackTraces = false) (hd5 : 5 ≤ d) : GK X QL 852 (BL_24 L sx orc) := by
  show GK X QL 852 (o_aload 1 (o_sload 0 (o_iload 4 (o_iconst 1 (o_i2 (fun x y => x + y) (o_xld L sx (o_vI orc 105 2 7 (o_aload 2 (o_sload 0 (o_iload 4 (o_iconst 1 (o_i2 (fun x y => x + y) (o_xld L sx (o_vI orc 188 2 8 (o_ieq (o_jmp 25) (o_iconst 0 (o_zret)))))))))))))))))
  refine gk_aload_n (j := 1) h (by decide +kernel) rfl ?_
  refine gk_sload_n (j := 0) h (by decide +kernel) rfl ?_
  refine gk_iload h (by decide +kernel) ?_
  refine gk_iconst (n := 1) h (by decide +kernel) (by decide) ?_
  refine gk_iadd h (by decide +kernel) ?_
  refine gk_xld h hXX (by decide +kernel) ?_
  refine gk_vI (ca_v (idx := 108) h ho hm_105 (rd_le hrd (by decide)) ck_7 (by decide +kernel) kw_868 kw_869 kw_870 kw_91 kw_871 rfl (by decide +kernel) (by decide)) ?_
  refine gk_aload_n (j := 2) h (by decide +kernel) rfl ?_
  refine gk_sload_n (j := 0) h (by decide +kernel) rfl ?_
  refine gk_iload h (by decide +kernel) ?_
  refine gk_iconst (n := 1) h (by decide +kernel) (by decide) ?_
  refine gk_iadd h (by decide +kernel) ?_
  refine gk_xld h hXX (by decide +kernel) ?_
  refine gk_vI (ca_v (idx := 111) h ho hm_188 (rd_le hrd (by decide)) ck_8 (by decide +kernel) kw_1434 kw_1435 kw_1436 kw_101 kw_1437 rfl (by decide +kernel) (by decide)) ?_
  refine gk_icmpeq (off := 5) (tgt := 877) h (by decide +kernel) (by decide) ?_ ?_
  · exact gk_jmp 25 rfl
  · refine gk_iconst (n := 0) h (by decide +kernel) (by decide) ?_
    exact gk_lwr h hL hrm (by decide +kernel)
set_option maxRecDepth 20000 in
set_option maxHeartbeats 4000000 in
theorem sL_25 {X : Cx} {orc : Orc} {d L : Nat} {sx : Nat → Int32} (h : XM X code RL) (hL : XLr X) (hrm : gZ (xf X) - gZ (x0 X) ≤ 601024 ∧ gU (xf X) - gU (x0 X) ≤ 7293034) (hXX : XX X L sx) (hxn : xn X = 7) (ho : xOS mtab X orc d) (hrd : Rd X d 45) (hrd2 : Rd X (d + 1) 45) (hNX : NX (xb X) (xs X)) (hls : (xl X).stackTraces = false) (hd5 : 5 ≤ d) : GK X QL 877 (BL_25 L sx orc) := by
  show GK X QL 877 (o_iinc 4 7 (o_jmp 1))
  refine gk_iinc (z := 7) h (by decide +kernel) (by decide) hxn (by decide) ?_
  refine gk_goto (off := (-857)) (tgt := 23) h (by decide +kernel) (by decide) ?_
  exact gk_jmp 1 rfl
theorem sL {X : Cx} {orc : Orc} {d L : Nat} {sx : Nat → Int32} (h : XM X code RL) (hL : XLr X) (hrm : gZ (xf X) - gZ (x0 X) ≤ 601024 ∧ gU (xf X) - gU (x0 X) ≤ 7293034) (hXX : XX X L sx) (hxn : xn X = 7) (ho : xOS mtab X orc d) (hrd : Rd X d 45) (hrd2 : Rd X (d + 1) 45) (hNX : NX (xb X) (xs X)) (hls : (xl X).stackTraces = false) (hd5 : 5 ≤ d) (b : Nat) : GK X QL (QL b) (PL L sx orc b) := by
  match b with
  | 0 => exact sL_0 h hL hrm hXX hxn ho hrd hrd2 hNX hls hd5
  | 1 => exact sL_1 h hL hrm hXX hxn ho hrd hrd2 hNX hls hd5
  | 2 => exact sL_2 h hL hrm hXX hxn ho hrd hrd2 hNX hls hd5
  | 3 => exact sL_3 h hL hrm hXX hxn ho hrd hrd2 hNX hls hd5
  | 4 => exact sL_4 h hL hrm hXX hxn ho hrd hrd2 hNX hls hd5
  | 5 => exact sL_5 h hL hrm hXX hxn ho hrd hrd2 hNX hls hd5
  | 6 => exact sL_6 h hL hrm hXX hxn ho hrd hrd2 hNX hls hd5
  | 7 => exact sL_7 h hL hrm hXX hxn ho hrd hrd2 hNX hls hd5
  | 8 => exact sL_8 h hL hrm hXX hxn ho hrd hrd2 hNX hls hd5
  | 9 => exact sL_9 h hL hrm hXX hxn ho hrd hrd2 hNX hls hd5
  | 10 => exact sL_10 h hL hrm hXX hxn ho hrd hrd2 hNX hls hd5
  | 11 => exact sL_11 h hL hrm hXX hxn ho hrd hrd2 hNX hls hd5
  | 12 => exact sL_12 h hL hrm hXX hxn ho hrd hrd2 hNX hls hd5
  | 13 => exact sL_13 h hL hrm hXX hxn ho hrd hrd2 hNX hls hd5
  | 14 => exact sL_14 h hL hrm hXX hxn ho hrd hrd2 hNX hls hd5
  | 15 => exact sL_15 h hL hrm hXX hxn ho hrd hrd2 hNX hls hd5
  | 16 => exact sL_16 h hL hrm hXX hxn ho hrd hrd2 hNX hls hd5
  | 17 => exact sL_17 h hL hrm hXX hxn ho hrd hrd2 hNX hls hd5
  | 18 => exact sL_18 h hL hrm hXX hxn ho hrd hrd2 hNX hls hd5
  | 19 => exact sL_19 h hL hrm hXX hxn ho hrd hrd2 hNX hls hd5
  | 20 => exact sL_20 h hL hrm hXX hxn ho hrd hrd2 hNX hls hd5
  | 21 => exact sL_21 h hL hrm hXX hxn ho hrd hrd2 hNX hls hd5
  | 22 => exact sL_22 h hL hrm hXX hxn ho hrd hrd2 hNX hls hd5
  | 23 => exact sL_23 h hL hrm hXX hxn ho hrd hrd2 hNX hls hd5
  | 24 => exact sL_24 h hL hrm hXX hxn ho hrd hrd2 hNX hls hd5
  | 25 => exact sL_25 h hL hrm hXX hxn ho hrd hrd2 hNX hls hd5
  | _ + 26 => exact fun _ _ _ hr => hr.elim
