theorem w_1047 : Cond.classLink "RunnerNetLaw" 10 "RunnerNetModel" ∈ tT := tM 1047 (by decide +kernel) rfl
theorem w_108 : Cond.classLink "RunnerNetLaw" 7 "RunnerNet" ∈ tT := tM 108 (by decide +kernel) rfl
theorem w_1493 : Cond.constantLong "RunnerNetLaw" 13 (4294967295) ∈ tT := tM 1493 (by decide +kernel) rfl
theorem w_109 : Cond.instantiable "RunnerNet" 10 ∈ tT := tM 109 (by decide +kernel) rfl
theorem w_1048 : Cond.instantiable "RunnerNetModel" 41 ∈ tT := tM 1048 (by decide +kernel) rfl
theorem w_88 : Cond.initialized "RunnerNet" ∈ tT := tM 88 (by decide +kernel) rfl
theorem w_98 : Cond.initialized "RunnerNetModel" ∈ tT := tM 98 (by decide +kernel) rfl
theorem mf_X10_answer : MF md_X10_answer 3 := ⟨by decide, by decide, by decide +kernel, tM 1488 (by decide +kernel) rfl, tM 98 (by decide +kernel) rfl, rfl, rfl⟩
theorem vf_X10_answer : VF md_X10_answer := ⟨tM 1486 (by decide +kernel) rfl, tM 1487 (by decide +kernel) rfl⟩
theorem mf_X10_away : MF md_X10_away 1 := ⟨by decide, by decide, by decide +kernel, tM 1436 (by decide +kernel) rfl, tM 98 (by decide +kernel) rfl, rfl, rfl⟩
theorem vf_X10_away : VF md_X10_away := ⟨tM 1434 (by decide +kernel) rfl, tM 1435 (by decide +kernel) rfl⟩
theorem mf_X10_best : MF md_X10_best 3 := ⟨by decide, by decide, by decide +kernel, tM 1329 (by decide +kernel) rfl, tM 98 (by decide +kernel) rfl, rfl, rfl⟩
theorem vf_X10_best : VF md_X10_best := ⟨tM 1327 (by decide +kernel) rfl, tM 1328 (by decide +kernel) rfl⟩
theorem mf_X10_clear : MF md_X10_clear 3 := ⟨by decide, by decide, by decide +kernel, tM 1389 (by decide +kernel) rfl, tM 98 (by decide +kernel) rfl, rfl, rfl⟩
theorem vf_X10_clear : VF md_X10_clear := ⟨tM 1387 (by decide +kernel) rfl, tM 1388 (by decide +kernel) rfl⟩
theorem mf_X10_count : MF md_X10_count 1 := ⟨by decide, by decide, by decide +kernel, tM 1492 (by decide +kernel) rfl, tM 98 (by decide +kernel) rfl, rfl, rfl⟩
theorem vf_X10_count : VF md_X10_count := ⟨tM 1490 (by decide +kernel) rfl, tM 1491 (by decide +kernel) rfl⟩
theorem mf_X10_erase : MF md_X10_erase 0 := ⟨by decide, by decide, by decide +kernel, tM 1191 (by decide +kernel) rfl, tM 98 (by decide +kernel) rfl, rfl, rfl⟩
theorem vf_X10_erase : VF md_X10_erase := ⟨tM 1189 (by decide +kernel) rfl, tM 1190 (by decide +kernel) rfl⟩
theorem mf_X10_escapes : MF md_X10_escapes 2 := ⟨by decide, by decide, by decide +kernel, tM 1341 (by decide +kernel) rfl, tM 98 (by decide +kernel) rfl, rfl, rfl⟩
theorem vf_X10_escapes : VF md_X10_escapes := ⟨tM 1339 (by decide +kernel) rfl, tM 1340 (by decide +kernel) rfl⟩
theorem mf_X10_far : MF md_X10_far 2 := ⟨by decide, by decide, by decide +kernel, tM 1252 (by decide +kernel) rfl, tM 98 (by decide +kernel) rfl, rfl, rfl⟩
theorem vf_X10_far : VF md_X10_far := ⟨tM 1250 (by decide +kernel) rfl, tM 1251 (by decide +kernel) rfl⟩
theorem mf_X10_fault : MF md_X10_fault 0 := ⟨by decide, by decide, by decide +kernel, tM 1195 (by decide +kernel) rfl, tM 98 (by decide +kernel) rfl, rfl, rfl⟩
theorem vf_X10_fault : VF md_X10_fault := ⟨tM 1193 (by decide +kernel) rfl, tM 1194 (by decide +kernel) rfl⟩
theorem mf_X10_fewest : MF md_X10_fewest 1 := ⟨by decide, by decide, by decide +kernel, tM 1337 (by decide +kernel) rfl, tM 98 (by decide +kernel) rfl, rfl, rfl⟩
theorem vf_X10_fewest : VF md_X10_fewest := ⟨tM 1335 (by decide +kernel) rfl, tM 1336 (by decide +kernel) rfl⟩
theorem mf_X10_flee : MF md_X10_flee 4 := ⟨by decide, by decide, by decide +kernel, tM 1353 (by decide +kernel) rfl, tM 98 (by decide +kernel) rfl, rfl, rfl⟩
theorem vf_X10_flee : VF md_X10_flee := ⟨tM 1351 (by decide +kernel) rfl, tM 1352 (by decide +kernel) rfl⟩
theorem mf_X10_flying : MF md_X10_flying 2 := ⟨by decide, by decide, by decide +kernel, tM 1409 (by decide +kernel) rfl, tM 98 (by decide +kernel) rfl, rfl, rfl⟩
theorem vf_X10_flying : VF md_X10_flying := ⟨tM 1407 (by decide +kernel) rfl, tM 1408 (by decide +kernel) rfl⟩
theorem mf_X10_free : MF md_X10_free 2 := ⟨by decide, by decide, by decide +kernel, tM 1405 (by decide +kernel) rfl, tM 98 (by decide +kernel) rfl, rfl, rfl⟩
theorem vf_X10_free : VF md_X10_free := ⟨tM 1403 (by decide +kernel) rfl, tM 1404 (by decide +kernel) rfl⟩
theorem mf_X10_guards : MF md_X10_guards 2 := ⟨by decide, by decide, by decide +kernel, tM 1484 (by decide +kernel) rfl, tM 98 (by decide +kernel) rfl, rfl, rfl⟩
theorem vf_X10_guards : VF md_X10_guards := ⟨tM 1482 (by decide +kernel) rfl, tM 1483 (by decide +kernel) rfl⟩
theorem mf_X10_hunt : MF md_X10_hunt 4 := ⟨by decide, by decide, by decide +kernel, tM 1345 (by decide +kernel) rfl, tM 98 (by decide +kernel) rfl, rfl, rfl⟩
theorem vf_X10_hunt : VF md_X10_hunt := ⟨tM 1343 (by decide +kernel) rfl, tM 1344 (by decide +kernel) rfl⟩
theorem mf_X10_laid : MF md_X10_laid 0 := ⟨by decide, by decide, by decide +kernel, tM 1228 (by decide +kernel) rfl, tM 98 (by decide +kernel) rfl, rfl, rfl⟩
theorem vf_X10_laid : VF md_X10_laid := ⟨tM 1226 (by decide +kernel) rfl, tM 1227 (by decide +kernel) rfl⟩
theorem mf_X10_least : MF md_X10_least 1 := ⟨by decide, by decide, by decide +kernel, tM 1448 (by decide +kernel) rfl, tM 98 (by decide +kernel) rfl, rfl, rfl⟩
theorem vf_X10_least : VF md_X10_least := ⟨tM 1446 (by decide +kernel) rfl, tM 1447 (by decide +kernel) rfl⟩
theorem mf_X10_now : MF md_X10_now 1 := ⟨by decide, by decide, by decide +kernel, tM 1373 (by decide +kernel) rfl, tM 98 (by decide +kernel) rfl, rfl, rfl⟩
theorem vf_X10_now : VF md_X10_now := ⟨tM 1371 (by decide +kernel) rfl, tM 1372 (by decide +kernel) rfl⟩
theorem mf_X10_play : MF md_X10_play 4 := ⟨by decide, by decide, by decide +kernel, tM 1361 (by decide +kernel) rfl, tM 98 (by decide +kernel) rfl, rfl, rfl⟩
theorem vf_X10_play : VF md_X10_play := ⟨tM 1359 (by decide +kernel) rfl, tM 1360 (by decide +kernel) rfl⟩
theorem mf_X10_road : MF md_X10_road 4 := ⟨by decide, by decide, by decide +kernel, tM 1236 (by decide +kernel) rfl, tM 98 (by decide +kernel) rfl, rfl, rfl⟩
theorem vf_X10_road : VF md_X10_road := ⟨tM 1234 (by decide +kernel) rfl, tM 1235 (by decide +kernel) rfl⟩
theorem mf_X10_rounds : MF md_X10_rounds 4 := ⟨by decide, by decide, by decide +kernel, tM 1260 (by decide +kernel) rfl, tM 98 (by decide +kernel) rfl, rfl, rfl⟩
theorem vf_X10_rounds : VF md_X10_rounds := ⟨tM 1258 (by decide +kernel) rfl, tM 1259 (by decide +kernel) rfl⟩
theorem mf_X10_safe : MF md_X10_safe 2 := ⟨by decide, by decide, by decide +kernel, tM 1456 (by decide +kernel) rfl, tM 98 (by decide +kernel) rfl, rfl, rfl⟩
theorem vf_X10_safe : VF md_X10_safe := ⟨tM 1454 (by decide +kernel) rfl, tM 1455 (by decide +kernel) rfl⟩
theorem mf_X10_spread : MF md_X10_spread 3 := ⟨by decide, by decide, by decide +kernel, tM 1377 (by decide +kernel) rfl, tM 98 (by decide +kernel) rfl, rfl, rfl⟩
theorem vf_X10_spread : VF md_X10_spread := ⟨tM 1375 (by decide +kernel) rfl, tM 1376 (by decide +kernel) rfl⟩
theorem mf_X10_steps : MF md_X10_steps 1 := ⟨by decide, by decide, by decide +kernel, tM 1244 (by decide +kernel) rfl, tM 98 (by decide +kernel) rfl, rfl, rfl⟩
theorem vf_X10_steps : VF md_X10_steps := ⟨tM 1242 (by decide +kernel) rfl, tM 1243 (by decide +kernel) rfl⟩
theorem mf_X10_turn : MF md_X10_turn 2 := ⟨by decide, by decide, by decide +kernel, tM 1365 (by decide +kernel) rfl, tM 98 (by decide +kernel) rfl, rfl, rfl⟩
theorem vf_X10_turn : VF md_X10_turn := ⟨tM 1363 (by decide +kernel) rfl, tM 1364 (by decide +kernel) rfl⟩
theorem mf_X10_worth : MF md_X10_worth 3 := ⟨by decide, by decide, by decide +kernel, tM 1321 (by decide +kernel) rfl, tM 98 (by decide +kernel) rfl, rfl, rfl⟩
theorem vf_X10_worth : VF md_X10_worth := ⟨tM 1319 (by decide +kernel) rfl, tM 1320 (by decide +kernel) rfl⟩
theorem mf_X10_write : MF md_X10_write 2 := ⟨by decide, by decide, by decide +kernel, tM 1183 (by decide +kernel) rfl, tM 98 (by decide +kernel) rfl, rfl, rfl⟩
theorem vf_X10_write : VF md_X10_write := ⟨tM 1181 (by decide +kernel) rfl, tM 1182 (by decide +kernel) rfl⟩
theorem mf_X9_answer : MF md_X9_answer 3 := ⟨by decide, by decide, by decide +kernel, tM 1027 (by decide +kernel) rfl, tM 88 (by decide +kernel) rfl, rfl, rfl⟩
theorem vf_X9_answer : VF md_X9_answer := ⟨tM 1025 (by decide +kernel) rfl, tM 1026 (by decide +kernel) rfl⟩
theorem mf_X9_away : MF md_X9_away 1 := ⟨by decide, by decide, by decide +kernel, tM 914 (by decide +kernel) rfl, tM 88 (by decide +kernel) rfl, rfl, rfl⟩
theorem vf_X9_away : VF md_X9_away := ⟨tM 912 (by decide +kernel) rfl, tM 913 (by decide +kernel) rfl⟩
theorem mf_X9_best : MF md_X9_best 3 := ⟨by decide, by decide, by decide +kernel, tM 675 (by decide +kernel) rfl, tM 88 (by decide +kernel) rfl, rfl, rfl⟩
theorem vf_X9_best : VF md_X9_best := ⟨tM 673 (by decide +kernel) rfl, tM 674 (by decide +kernel) rfl⟩
theorem mf_X9_clear : MF md_X9_clear 3 := ⟨by decide, by decide, by decide +kernel, tM 819 (by decide +kernel) rfl, tM 88 (by decide +kernel) rfl, rfl, rfl⟩
theorem vf_X9_clear : VF md_X9_clear := ⟨tM 817 (by decide +kernel) rfl, tM 818 (by decide +kernel) rfl⟩
theorem mf_X9_count : MF md_X9_count 1 := ⟨by decide, by decide, by decide +kernel, tM 1041 (by decide +kernel) rfl, tM 88 (by decide +kernel) rfl, rfl, rfl⟩
theorem vf_X9_count : VF md_X9_count := ⟨tM 1039 (by decide +kernel) rfl, tM 1040 (by decide +kernel) rfl⟩
theorem mf_X9_erase : MF md_X9_erase 0 := ⟨by decide, by decide, by decide +kernel, tM 409 (by decide +kernel) rfl, tM 88 (by decide +kernel) rfl, rfl, rfl⟩
theorem vf_X9_erase : VF md_X9_erase := ⟨tM 407 (by decide +kernel) rfl, tM 408 (by decide +kernel) rfl⟩
theorem mf_X9_escapes : MF md_X9_escapes 2 := ⟨by decide, by decide, by decide +kernel, tM 698 (by decide +kernel) rfl, tM 88 (by decide +kernel) rfl, rfl, rfl⟩
theorem vf_X9_escapes : VF md_X9_escapes := ⟨tM 696 (by decide +kernel) rfl, tM 697 (by decide +kernel) rfl⟩
theorem mf_X9_far : MF md_X9_far 2 := ⟨by decide, by decide, by decide +kernel, tM 552 (by decide +kernel) rfl, tM 88 (by decide +kernel) rfl, rfl, rfl⟩
theorem vf_X9_far : VF md_X9_far := ⟨tM 550 (by decide +kernel) rfl, tM 551 (by decide +kernel) rfl⟩
theorem mf_X9_fault : MF md_X9_fault 0 := ⟨by decide, by decide, by decide +kernel, tM 417 (by decide +kernel) rfl, tM 88 (by decide +kernel) rfl, rfl, rfl⟩
theorem vf_X9_fault : VF md_X9_fault := ⟨tM 415 (by decide +kernel) rfl, tM 416 (by decide +kernel) rfl⟩
theorem mf_X9_fewest : MF md_X9_fewest 1 := ⟨by decide, by decide, by decide +kernel, tM 694 (by decide +kernel) rfl, tM 88 (by decide +kernel) rfl, rfl, rfl⟩
theorem vf_X9_fewest : VF md_X9_fewest := ⟨tM 692 (by decide +kernel) rfl, tM 693 (by decide +kernel) rfl⟩
theorem mf_X9_flee : MF md_X9_flee 4 := ⟨by decide, by decide, by decide +kernel, tM 738 (by decide +kernel) rfl, tM 88 (by decide +kernel) rfl, rfl, rfl⟩
theorem vf_X9_flee : VF md_X9_flee := ⟨tM 736 (by decide +kernel) rfl, tM 737 (by decide +kernel) rfl⟩
theorem mf_X9_flying : MF md_X9_flying 2 := ⟨by decide, by decide, by decide +kernel, tM 870 (by decide +kernel) rfl, tM 88 (by decide +kernel) rfl, rfl, rfl⟩
theorem vf_X9_flying : VF md_X9_flying := ⟨tM 868 (by decide +kernel) rfl, tM 869 (by decide +kernel) rfl⟩
theorem mf_X9_free : MF md_X9_free 2 := ⟨by decide, by decide, by decide +kernel, tM 866 (by decide +kernel) rfl, tM 88 (by decide +kernel) rfl, rfl, rfl⟩
theorem vf_X9_free : VF md_X9_free := ⟨tM 864 (by decide +kernel) rfl, tM 865 (by decide +kernel) rfl⟩
theorem mf_X9_guards : MF md_X9_guards 2 := ⟨by decide, by decide, by decide +kernel, tM 1013 (by decide +kernel) rfl, tM 88 (by decide +kernel) rfl, rfl, rfl⟩
theorem vf_X9_guards : VF md_X9_guards := ⟨tM 1011 (by decide +kernel) rfl, tM 1012 (by decide +kernel) rfl⟩
theorem mf_X9_hunt : MF md_X9_hunt 4 := ⟨by decide, by decide, by decide +kernel, tM 712 (by decide +kernel) rfl, tM 88 (by decide +kernel) rfl, rfl, rfl⟩
theorem vf_X9_hunt : VF md_X9_hunt := ⟨tM 710 (by decide +kernel) rfl, tM 711 (by decide +kernel) rfl⟩
theorem mf_X9_laid : MF md_X9_laid 0 := ⟨by decide, by decide, by decide +kernel, tM 512 (by decide +kernel) rfl, tM 88 (by decide +kernel) rfl, rfl, rfl⟩
theorem vf_X9_laid : VF md_X9_laid := ⟨tM 510 (by decide +kernel) rfl, tM 511 (by decide +kernel) rfl⟩
theorem mf_X9_least : MF md_X9_least 1 := ⟨by decide, by decide, by decide +kernel, tM 938 (by decide +kernel) rfl, tM 88 (by decide +kernel) rfl, rfl, rfl⟩
theorem vf_X9_least : VF md_X9_least := ⟨tM 936 (by decide +kernel) rfl, tM 937 (by decide +kernel) rfl⟩
theorem mf_X9_now : MF md_X9_now 1 := ⟨by decide, by decide, by decide +kernel, tM 797 (by decide +kernel) rfl, tM 88 (by decide +kernel) rfl, rfl, rfl⟩
theorem vf_X9_now : VF md_X9_now := ⟨tM 795 (by decide +kernel) rfl, tM 796 (by decide +kernel) rfl⟩
theorem mf_X9_play : MF md_X9_play 4 := ⟨by decide, by decide, by decide +kernel, tM 746 (by decide +kernel) rfl, tM 88 (by decide +kernel) rfl, rfl, rfl⟩
theorem vf_X9_play : VF md_X9_play := ⟨tM 744 (by decide +kernel) rfl, tM 745 (by decide +kernel) rfl⟩
theorem mf_X9_road : MF md_X9_road 4 := ⟨by decide, by decide, by decide +kernel, tM 534 (by decide +kernel) rfl, tM 88 (by decide +kernel) rfl, rfl, rfl⟩
theorem vf_X9_road : VF md_X9_road := ⟨tM 532 (by decide +kernel) rfl, tM 533 (by decide +kernel) rfl⟩
theorem mf_X9_rounds : MF md_X9_rounds 4 := ⟨by decide, by decide, by decide +kernel, tM 565 (by decide +kernel) rfl, tM 88 (by decide +kernel) rfl, rfl, rfl⟩
theorem vf_X9_rounds : VF md_X9_rounds := ⟨tM 563 (by decide +kernel) rfl, tM 564 (by decide +kernel) rfl⟩
theorem mf_X9_safe : MF md_X9_safe 2 := ⟨by decide, by decide, by decide +kernel, tM 952 (by decide +kernel) rfl, tM 88 (by decide +kernel) rfl, rfl, rfl⟩
theorem vf_X9_safe : VF md_X9_safe := ⟨tM 950 (by decide +kernel) rfl, tM 951 (by decide +kernel) rfl⟩
theorem mf_X9_spread : MF md_X9_spread 3 := ⟨by decide, by decide, by decide +kernel, tM 805 (by decide +kernel) rfl, tM 88 (by decide +kernel) rfl, rfl, rfl⟩
theorem vf_X9_spread : VF md_X9_spread := ⟨tM 803 (by decide +kernel) rfl, tM 804 (by decide +kernel) rfl⟩
theorem mf_X9_steps : MF md_X9_steps 1 := ⟨by decide, by decide, by decide +kernel, tM 548 (by decide +kernel) rfl, tM 88 (by decide +kernel) rfl, rfl, rfl⟩
theorem vf_X9_steps : VF md_X9_steps := ⟨tM 546 (by decide +kernel) rfl, tM 547 (by decide +kernel) rfl⟩
theorem mf_X9_turn : MF md_X9_turn 2 := ⟨by decide, by decide, by decide +kernel, tM 755 (by decide +kernel) rfl, tM 88 (by decide +kernel) rfl, rfl, rfl⟩
theorem vf_X9_turn : VF md_X9_turn := ⟨tM 753 (by decide +kernel) rfl, tM 754 (by decide +kernel) rfl⟩
theorem mf_X9_worth : MF md_X9_worth 3 := ⟨by decide, by decide, by decide +kernel, tM 662 (by decide +kernel) rfl, tM 88 (by decide +kernel) rfl, rfl, rfl⟩
theorem vf_X9_worth : VF md_X9_worth := ⟨tM 660 (by decide +kernel) rfl, tM 661 (by decide +kernel) rfl⟩
theorem mf_X9_write : MF md_X9_write 2 := ⟨by decide, by decide, by decide +kernel, tM 396 (by decide +kernel) rfl, tM 88 (by decide +kernel) rfl, rfl, rfl⟩
theorem vf_X9_write : VF md_X9_write := ⟨tM 394 (by decide +kernel) rfl, tM 395 (by decide +kernel) rfl⟩
theorem ml_L_101 : Cond.methodLink "RunnerNetLaw" 101 yX10_free ∈ tT := tM 1402 (by decide +kernel) rfl
theorem ml_L_102 : Cond.methodLink "RunnerNetLaw" 102 yX9_flying ∈ tT := tM 867 (by decide +kernel) rfl
theorem ml_L_106 : Cond.methodLink "RunnerNetLaw" 106 yX10_flying ∈ tT := tM 1406 (by decide +kernel) rfl
theorem ml_L_107 : Cond.methodLink "RunnerNetLaw" 107 yX9_away ∈ tT := tM 911 (by decide +kernel) rfl
theorem ml_L_110 : Cond.methodLink "RunnerNetLaw" 110 yX10_away ∈ tT := tM 1433 (by decide +kernel) rfl
theorem ml_L_111 : Cond.methodLink "RunnerNetLaw" 111 yX9_least ∈ tT := tM 935 (by decide +kernel) rfl
theorem ml_L_114 : Cond.methodLink "RunnerNetLaw" 114 yX10_least ∈ tT := tM 1445 (by decide +kernel) rfl
theorem ml_L_115 : Cond.methodLink "RunnerNetLaw" 115 yX9_safe ∈ tT := tM 949 (by decide +kernel) rfl
theorem ml_L_118 : Cond.methodLink "RunnerNetLaw" 118 yX10_safe ∈ tT := tM 1453 (by decide +kernel) rfl
theorem ml_L_119 : Cond.methodLink "RunnerNetLaw" 119 yX9_guards ∈ tT := tM 1010 (by decide +kernel) rfl
theorem ml_L_12 : Cond.methodLink "RunnerNetLaw" 12 yX10_init ∈ tT := tM 1049 (by decide +kernel) rfl
theorem ml_L_122 : Cond.methodLink "RunnerNetLaw" 122 yX10_guards ∈ tT := tM 1481 (by decide +kernel) rfl
theorem ml_L_123 : Cond.methodLink "RunnerNetLaw" 123 yX9_answer ∈ tT := tM 1024 (by decide +kernel) rfl
theorem ml_L_126 : Cond.methodLink "RunnerNetLaw" 126 yX10_answer ∈ tT := tM 1485 (by decide +kernel) rfl
theorem ml_L_127 : Cond.methodLink "RunnerNetLaw" 127 yX9_count ∈ tT := tM 1038 (by decide +kernel) rfl
theorem ml_L_130 : Cond.methodLink "RunnerNetLaw" 130 yX10_count ∈ tT := tM 1489 (by decide +kernel) rfl
theorem ml_L_15 : Cond.methodLink "RunnerNetLaw" 15 yX9_write ∈ tT := tM 393 (by decide +kernel) rfl
theorem ml_L_19 : Cond.methodLink "RunnerNetLaw" 19 yX10_write ∈ tT := tM 1180 (by decide +kernel) rfl
theorem ml_L_20 : Cond.methodLink "RunnerNetLaw" 20 yX9_erase ∈ tT := tM 406 (by decide +kernel) rfl
theorem ml_L_24 : Cond.methodLink "RunnerNetLaw" 24 yX10_erase ∈ tT := tM 1188 (by decide +kernel) rfl
theorem ml_L_25 : Cond.methodLink "RunnerNetLaw" 25 yX9_fault ∈ tT := tM 414 (by decide +kernel) rfl
theorem ml_L_28 : Cond.methodLink "RunnerNetLaw" 28 yX10_fault ∈ tT := tM 1192 (by decide +kernel) rfl
theorem ml_L_29 : Cond.methodLink "RunnerNetLaw" 29 yX9_laid ∈ tT := tM 509 (by decide +kernel) rfl
theorem ml_L_32 : Cond.methodLink "RunnerNetLaw" 32 yX10_laid ∈ tT := tM 1225 (by decide +kernel) rfl
theorem ml_L_33 : Cond.methodLink "RunnerNetLaw" 33 yX9_road ∈ tT := tM 531 (by decide +kernel) rfl
theorem ml_L_37 : Cond.methodLink "RunnerNetLaw" 37 yX10_road ∈ tT := tM 1233 (by decide +kernel) rfl
theorem ml_L_38 : Cond.methodLink "RunnerNetLaw" 38 yX9_steps ∈ tT := tM 545 (by decide +kernel) rfl
theorem ml_L_42 : Cond.methodLink "RunnerNetLaw" 42 yX10_steps ∈ tT := tM 1241 (by decide +kernel) rfl
theorem ml_L_43 : Cond.methodLink "RunnerNetLaw" 43 yX9_far ∈ tT := tM 549 (by decide +kernel) rfl
theorem ml_L_47 : Cond.methodLink "RunnerNetLaw" 47 yX10_far ∈ tT := tM 1249 (by decide +kernel) rfl
theorem ml_L_48 : Cond.methodLink "RunnerNetLaw" 48 yX9_rounds ∈ tT := tM 562 (by decide +kernel) rfl
theorem ml_L_52 : Cond.methodLink "RunnerNetLaw" 52 yX10_rounds ∈ tT := tM 1257 (by decide +kernel) rfl
theorem ml_L_53 : Cond.methodLink "RunnerNetLaw" 53 yX9_worth ∈ tT := tM 659 (by decide +kernel) rfl
theorem ml_L_57 : Cond.methodLink "RunnerNetLaw" 57 yX10_worth ∈ tT := tM 1318 (by decide +kernel) rfl
theorem ml_L_58 : Cond.methodLink "RunnerNetLaw" 58 yX9_best ∈ tT := tM 672 (by decide +kernel) rfl
theorem ml_L_61 : Cond.methodLink "RunnerNetLaw" 61 yX10_best ∈ tT := tM 1326 (by decide +kernel) rfl
theorem ml_L_62 : Cond.methodLink "RunnerNetLaw" 62 yX9_fewest ∈ tT := tM 691 (by decide +kernel) rfl
theorem ml_L_65 : Cond.methodLink "RunnerNetLaw" 65 yX10_fewest ∈ tT := tM 1334 (by decide +kernel) rfl
theorem ml_L_66 : Cond.methodLink "RunnerNetLaw" 66 yX9_escapes ∈ tT := tM 695 (by decide +kernel) rfl
theorem ml_L_69 : Cond.methodLink "RunnerNetLaw" 69 yX10_escapes ∈ tT := tM 1338 (by decide +kernel) rfl
theorem ml_L_70 : Cond.methodLink "RunnerNetLaw" 70 yX9_hunt ∈ tT := tM 709 (by decide +kernel) rfl
theorem ml_L_73 : Cond.methodLink "RunnerNetLaw" 73 yX10_hunt ∈ tT := tM 1342 (by decide +kernel) rfl
theorem ml_L_74 : Cond.methodLink "RunnerNetLaw" 74 yX9_flee ∈ tT := tM 735 (by decide +kernel) rfl
theorem ml_L_77 : Cond.methodLink "RunnerNetLaw" 77 yX10_flee ∈ tT := tM 1350 (by decide +kernel) rfl
theorem ml_L_78 : Cond.methodLink "RunnerNetLaw" 78 yX9_play ∈ tT := tM 743 (by decide +kernel) rfl
theorem ml_L_81 : Cond.methodLink "RunnerNetLaw" 81 yX10_play ∈ tT := tM 1358 (by decide +kernel) rfl
theorem ml_L_82 : Cond.methodLink "RunnerNetLaw" 82 yX9_turn ∈ tT := tM 752 (by decide +kernel) rfl
theorem ml_L_85 : Cond.methodLink "RunnerNetLaw" 85 yX10_turn ∈ tT := tM 1362 (by decide +kernel) rfl
theorem ml_L_86 : Cond.methodLink "RunnerNetLaw" 86 yX9_now ∈ tT := tM 794 (by decide +kernel) rfl
theorem ml_L_89 : Cond.methodLink "RunnerNetLaw" 89 yX10_now ∈ tT := tM 1370 (by decide +kernel) rfl
theorem ml_L_9 : Cond.methodLink "RunnerNetLaw" 9 yX9_init ∈ tT := tM 110 (by decide +kernel) rfl
theorem ml_L_90 : Cond.methodLink "RunnerNetLaw" 90 yX9_spread ∈ tT := tM 802 (by decide +kernel) rfl
theorem ml_L_93 : Cond.methodLink "RunnerNetLaw" 93 yX10_spread ∈ tT := tM 1374 (by decide +kernel) rfl
theorem ml_L_94 : Cond.methodLink "RunnerNetLaw" 94 yX9_clear ∈ tT := tM 816 (by decide +kernel) rfl
theorem ml_L_97 : Cond.methodLink "RunnerNetLaw" 97 yX10_clear ∈ tT := tM 1386 (by decide +kernel) rfl
theorem ml_L_98 : Cond.methodLink "RunnerNetLaw" 98 yX9_free ∈ tT := tM 863 (by decide +kernel) rfl
section TSW
variable {ρ : Type} {Q : ρ → State → Prop} {Γ : Gm} {Ξ : Gx} {E : Ev} {μ : Md} {σ : St} {pc : Nat} {lv : List (Nat × Value)} {st : List Value}
theorem s_tsw27 {x : Int32} {dflt o0 o1 o2 o3 o4 o5 o6 o7 o8 o9 o10 o11 o12 o13 o14 o15 o16 o17 o18 o19 o20 o21 o22 o23 o24 o25 o26 : Int} {len tD t0 t1 t2 t3 t4 t5 t6 t7 t8 t9 t10 t11 t12 t13 t14 t15 t16 t17 t18 t19 t20 t21 t22 t23 t24 t25 t26 : Nat} {oD O0 O1 O2 O3 O4 O5 O6 O7 O8 O9 O10 O11 O12 O13 O14 O15 O16 O17 O18 O19 O20 O21 O22 O23 O24 O25 O26 : Option ρ} (hd : decode μ.2.1 pc = .ok (.tableswitch dflt 0 26 #[o0, o1, o2, o3, o4, o5, o6, o7, o8, o9, o10, o11, o12, o13, o14, o15, o16, o17, o18, o19, o20, o21, o22, o23, o24, o25, o26], len)) (hD : (pc : Int) + dflt = (tD : Int)) (h0 : (pc : Int) + o0 = (t0 : Int)) (h1 : (pc : Int) + o1 = (t1 : Int)) (h2 : (pc : Int) + o2 = (t2 : Int)) (h3 : (pc : Int) + o3 = (t3 : Int)) (h4 : (pc : Int) + o4 = (t4 : Int)) (h5 : (pc : Int) + o5 = (t5 : Int)) (h6 : (pc : Int) + o6 = (t6 : Int)) (h7 : (pc : Int) + o7 = (t7 : Int)) (h8 : (pc : Int) + o8 = (t8 : Int)) (h9 : (pc : Int) + o9 = (t9 : Int)) (h10 : (pc : Int) + o10 = (t10 : Int)) (h11 : (pc : Int) + o11 = (t11 : Int)) (h12 : (pc : Int) + o12 = (t12 : Int)) (h13 : (pc : Int) + o13 = (t13 : Int)) (h14 : (pc : Int) + o14 = (t14 : Int)) (h15 : (pc : Int) + o15 = (t15 : Int)) (h16 : (pc : Int) + o16 = (t16 : Int)) (h17 : (pc : Int) + o17 = (t17 : Int)) (h18 : (pc : Int) + o18 = (t18 : Int)) (h19 : (pc : Int) + o19 = (t19 : Int)) (h20 : (pc : Int) + o20 = (t20 : Int)) (h21 : (pc : Int) + o21 = (t21 : Int)) (h22 : (pc : Int) + o22 = (t22 : Int)) (h23 : (pc : Int) + o23 = (t23 : Int)) (h24 : (pc : Int) + o24 = (t24 : Int)) (h25 : (pc : Int) + o25 = (t25 : Int)) (h26 : (pc : Int) + o26 = (t26 : Int)) (kD : Sim Q Γ Ξ E μ σ tD lv st oD) (k0 : Sim Q Γ Ξ E μ σ t0 lv st O0) (k1 : Sim Q Γ Ξ E μ σ t1 lv st O1) (k2 : Sim Q Γ Ξ E μ σ t2 lv st O2) (k3 : Sim Q Γ Ξ E μ σ t3 lv st O3) (k4 : Sim Q Γ Ξ E μ σ t4 lv st O4) (k5 : Sim Q Γ Ξ E μ σ t5 lv st O5) (k6 : Sim Q Γ Ξ E μ σ t6 lv st O6) (k7 : Sim Q Γ Ξ E μ σ t7 lv st O7) (k8 : Sim Q Γ Ξ E μ σ t8 lv st O8) (k9 : Sim Q Γ Ξ E μ σ t9 lv st O9) (k10 : Sim Q Γ Ξ E μ σ t10 lv st O10) (k11 : Sim Q Γ Ξ E μ σ t11 lv st O11) (k12 : Sim Q Γ Ξ E μ σ t12 lv st O12) (k13 : Sim Q Γ Ξ E μ σ t13 lv st O13) (k14 : Sim Q Γ Ξ E μ σ t14 lv st O14) (k15 : Sim Q Γ Ξ E μ σ t15 lv st O15) (k16 : Sim Q Γ Ξ E μ σ t16 lv st O16) (k17 : Sim Q Γ Ξ E μ σ t17 lv st O17) (k18 : Sim Q Γ Ξ E μ σ t18 lv st O18) (k19 : Sim Q Γ Ξ E μ σ t19 lv st O19) (k20 : Sim Q Γ Ξ E μ σ t20 lv st O20) (k21 : Sim Q Γ Ξ E μ σ t21 lv st O21) (k22 : Sim Q Γ Ξ E μ σ t22 lv st O22) (k23 : Sim Q Γ Ξ E μ σ t23 lv st O23) (k24 : Sim Q Γ Ξ E μ σ t24 lv st O24) (k25 : Sim Q Γ Ξ E μ σ t25 lv st O25) (k26 : Sim Q Γ Ξ E μ σ t26 lv st O26) : Sim Q Γ Ξ E μ σ pc lv (.int x :: st) (if x = 0 then O0 else (if x = 1 then O1 else (if x = 2 then O2 else (if x = 3 then O3 else (if x = 4 then O4 else (if x = 5 then O5 else (if x = 6 then O6 else (if x = 7 then O7 else (if x = 8 then O8 else (if x = 9 then O9 else (if x = 10 then O10 else (if x = 11 then O11 else (if x = 12 then O12 else (if x = 13 then O13 else (if x = 14 then O14 else (if x = 15 then O15 else (if x = 16 then O16 else (if x = 17 then O17 else (if x = 18 then O18 else (if x = 19 then O19 else (if x = 20 then O20 else (if x = 21 then O21 else (if x = 22 then O22 else (if x = 23 then O23 else (if x = 24 then O24 else (if x = 25 then O25 else (if x = 26 then O26 else oD))))))))))))))))))))))))))) := by
  intro Cc r ho ls H locs hl hP hS
  obtain ⟨hx, hb, hml, hr, hown', hts, hlocks, hK, ⟨hE, hA, hcc, hcs⟩, hKs⟩ := id Cc
  by_cases c0 : x = 0
  · rw [if_pos c0] at ho
    subst c0
    exact lv_tableIn hx hb hd (by decide) (by decide) (off := o0) rfl h0 (k0 Cc r ho ls H locs hl hP hS)
  rw [if_neg c0] at ho
  by_cases c1 : x = 1
  · rw [if_pos c1] at ho
    subst c1
    exact lv_tableIn hx hb hd (by decide) (by decide) (off := o1) rfl h1 (k1 Cc r ho ls H locs hl hP hS)
  rw [if_neg c1] at ho
  by_cases c2 : x = 2
  · rw [if_pos c2] at ho
    subst c2
    exact lv_tableIn hx hb hd (by decide) (by decide) (off := o2) rfl h2 (k2 Cc r ho ls H locs hl hP hS)
  rw [if_neg c2] at ho
  by_cases c3 : x = 3
  · rw [if_pos c3] at ho
    subst c3
    exact lv_tableIn hx hb hd (by decide) (by decide) (off := o3) rfl h3 (k3 Cc r ho ls H locs hl hP hS)
  rw [if_neg c3] at ho
  by_cases c4 : x = 4
  · rw [if_pos c4] at ho
    subst c4
    exact lv_tableIn hx hb hd (by decide) (by decide) (off := o4) rfl h4 (k4 Cc r ho ls H locs hl hP hS)
  rw [if_neg c4] at ho
  by_cases c5 : x = 5
  · rw [if_pos c5] at ho
    subst c5
    exact lv_tableIn hx hb hd (by decide) (by decide) (off := o5) rfl h5 (k5 Cc r ho ls H locs hl hP hS)
  rw [if_neg c5] at ho
  by_cases c6 : x = 6
  · rw [if_pos c6] at ho
    subst c6
    exact lv_tableIn hx hb hd (by decide) (by decide) (off := o6) rfl h6 (k6 Cc r ho ls H locs hl hP hS)
  rw [if_neg c6] at ho
  by_cases c7 : x = 7
  · rw [if_pos c7] at ho
    subst c7
    exact lv_tableIn hx hb hd (by decide) (by decide) (off := o7) rfl h7 (k7 Cc r ho ls H locs hl hP hS)
  rw [if_neg c7] at ho
  by_cases c8 : x = 8
  · rw [if_pos c8] at ho
    subst c8
    exact lv_tableIn hx hb hd (by decide) (by decide) (off := o8) rfl h8 (k8 Cc r ho ls H locs hl hP hS)
  rw [if_neg c8] at ho
  by_cases c9 : x = 9
  · rw [if_pos c9] at ho
    subst c9
    exact lv_tableIn hx hb hd (by decide) (by decide) (off := o9) rfl h9 (k9 Cc r ho ls H locs hl hP hS)
  rw [if_neg c9] at ho
  by_cases c10 : x = 10
  · rw [if_pos c10] at ho
    subst c10
    exact lv_tableIn hx hb hd (by decide) (by decide) (off := o10) rfl h10 (k10 Cc r ho ls H locs hl hP hS)
  rw [if_neg c10] at ho
  by_cases c11 : x = 11
  · rw [if_pos c11] at ho
    subst c11
    exact lv_tableIn hx hb hd (by decide) (by decide) (off := o11) rfl h11 (k11 Cc r ho ls H locs hl hP hS)
  rw [if_neg c11] at ho
  by_cases c12 : x = 12
  · rw [if_pos c12] at ho
    subst c12
    exact lv_tableIn hx hb hd (by decide) (by decide) (off := o12) rfl h12 (k12 Cc r ho ls H locs hl hP hS)
  rw [if_neg c12] at ho
  by_cases c13 : x = 13
  · rw [if_pos c13] at ho
    subst c13
    exact lv_tableIn hx hb hd (by decide) (by decide) (off := o13) rfl h13 (k13 Cc r ho ls H locs hl hP hS)
  rw [if_neg c13] at ho
  by_cases c14 : x = 14
  · rw [if_pos c14] at ho
    subst c14
    exact lv_tableIn hx hb hd (by decide) (by decide) (off := o14) rfl h14 (k14 Cc r ho ls H locs hl hP hS)
  rw [if_neg c14] at ho
  by_cases c15 : x = 15
  · rw [if_pos c15] at ho
    subst c15
    exact lv_tableIn hx hb hd (by decide) (by decide) (off := o15) rfl h15 (k15 Cc r ho ls H locs hl hP hS)
  rw [if_neg c15] at ho
  by_cases c16 : x = 16
  · rw [if_pos c16] at ho
    subst c16
    exact lv_tableIn hx hb hd (by decide) (by decide) (off := o16) rfl h16 (k16 Cc r ho ls H locs hl hP hS)
  rw [if_neg c16] at ho
  by_cases c17 : x = 17
  · rw [if_pos c17] at ho
    subst c17
    exact lv_tableIn hx hb hd (by decide) (by decide) (off := o17) rfl h17 (k17 Cc r ho ls H locs hl hP hS)
  rw [if_neg c17] at ho
  by_cases c18 : x = 18
  · rw [if_pos c18] at ho
    subst c18
    exact lv_tableIn hx hb hd (by decide) (by decide) (off := o18) rfl h18 (k18 Cc r ho ls H locs hl hP hS)
  rw [if_neg c18] at ho
  by_cases c19 : x = 19
  · rw [if_pos c19] at ho
    subst c19
    exact lv_tableIn hx hb hd (by decide) (by decide) (off := o19) rfl h19 (k19 Cc r ho ls H locs hl hP hS)
  rw [if_neg c19] at ho
  by_cases c20 : x = 20
  · rw [if_pos c20] at ho
    subst c20
    exact lv_tableIn hx hb hd (by decide) (by decide) (off := o20) rfl h20 (k20 Cc r ho ls H locs hl hP hS)
  rw [if_neg c20] at ho
  by_cases c21 : x = 21
  · rw [if_pos c21] at ho
    subst c21
    exact lv_tableIn hx hb hd (by decide) (by decide) (off := o21) rfl h21 (k21 Cc r ho ls H locs hl hP hS)
  rw [if_neg c21] at ho
  by_cases c22 : x = 22
  · rw [if_pos c22] at ho
    subst c22
    exact lv_tableIn hx hb hd (by decide) (by decide) (off := o22) rfl h22 (k22 Cc r ho ls H locs hl hP hS)
  rw [if_neg c22] at ho
  by_cases c23 : x = 23
  · rw [if_pos c23] at ho
    subst c23
    exact lv_tableIn hx hb hd (by decide) (by decide) (off := o23) rfl h23 (k23 Cc r ho ls H locs hl hP hS)
  rw [if_neg c23] at ho
  by_cases c24 : x = 24
  · rw [if_pos c24] at ho
    subst c24
    exact lv_tableIn hx hb hd (by decide) (by decide) (off := o24) rfl h24 (k24 Cc r ho ls H locs hl hP hS)
  rw [if_neg c24] at ho
  by_cases c25 : x = 25
  · rw [if_pos c25] at ho
    subst c25
    exact lv_tableIn hx hb hd (by decide) (by decide) (off := o25) rfl h25 (k25 Cc r ho ls H locs hl hP hS)
  rw [if_neg c25] at ho
  by_cases c26 : x = 26
  · rw [if_pos c26] at ho
    subst c26
    exact lv_tableIn hx hb hd (by decide) (by decide) (off := o26) rfl h26 (k26 Cc r ho ls H locs hl hP hS)
  rw [if_neg c26] at ho
  refine lv_tableOut hx hb hd ?_ hD (kD Cc r ho ls H locs hl hP hS)
  have e0 := lv_neT (a := 0) c0 (by decide)
  have e1 := lv_neT (a := 1) c1 (by decide)
  have e2 := lv_neT (a := 2) c2 (by decide)
  have e3 := lv_neT (a := 3) c3 (by decide)
  have e4 := lv_neT (a := 4) c4 (by decide)
  have e5 := lv_neT (a := 5) c5 (by decide)
  have e6 := lv_neT (a := 6) c6 (by decide)
  have e7 := lv_neT (a := 7) c7 (by decide)
  have e8 := lv_neT (a := 8) c8 (by decide)
  have e9 := lv_neT (a := 9) c9 (by decide)
  have e10 := lv_neT (a := 10) c10 (by decide)
  have e11 := lv_neT (a := 11) c11 (by decide)
  have e12 := lv_neT (a := 12) c12 (by decide)
  have e13 := lv_neT (a := 13) c13 (by decide)
  have e14 := lv_neT (a := 14) c14 (by decide)
  have e15 := lv_neT (a := 15) c15 (by decide)
  have e16 := lv_neT (a := 16) c16 (by decide)
  have e17 := lv_neT (a := 17) c17 (by decide)
  have e18 := lv_neT (a := 18) c18 (by decide)
  have e19 := lv_neT (a := 19) c19 (by decide)
  have e20 := lv_neT (a := 20) c20 (by decide)
  have e21 := lv_neT (a := 21) c21 (by decide)
  have e22 := lv_neT (a := 22) c22 (by decide)
  have e23 := lv_neT (a := 23) c23 (by decide)
  have e24 := lv_neT (a := 24) c24 (by decide)
  have e25 := lv_neT (a := 25) c25 (by decide)
  have e26 := lv_neT (a := 26) c26 (by decide)
  omega
end TSW
def newsA : List Nat := [0, 1, 2, 3, 4, 5, 6, 7, 8, 9, 10, 11, 12, 32, 33, 40, 41, 42, 43, 44, 45, 46, 47, 48, 49, 50, 51, 52, 53, 54, 34, 35, 55, 56, 57, 58, 59, 60, 61, 62, 63, 64, 65, 66, 67, 68, 69, 36, 37, 70, 71, 72, 73, 74, 75, 76, 77, 78, 79, 80, 81, 82, 83, 84, 13, 14, 15, 16, 17, 18, 19, 20, 21, 22, 23, 24, 25, 26, 27, 28, 29, 30, 31, 100, 101, 102, 103, 104, 105, 106, 107, 108, 109, 110, 111, 112, 113, 114, 115, 116, 117, 118, 119, 120, 121, 122]
def rrsA : List (Nat × Nat) := [(1, 2), (1, 3), (1, 4), (1, 5), (0, 0), (6, 0), (6, 6), (6, 7), (6, 8), (0, 1), (0, 2), (0, 3), (32, 0), (32, 3), (11, 0), (40, 0), (40, 1), (40, 3), (40, 4), (40, 5), (40, 6), (12, 0), (45, 0), (45, 1), (45, 3), (45, 4), (45, 5), (45, 6), (12, 1), (50, 0), (50, 1), (50, 3), (50, 4), (50, 5), (50, 6), (12, 2), (34, 0), (34, 3), (11, 1), (55, 0), (55, 1), (55, 3), (55, 4), (55, 5), (55, 6), (12, 3), (60, 0), (60, 1), (60, 3), (60, 4), (60, 5), (60, 6), (12, 4), (65, 0), (65, 1), (65, 3), (65, 4), (65, 5), (65, 6), (12, 5), (36, 0), (36, 3), (11, 2), (70, 0), (70, 1), (70, 3), (70, 4), (70, 5), (70, 6), (12, 6), (75, 0), (75, 1), (75, 3), (75, 4), (75, 5), (75, 6), (12, 7), (80, 0), (80, 1), (80, 3), (80, 4), (80, 5), (80, 6), (12, 8), (0, 4), (14, 1), (14, 2), (14, 3), (14, 0), (14, 4), (0, 5), (18, 2), (18, 3), (18, 0), (0, 6), (21, 2), (21, 3), (21, 0), (0, 7), (24, 0), (0, 8), (26, 2), (26, 3), (26, 0), (25, 0), (29, 2), (29, 3), (29, 0), (25, 1), (0, 9), (100, 1), (100, 3), (100, 12), (100, 13), (100, 14), (100, 15), (100, 16), (100, 17), (100, 18), (100, 25), (100, 26), (100, 28), (100, 29), (100, 30), (100, 31), (100, 32), (100, 33), (100, 34), (100, 37), (100, 38), (100, 39), (100, 40)]
theorem full_a : ∀ a, a ∈ newsA → (∀ k, k < 41 → ∀ t, ft a k = some t → 2 ≤ t → (a, k) ∈ rrsA) ∧ (14 ≤ kd a → ∀ j, j < ln a → (a, j) ∈ rrsA) := by
  have h1 : newsA.all (fun a => (List.range 41).all (fun k => match ft a k with | some t => decide (t < 2) || decide ((a, k) ∈ rrsA) | none => true)) = true := by decide +kernel
  have h2 : newsA.all (fun a => decide (kd a < 14) || (List.range (ln a)).all (fun j => decide ((a, j) ∈ rrsA))) = true := by decide +kernel
  intro a ha
  constructor
  · intro k hk t ht h2t
    have h3 := List.all_eq_true.mp (List.all_eq_true.mp h1 a ha) k (List.mem_range.mpr hk)
    simp only [ht, Bool.or_eq_true, decide_eq_true_eq] at h3
    rcases h3 with h | h
    · omega
    · exact h
  · intro hk j hj
    have h3 := List.all_eq_true.mp h2 a ha
    rw [Bool.or_eq_true] at h3
    rcases h3 with h | h
    · have := of_decide_eq_true h; omega
    · exact of_decide_eq_true (List.all_eq_true.mp h j (List.mem_range.mpr hj))
theorem ft_lt {a k t : Nat} (h : ft a k = some t) : k < 41 := by
  have h1 : ∀ l ∈ FTs, l.length ≤ 41 := by decide
  unfold ft at h
  have hk := (List.getElem?_eq_some_iff.mp h).1
  have hmem : (FTs.getD (kd a) []) ∈ FTs ∨ (FTs.getD (kd a) []) = [] := by
    rw [List.getD_eq_getElem?_getD]
    cases hq : FTs[kd a]? with
    | none => right; rfl
    | some l => left; exact List.mem_of_getElem? hq
  rcases hmem with hm | hm
  · have := h1 _ hm; omega
  · rw [hm] at hk; simp at hk
theorem full_ok {E E1 : Ev} (hX : Ext E E1 [0, 1, 2, 3, 4, 5, 6, 7, 8, 9, 10, 11, 12, 32, 33, 40, 41, 42, 43, 44, 45, 46, 47, 48, 49, 50, 51, 52, 53, 54, 34, 35, 55, 56, 57, 58, 59, 60, 61, 62, 63, 64, 65, 66, 67, 68, 69, 36, 37, 70, 71, 72, 73, 74, 75, 76, 77, 78, 79, 80, 81, 82, 83, 84, 13, 14, 15, 16, 17, 18, 19, 20, 21, 22, 23, 24, 25, 26, 27, 28, 29, 30, 31, 100, 101, 102, 103, 104, 105, 106, 107, 108, 109, 110, 111, 112, 113, 114, 115, 116, 117, 118, 119, 120, 121, 122] [(1, 2), (1, 3), (1, 4), (1, 5), (0, 0), (6, 0), (6, 6), (6, 7), (6, 8), (0, 1), (0, 2), (0, 3), (32, 0), (32, 3), (11, 0), (40, 0), (40, 1), (40, 3), (40, 4), (40, 5), (40, 6), (12, 0), (45, 0), (45, 1), (45, 3), (45, 4), (45, 5), (45, 6), (12, 1), (50, 0), (50, 1), (50, 3), (50, 4), (50, 5), (50, 6), (12, 2), (34, 0), (34, 3), (11, 1), (55, 0), (55, 1), (55, 3), (55, 4), (55, 5), (55, 6), (12, 3), (60, 0), (60, 1), (60, 3), (60, 4), (60, 5), (60, 6), (12, 4), (65, 0), (65, 1), (65, 3), (65, 4), (65, 5), (65, 6), (12, 5), (36, 0), (36, 3), (11, 2), (70, 0), (70, 1), (70, 3), (70, 4), (70, 5), (70, 6), (12, 6), (75, 0), (75, 1), (75, 3), (75, 4), (75, 5), (75, 6), (12, 7), (80, 0), (80, 1), (80, 3), (80, 4), (80, 5), (80, 6), (12, 8), (0, 4), (14, 1), (14, 2), (14, 3), (14, 0), (14, 4), (0, 5), (18, 2), (18, 3), (18, 0), (0, 6), (21, 2), (21, 3), (21, 0), (0, 7), (24, 0), (0, 8), (26, 2), (26, 3), (26, 0), (25, 0), (29, 2), (29, 3), (29, 0), (25, 1), (0, 9), (100, 1), (100, 3), (100, 12), (100, 13), (100, 14), (100, 15), (100, 16), (100, 17), (100, 18), (100, 25), (100, 26), (100, 28), (100, 29), (100, 30), (100, 31), (100, 32), (100, 33), (100, 34), (100, 37), (100, 38), (100, 39), (100, 40)]) (hE0 : E.2.2.2.1 = []) : ∀ a, a ∈ E1.2.2.2.1 → (∀ k t, ft a k = some t → 2 ≤ t → E1.2.2.2.2 a k = true) ∧ (14 ≤ kd a → ∀ j, j < ln a → E1.2.2.2.2 a j = true) := by
  intro a ha
  rw [hX.2.2.2.1, hE0, List.nil_append] at ha
  obtain ⟨h1, h2⟩ := full_a a ha
  exact ⟨fun k t ht h2t => xrN hX (h1 k (ft_lt ht) t ht h2t), fun hk j hj => xrN hX (h2 hk j hj)⟩
theorem full_F {E E1 : Ev} (hX : Ext E E1 [0, 1, 2, 3, 4, 5, 6, 7, 8, 9, 10, 11, 12, 32, 33, 40, 41, 42, 43, 44, 45, 46, 47, 48, 49, 50, 51, 52, 53, 54, 34, 35, 55, 56, 57, 58, 59, 60, 61, 62, 63, 64, 65, 66, 67, 68, 69, 36, 37, 70, 71, 72, 73, 74, 75, 76, 77, 78, 79, 80, 81, 82, 83, 84, 13, 14, 15, 16, 17, 18, 19, 20, 21, 22, 23, 24, 25, 26, 27, 28, 29, 30, 31, 100, 101, 102, 103, 104, 105, 106, 107, 108, 109, 110, 111, 112, 113, 114, 115, 116, 117, 118, 119, 120, 121, 122] [(1, 2), (1, 3), (1, 4), (1, 5), (0, 0), (6, 0), (6, 6), (6, 7), (6, 8), (0, 1), (0, 2), (0, 3), (32, 0), (32, 3), (11, 0), (40, 0), (40, 1), (40, 3), (40, 4), (40, 5), (40, 6), (12, 0), (45, 0), (45, 1), (45, 3), (45, 4), (45, 5), (45, 6), (12, 1), (50, 0), (50, 1), (50, 3), (50, 4), (50, 5), (50, 6), (12, 2), (34, 0), (34, 3), (11, 1), (55, 0), (55, 1), (55, 3), (55, 4), (55, 5), (55, 6), (12, 3), (60, 0), (60, 1), (60, 3), (60, 4), (60, 5), (60, 6), (12, 4), (65, 0), (65, 1), (65, 3), (65, 4), (65, 5), (65, 6), (12, 5), (36, 0), (36, 3), (11, 2), (70, 0), (70, 1), (70, 3), (70, 4), (70, 5), (70, 6), (12, 6), (75, 0), (75, 1), (75, 3), (75, 4), (75, 5), (75, 6), (12, 7), (80, 0), (80, 1), (80, 3), (80, 4), (80, 5), (80, 6), (12, 8), (0, 4), (14, 1), (14, 2), (14, 3), (14, 0), (14, 4), (0, 5), (18, 2), (18, 3), (18, 0), (0, 6), (21, 2), (21, 3), (21, 0), (0, 7), (24, 0), (0, 8), (26, 2), (26, 3), (26, 0), (25, 0), (29, 2), (29, 3), (29, 0), (25, 1), (0, 9), (100, 1), (100, 3), (100, 12), (100, 13), (100, 14), (100, 15), (100, 16), (100, 17), (100, 18), (100, 25), (100, 26), (100, 28), (100, 29), (100, 30), (100, 31), (100, 32), (100, 33), (100, 34), (100, 37), (100, 38), (100, 39), (100, 40)]) : Full (fullE E1) := by
  refine ⟨fun a ha => ?_, fun _ _ => rfl⟩
  show a ∈ E1.2.2.2.1
  rw [hX.2.2.2.1]
  apply List.mem_append_right
  have h : ∀ a, a < 123 → kd a < 99 → a ∈ [0, 1, 2, 3, 4, 5, 6, 7, 8, 9, 10, 11, 12, 32, 33, 40, 41, 42, 43, 44, 45, 46, 47, 48, 49, 50, 51, 52, 53, 54, 34, 35, 55, 56, 57, 58, 59, 60, 61, 62, 63, 64, 65, 66, 67, 68, 69, 36, 37, 70, 71, 72, 73, 74, 75, 76, 77, 78, 79, 80, 81, 82, 83, 84, 13, 14, 15, 16, 17, 18, 19, 20, 21, 22, 23, 24, 25, 26, 27, 28, 29, 30, 31, 100, 101, 102, 103, 104, 105, 106, 107, 108, 109, 110, 111, 112, 113, 114, 115, 116, 117, 118, 119, 120, 121, 122] := by decide +kernel
  refine h a ?_ ha
  rcases Nat.lt_or_ge a 123 with q | q
  · exact q
  · exfalso
    have : kd a = 99 := by
      unfold kd
      rw [List.getD_eq_getElem?_getD, List.getElem?_eq_none (by simpa [KD] using q)]
      rfl
    omega
theorem dL_law_0 : decode code 0 = .ok (.new 7, 3) := by decide +kernel
theorem dL_law_3 : decode code 3 = .ok (.dup, 1) := by decide +kernel
theorem dL_law_4 : decode code 4 = .ok (.invokespecial 9, 3) := by decide +kernel
theorem dL_law_7 : decode code 7 = .ok (.astore_n 1, 1) := by decide +kernel
theorem dL_law_8 : decode code 8 = .ok (.new 10, 3) := by decide +kernel
theorem dL_law_11 : decode code 11 = .ok (.dup, 1) := by decide +kernel
theorem dL_law_12 : decode code 12 = .ok (.invokespecial 12, 3) := by decide +kernel
theorem dL_law_15 : decode code 15 = .ok (.astore_n 2, 1) := by decide +kernel
theorem dL_law_16 : decode code 16 = .ok (.iconst 0, 1) := by decide +kernel
theorem dL_law_17 : decode code 17 = .ok (.istore_n 3, 1) := by decide +kernel
theorem dL_law_18 : decode code 18 = .ok (.iload_n 3, 1) := by decide +kernel
theorem dL_law_19 : decode code 19 = .ok (.aload_n 0, 1) := by decide +kernel
theorem dL_law_20 : decode code 20 = .ok (.arraylength, 1) := by decide +kernel
theorem dL_law_21 : decode code 21 = .ok (.iconst 5, 1) := by decide +kernel
theorem dL_law_22 : decode code 22 = .ok (.isub, 1) := by decide +kernel
theorem dL_law_23 : decode code 23 = .ok (.if_icmp .gt 1138, 3) := by decide +kernel
theorem dL_law_26 : decode code 26 = .ok (.aload_n 0, 1) := by decide +kernel
theorem dL_law_27 : decode code 27 = .ok (.iload_n 3, 1) := by decide +kernel
theorem dL_law_28 : decode code 28 = .ok (.iaload, 1) := by decide +kernel
theorem dL_law_29 : decode code 29 = .ok (.bipush 31, 2) := by decide +kernel
theorem dL_law_31 : decode code 31 = .ok (.iand, 1) := by decide +kernel
theorem dL_law_32 : decode code 32 = .ok (.tableswitch 1123 0 26 #[124, 187, 200, 213, 226, 311, 334, 367, 420, 463, 506, 529, 562, 615, 668, 721, 754, 777, 820, 863, 896, 945, 968, 991, 1024, 1057, 1100], 124) := by decide +kernel
theorem dL_law_156 : decode code 156 = .ok (.aload_n 1, 1) := by decide +kernel
theorem dL_law_157 : decode code 157 = .ok (.aload_n 0, 1) := by decide +kernel
theorem dL_law_158 : decode code 158 = .ok (.iload_n 3, 1) := by decide +kernel
theorem dL_law_159 : decode code 159 = .ok (.iconst 1, 1) := by decide +kernel
theorem dL_law_160 : decode code 160 = .ok (.iadd, 1) := by decide +kernel
theorem dL_law_161 : decode code 161 = .ok (.iaload, 1) := by decide +kernel
theorem dL_law_162 : decode code 162 = .ok (.i2l, 1) := by decide +kernel
theorem dL_law_163 : decode code 163 = .ok (.bipush 32, 2) := by decide +kernel
theorem dL_law_165 : decode code 165 = .ok (.lshl, 1) := by decide +kernel
theorem dL_law_166 : decode code 166 = .ok (.aload_n 0, 1) := by decide +kernel
theorem dL_law_167 : decode code 167 = .ok (.iload_n 3, 1) := by decide +kernel
theorem dL_law_168 : decode code 168 = .ok (.iconst 2, 1) := by decide +kernel
theorem dL_law_169 : decode code 169 = .ok (.iadd, 1) := by decide +kernel
theorem dL_law_170 : decode code 170 = .ok (.iaload, 1) := by decide +kernel
theorem dL_law_171 : decode code 171 = .ok (.i2l, 1) := by decide +kernel
theorem dL_law_172 : decode code 172 = .ok (.ldc2_w 13, 3) := by decide +kernel
theorem dL_law_175 : decode code 175 = .ok (.land, 1) := by decide +kernel
theorem dL_law_176 : decode code 176 = .ok (.lor, 1) := by decide +kernel
theorem dL_law_177 : decode code 177 = .ok (.aload_n 0, 1) := by decide +kernel
theorem dL_law_178 : decode code 178 = .ok (.iload_n 3, 1) := by decide +kernel
theorem dL_law_179 : decode code 179 = .ok (.iconst 3, 1) := by decide +kernel
theorem dL_law_180 : decode code 180 = .ok (.iadd, 1) := by decide +kernel
theorem dL_law_181 : decode code 181 = .ok (.iaload, 1) := by decide +kernel
theorem dL_law_182 : decode code 182 = .ok (.invokevirtual 15, 3) := by decide +kernel
theorem dL_law_185 : decode code 185 = .ok (.aload_n 2, 1) := by decide +kernel
theorem dL_law_186 : decode code 186 = .ok (.aload_n 0, 1) := by decide +kernel
theorem dL_law_187 : decode code 187 = .ok (.iload_n 3, 1) := by decide +kernel
theorem dL_law_188 : decode code 188 = .ok (.iconst 1, 1) := by decide +kernel
theorem dL_law_189 : decode code 189 = .ok (.iadd, 1) := by decide +kernel
theorem dL_law_190 : decode code 190 = .ok (.iaload, 1) := by decide +kernel
theorem dL_law_191 : decode code 191 = .ok (.i2l, 1) := by decide +kernel
theorem dL_law_192 : decode code 192 = .ok (.bipush 32, 2) := by decide +kernel
theorem dL_law_194 : decode code 194 = .ok (.lshl, 1) := by decide +kernel
theorem dL_law_195 : decode code 195 = .ok (.aload_n 0, 1) := by decide +kernel
theorem dL_law_196 : decode code 196 = .ok (.iload_n 3, 1) := by decide +kernel
theorem dL_law_197 : decode code 197 = .ok (.iconst 2, 1) := by decide +kernel
theorem dL_law_198 : decode code 198 = .ok (.iadd, 1) := by decide +kernel
theorem dL_law_199 : decode code 199 = .ok (.iaload, 1) := by decide +kernel
theorem dL_law_200 : decode code 200 = .ok (.i2l, 1) := by decide +kernel
theorem dL_law_201 : decode code 201 = .ok (.ldc2_w 13, 3) := by decide +kernel
theorem dL_law_204 : decode code 204 = .ok (.land, 1) := by decide +kernel
theorem dL_law_205 : decode code 205 = .ok (.lor, 1) := by decide +kernel
theorem dL_law_206 : decode code 206 = .ok (.aload_n 0, 1) := by decide +kernel
theorem dL_law_207 : decode code 207 = .ok (.iload_n 3, 1) := by decide +kernel
theorem dL_law_208 : decode code 208 = .ok (.iconst 3, 1) := by decide +kernel
theorem dL_law_209 : decode code 209 = .ok (.iadd, 1) := by decide +kernel
theorem dL_law_210 : decode code 210 = .ok (.iaload, 1) := by decide +kernel
theorem dL_law_211 : decode code 211 = .ok (.invokevirtual 19, 3) := by decide +kernel
theorem dL_law_214 : decode code 214 = .ok (.if_icmp .eq 941, 3) := by decide +kernel
theorem dL_law_217 : decode code 217 = .ok (.iconst 0, 1) := by decide +kernel
theorem dL_law_218 : decode code 218 = .ok (.ireturn, 1) := by decide +kernel
theorem dL_law_219 : decode code 219 = .ok (.aload_n 1, 1) := by decide +kernel
theorem dL_law_220 : decode code 220 = .ok (.invokevirtual 20, 3) := by decide +kernel
theorem dL_law_223 : decode code 223 = .ok (.aload_n 2, 1) := by decide +kernel
theorem dL_law_224 : decode code 224 = .ok (.invokevirtual 24, 3) := by decide +kernel
theorem dL_law_227 : decode code 227 = .ok (.if_icmp .eq 928, 3) := by decide +kernel
theorem dL_law_230 : decode code 230 = .ok (.iconst 0, 1) := by decide +kernel
theorem dL_law_231 : decode code 231 = .ok (.ireturn, 1) := by decide +kernel
theorem dL_law_232 : decode code 232 = .ok (.aload_n 1, 1) := by decide +kernel
theorem dL_law_233 : decode code 233 = .ok (.invokevirtual 25, 3) := by decide +kernel
theorem dL_law_236 : decode code 236 = .ok (.aload_n 2, 1) := by decide +kernel
theorem dL_law_237 : decode code 237 = .ok (.invokevirtual 28, 3) := by decide +kernel
theorem dL_law_240 : decode code 240 = .ok (.if_icmp .eq 915, 3) := by decide +kernel
theorem dL_law_243 : decode code 243 = .ok (.iconst 0, 1) := by decide +kernel
theorem dL_law_244 : decode code 244 = .ok (.ireturn, 1) := by decide +kernel
theorem dL_law_245 : decode code 245 = .ok (.aload_n 1, 1) := by decide +kernel
theorem dL_law_246 : decode code 246 = .ok (.invokevirtual 29, 3) := by decide +kernel
theorem dL_law_249 : decode code 249 = .ok (.aload_n 2, 1) := by decide +kernel
theorem dL_law_250 : decode code 250 = .ok (.invokevirtual 32, 3) := by decide +kernel
theorem dL_law_253 : decode code 253 = .ok (.if_icmp .eq 902, 3) := by decide +kernel
theorem dL_law_256 : decode code 256 = .ok (.iconst 0, 1) := by decide +kernel
theorem dL_law_257 : decode code 257 = .ok (.ireturn, 1) := by decide +kernel
theorem dL_law_258 : decode code 258 = .ok (.aload_n 1, 1) := by decide +kernel
theorem dL_law_259 : decode code 259 = .ok (.aload_n 0, 1) := by decide +kernel
theorem dL_law_260 : decode code 260 = .ok (.iload_n 3, 1) := by decide +kernel
theorem dL_law_261 : decode code 261 = .ok (.iconst 1, 1) := by decide +kernel
theorem dL_law_262 : decode code 262 = .ok (.iadd, 1) := by decide +kernel
theorem dL_law_263 : decode code 263 = .ok (.iaload, 1) := by decide +kernel
theorem dL_law_264 : decode code 264 = .ok (.aload_n 0, 1) := by decide +kernel
theorem dL_law_265 : decode code 265 = .ok (.iload_n 3, 1) := by decide +kernel
theorem dL_law_266 : decode code 266 = .ok (.iconst 2, 1) := by decide +kernel
theorem dL_law_267 : decode code 267 = .ok (.iadd, 1) := by decide +kernel
theorem dL_law_268 : decode code 268 = .ok (.iaload, 1) := by decide +kernel
theorem dL_law_269 : decode code 269 = .ok (.aload_n 0, 1) := by decide +kernel
theorem dL_law_270 : decode code 270 = .ok (.iload_n 3, 1) := by decide +kernel
theorem dL_law_271 : decode code 271 = .ok (.iconst 3, 1) := by decide +kernel
theorem dL_law_272 : decode code 272 = .ok (.iadd, 1) := by decide +kernel
theorem dL_law_273 : decode code 273 = .ok (.iaload, 1) := by decide +kernel
theorem dL_law_274 : decode code 274 = .ok (.ifCond .eq 7, 3) := by decide +kernel
theorem dL_law_277 : decode code 277 = .ok (.iconst 1, 1) := by decide +kernel
theorem dL_law_278 : decode code 278 = .ok (.goto 4, 3) := by decide +kernel
theorem dL_law_281 : decode code 281 = .ok (.iconst 0, 1) := by decide +kernel
theorem dL_law_282 : decode code 282 = .ok (.aload_n 0, 1) := by decide +kernel
theorem dL_law_283 : decode code 283 = .ok (.iload_n 3, 1) := by decide +kernel
theorem dL_law_284 : decode code 284 = .ok (.iconst 4, 1) := by decide +kernel
theorem dL_law_285 : decode code 285 = .ok (.iadd, 1) := by decide +kernel
theorem dL_law_286 : decode code 286 = .ok (.iaload, 1) := by decide +kernel
theorem dL_law_287 : decode code 287 = .ok (.ifCond .eq 7, 3) := by decide +kernel
theorem dL_law_290 : decode code 290 = .ok (.iconst 1, 1) := by decide +kernel
theorem dL_law_291 : decode code 291 = .ok (.goto 4, 3) := by decide +kernel
theorem dL_law_294 : decode code 294 = .ok (.iconst 0, 1) := by decide +kernel
theorem dL_law_295 : decode code 295 = .ok (.invokevirtual 33, 3) := by decide +kernel
theorem dL_law_298 : decode code 298 = .ok (.aload_n 2, 1) := by decide +kernel
theorem dL_law_299 : decode code 299 = .ok (.aload_n 0, 1) := by decide +kernel
theorem dL_law_300 : decode code 300 = .ok (.iload_n 3, 1) := by decide +kernel
theorem dL_law_301 : decode code 301 = .ok (.iconst 1, 1) := by decide +kernel
theorem dL_law_302 : decode code 302 = .ok (.iadd, 1) := by decide +kernel
theorem dL_law_303 : decode code 303 = .ok (.iaload, 1) := by decide +kernel
theorem dL_law_304 : decode code 304 = .ok (.aload_n 0, 1) := by decide +kernel
theorem dL_law_305 : decode code 305 = .ok (.iload_n 3, 1) := by decide +kernel
theorem dL_law_306 : decode code 306 = .ok (.iconst 2, 1) := by decide +kernel
theorem dL_law_307 : decode code 307 = .ok (.iadd, 1) := by decide +kernel
theorem dL_law_308 : decode code 308 = .ok (.iaload, 1) := by decide +kernel
theorem dL_law_309 : decode code 309 = .ok (.aload_n 0, 1) := by decide +kernel
theorem dL_law_310 : decode code 310 = .ok (.iload_n 3, 1) := by decide +kernel
theorem dL_law_311 : decode code 311 = .ok (.iconst 3, 1) := by decide +kernel
theorem dL_law_312 : decode code 312 = .ok (.iadd, 1) := by decide +kernel
theorem dL_law_313 : decode code 313 = .ok (.iaload, 1) := by decide +kernel
theorem dL_law_314 : decode code 314 = .ok (.ifCond .eq 7, 3) := by decide +kernel
theorem dL_law_317 : decode code 317 = .ok (.iconst 1, 1) := by decide +kernel
theorem dL_law_318 : decode code 318 = .ok (.goto 4, 3) := by decide +kernel
theorem dL_law_321 : decode code 321 = .ok (.iconst 0, 1) := by decide +kernel
theorem dL_law_322 : decode code 322 = .ok (.aload_n 0, 1) := by decide +kernel
theorem dL_law_323 : decode code 323 = .ok (.iload_n 3, 1) := by decide +kernel
theorem dL_law_324 : decode code 324 = .ok (.iconst 4, 1) := by decide +kernel
theorem dL_law_325 : decode code 325 = .ok (.iadd, 1) := by decide +kernel
theorem dL_law_326 : decode code 326 = .ok (.iaload, 1) := by decide +kernel
theorem dL_law_327 : decode code 327 = .ok (.ifCond .eq 7, 3) := by decide +kernel
theorem dL_law_330 : decode code 330 = .ok (.iconst 1, 1) := by decide +kernel
theorem dL_law_331 : decode code 331 = .ok (.goto 4, 3) := by decide +kernel
theorem dL_law_334 : decode code 334 = .ok (.iconst 0, 1) := by decide +kernel
theorem dL_law_335 : decode code 335 = .ok (.invokevirtual 37, 3) := by decide +kernel
theorem dL_law_338 : decode code 338 = .ok (.if_icmp .eq 817, 3) := by decide +kernel
theorem dL_law_341 : decode code 341 = .ok (.iconst 0, 1) := by decide +kernel
theorem dL_law_342 : decode code 342 = .ok (.ireturn, 1) := by decide +kernel
theorem dL_law_343 : decode code 343 = .ok (.aload_n 1, 1) := by decide +kernel
theorem dL_law_344 : decode code 344 = .ok (.aload_n 0, 1) := by decide +kernel
theorem dL_law_345 : decode code 345 = .ok (.iload_n 3, 1) := by decide +kernel
theorem dL_law_346 : decode code 346 = .ok (.iconst 1, 1) := by decide +kernel
theorem dL_law_347 : decode code 347 = .ok (.iadd, 1) := by decide +kernel
theorem dL_law_348 : decode code 348 = .ok (.iaload, 1) := by decide +kernel
theorem dL_law_349 : decode code 349 = .ok (.invokevirtual 38, 3) := by decide +kernel
theorem dL_law_352 : decode code 352 = .ok (.aload_n 2, 1) := by decide +kernel
theorem dL_law_353 : decode code 353 = .ok (.aload_n 0, 1) := by decide +kernel
theorem dL_law_354 : decode code 354 = .ok (.iload_n 3, 1) := by decide +kernel
theorem dL_law_355 : decode code 355 = .ok (.iconst 1, 1) := by decide +kernel
theorem dL_law_356 : decode code 356 = .ok (.iadd, 1) := by decide +kernel
theorem dL_law_357 : decode code 357 = .ok (.iaload, 1) := by decide +kernel
theorem dL_law_358 : decode code 358 = .ok (.invokevirtual 42, 3) := by decide +kernel
theorem dL_law_361 : decode code 361 = .ok (.if_icmp .eq 794, 3) := by decide +kernel
theorem dL_law_364 : decode code 364 = .ok (.iconst 0, 1) := by decide +kernel
theorem dL_law_365 : decode code 365 = .ok (.ireturn, 1) := by decide +kernel
theorem dL_law_366 : decode code 366 = .ok (.aload_n 1, 1) := by decide +kernel
theorem dL_law_367 : decode code 367 = .ok (.aload_n 0, 1) := by decide +kernel
theorem dL_law_368 : decode code 368 = .ok (.iload_n 3, 1) := by decide +kernel
theorem dL_law_369 : decode code 369 = .ok (.iconst 1, 1) := by decide +kernel
theorem dL_law_370 : decode code 370 = .ok (.iadd, 1) := by decide +kernel
theorem dL_law_371 : decode code 371 = .ok (.iaload, 1) := by decide +kernel
theorem dL_law_372 : decode code 372 = .ok (.aload_n 0, 1) := by decide +kernel
theorem dL_law_373 : decode code 373 = .ok (.iload_n 3, 1) := by decide +kernel
theorem dL_law_374 : decode code 374 = .ok (.iconst 2, 1) := by decide +kernel
theorem dL_law_375 : decode code 375 = .ok (.iadd, 1) := by decide +kernel
theorem dL_law_376 : decode code 376 = .ok (.iaload, 1) := by decide +kernel
theorem dL_law_377 : decode code 377 = .ok (.invokevirtual 43, 3) := by decide +kernel
theorem dL_law_380 : decode code 380 = .ok (.aload_n 2, 1) := by decide +kernel
theorem dL_law_381 : decode code 381 = .ok (.aload_n 0, 1) := by decide +kernel
theorem dL_law_382 : decode code 382 = .ok (.iload_n 3, 1) := by decide +kernel
theorem dL_law_383 : decode code 383 = .ok (.iconst 1, 1) := by decide +kernel
theorem dL_law_384 : decode code 384 = .ok (.iadd, 1) := by decide +kernel
theorem dL_law_385 : decode code 385 = .ok (.iaload, 1) := by decide +kernel
theorem dL_law_386 : decode code 386 = .ok (.aload_n 0, 1) := by decide +kernel
theorem dL_law_387 : decode code 387 = .ok (.iload_n 3, 1) := by decide +kernel
theorem dL_law_388 : decode code 388 = .ok (.iconst 2, 1) := by decide +kernel
theorem dL_law_389 : decode code 389 = .ok (.iadd, 1) := by decide +kernel
theorem dL_law_390 : decode code 390 = .ok (.iaload, 1) := by decide +kernel
theorem dL_law_391 : decode code 391 = .ok (.invokevirtual 47, 3) := by decide +kernel
theorem dL_law_394 : decode code 394 = .ok (.if_icmp .eq 761, 3) := by decide +kernel
theorem dL_law_397 : decode code 397 = .ok (.iconst 0, 1) := by decide +kernel
theorem dL_law_398 : decode code 398 = .ok (.ireturn, 1) := by decide +kernel
theorem dL_law_399 : decode code 399 = .ok (.aload_n 1, 1) := by decide +kernel
theorem dL_law_400 : decode code 400 = .ok (.aload_n 0, 1) := by decide +kernel
theorem dL_law_401 : decode code 401 = .ok (.iload_n 3, 1) := by decide +kernel
theorem dL_law_402 : decode code 402 = .ok (.iconst 1, 1) := by decide +kernel
theorem dL_law_403 : decode code 403 = .ok (.iadd, 1) := by decide +kernel
theorem dL_law_404 : decode code 404 = .ok (.iaload, 1) := by decide +kernel
theorem dL_law_405 : decode code 405 = .ok (.aload_n 0, 1) := by decide +kernel
theorem dL_law_406 : decode code 406 = .ok (.iload_n 3, 1) := by decide +kernel
theorem dL_law_407 : decode code 407 = .ok (.iconst 2, 1) := by decide +kernel
theorem dL_law_408 : decode code 408 = .ok (.iadd, 1) := by decide +kernel
theorem dL_law_409 : decode code 409 = .ok (.iaload, 1) := by decide +kernel
theorem dL_law_410 : decode code 410 = .ok (.aload_n 0, 1) := by decide +kernel
theorem dL_law_411 : decode code 411 = .ok (.iload_n 3, 1) := by decide +kernel
theorem dL_law_412 : decode code 412 = .ok (.iconst 3, 1) := by decide +kernel
theorem dL_law_413 : decode code 413 = .ok (.iadd, 1) := by decide +kernel
theorem dL_law_414 : decode code 414 = .ok (.iaload, 1) := by decide +kernel
theorem dL_law_415 : decode code 415 = .ok (.aload_n 0, 1) := by decide +kernel
theorem dL_law_416 : decode code 416 = .ok (.iload_n 3, 1) := by decide +kernel
theorem dL_law_417 : decode code 417 = .ok (.iconst 4, 1) := by decide +kernel
theorem dL_law_418 : decode code 418 = .ok (.iadd, 1) := by decide +kernel
theorem dL_law_419 : decode code 419 = .ok (.iaload, 1) := by decide +kernel
theorem dL_law_420 : decode code 420 = .ok (.invokevirtual 48, 3) := by decide +kernel
theorem dL_law_423 : decode code 423 = .ok (.aload_n 2, 1) := by decide +kernel
theorem dL_law_424 : decode code 424 = .ok (.aload_n 0, 1) := by decide +kernel
theorem dL_law_425 : decode code 425 = .ok (.iload_n 3, 1) := by decide +kernel
theorem dL_law_426 : decode code 426 = .ok (.iconst 1, 1) := by decide +kernel
theorem dL_law_427 : decode code 427 = .ok (.iadd, 1) := by decide +kernel
theorem dL_law_428 : decode code 428 = .ok (.iaload, 1) := by decide +kernel
theorem dL_law_429 : decode code 429 = .ok (.aload_n 0, 1) := by decide +kernel
theorem dL_law_430 : decode code 430 = .ok (.iload_n 3, 1) := by decide +kernel
theorem dL_law_431 : decode code 431 = .ok (.iconst 2, 1) := by decide +kernel
theorem dL_law_432 : decode code 432 = .ok (.iadd, 1) := by decide +kernel
theorem dL_law_433 : decode code 433 = .ok (.iaload, 1) := by decide +kernel
theorem dL_law_434 : decode code 434 = .ok (.aload_n 0, 1) := by decide +kernel
theorem dL_law_435 : decode code 435 = .ok (.iload_n 3, 1) := by decide +kernel
theorem dL_law_436 : decode code 436 = .ok (.iconst 3, 1) := by decide +kernel
theorem dL_law_437 : decode code 437 = .ok (.iadd, 1) := by decide +kernel
theorem dL_law_438 : decode code 438 = .ok (.iaload, 1) := by decide +kernel
theorem dL_law_439 : decode code 439 = .ok (.aload_n 0, 1) := by decide +kernel
theorem dL_law_440 : decode code 440 = .ok (.iload_n 3, 1) := by decide +kernel
theorem dL_law_441 : decode code 441 = .ok (.iconst 4, 1) := by decide +kernel
theorem dL_law_442 : decode code 442 = .ok (.iadd, 1) := by decide +kernel
theorem dL_law_443 : decode code 443 = .ok (.iaload, 1) := by decide +kernel
theorem dL_law_444 : decode code 444 = .ok (.invokevirtual 52, 3) := by decide +kernel
theorem dL_law_447 : decode code 447 = .ok (.if_icmp .eq 708, 3) := by decide +kernel
theorem dL_law_450 : decode code 450 = .ok (.iconst 0, 1) := by decide +kernel
theorem dL_law_451 : decode code 451 = .ok (.ireturn, 1) := by decide +kernel
theorem dL_law_452 : decode code 452 = .ok (.aload_n 1, 1) := by decide +kernel
theorem dL_law_453 : decode code 453 = .ok (.aload_n 0, 1) := by decide +kernel
theorem dL_law_454 : decode code 454 = .ok (.iload_n 3, 1) := by decide +kernel
theorem dL_law_455 : decode code 455 = .ok (.iconst 1, 1) := by decide +kernel
theorem dL_law_456 : decode code 456 = .ok (.iadd, 1) := by decide +kernel
theorem dL_law_457 : decode code 457 = .ok (.iaload, 1) := by decide +kernel
theorem dL_law_458 : decode code 458 = .ok (.aload_n 0, 1) := by decide +kernel
theorem dL_law_459 : decode code 459 = .ok (.iload_n 3, 1) := by decide +kernel
theorem dL_law_460 : decode code 460 = .ok (.iconst 2, 1) := by decide +kernel
theorem dL_law_461 : decode code 461 = .ok (.iadd, 1) := by decide +kernel
theorem dL_law_462 : decode code 462 = .ok (.iaload, 1) := by decide +kernel
theorem dL_law_463 : decode code 463 = .ok (.aload_n 0, 1) := by decide +kernel
theorem dL_law_464 : decode code 464 = .ok (.iload_n 3, 1) := by decide +kernel
theorem dL_law_465 : decode code 465 = .ok (.iconst 3, 1) := by decide +kernel
theorem dL_law_466 : decode code 466 = .ok (.iadd, 1) := by decide +kernel
theorem dL_law_467 : decode code 467 = .ok (.iaload, 1) := by decide +kernel
theorem dL_law_468 : decode code 468 = .ok (.invokevirtual 53, 3) := by decide +kernel
theorem dL_law_471 : decode code 471 = .ok (.aload_n 2, 1) := by decide +kernel
theorem dL_law_472 : decode code 472 = .ok (.aload_n 0, 1) := by decide +kernel
theorem dL_law_473 : decode code 473 = .ok (.iload_n 3, 1) := by decide +kernel
theorem dL_law_474 : decode code 474 = .ok (.iconst 1, 1) := by decide +kernel
theorem dL_law_475 : decode code 475 = .ok (.iadd, 1) := by decide +kernel
theorem dL_law_476 : decode code 476 = .ok (.iaload, 1) := by decide +kernel
theorem dL_law_477 : decode code 477 = .ok (.aload_n 0, 1) := by decide +kernel
theorem dL_law_478 : decode code 478 = .ok (.iload_n 3, 1) := by decide +kernel
theorem dL_law_479 : decode code 479 = .ok (.iconst 2, 1) := by decide +kernel
theorem dL_law_480 : decode code 480 = .ok (.iadd, 1) := by decide +kernel
theorem dL_law_481 : decode code 481 = .ok (.iaload, 1) := by decide +kernel
theorem dL_law_482 : decode code 482 = .ok (.aload_n 0, 1) := by decide +kernel
theorem dL_law_483 : decode code 483 = .ok (.iload_n 3, 1) := by decide +kernel
theorem dL_law_484 : decode code 484 = .ok (.iconst 3, 1) := by decide +kernel
theorem dL_law_485 : decode code 485 = .ok (.iadd, 1) := by decide +kernel
theorem dL_law_486 : decode code 486 = .ok (.iaload, 1) := by decide +kernel
theorem dL_law_487 : decode code 487 = .ok (.invokevirtual 57, 3) := by decide +kernel
theorem dL_law_490 : decode code 490 = .ok (.if_icmp .eq 665, 3) := by decide +kernel
theorem dL_law_493 : decode code 493 = .ok (.iconst 0, 1) := by decide +kernel
theorem dL_law_494 : decode code 494 = .ok (.ireturn, 1) := by decide +kernel
theorem dL_law_495 : decode code 495 = .ok (.aload_n 1, 1) := by decide +kernel
theorem dL_law_496 : decode code 496 = .ok (.aload_n 0, 1) := by decide +kernel
theorem dL_law_497 : decode code 497 = .ok (.iload_n 3, 1) := by decide +kernel
theorem dL_law_498 : decode code 498 = .ok (.iconst 1, 1) := by decide +kernel
theorem dL_law_499 : decode code 499 = .ok (.iadd, 1) := by decide +kernel
theorem dL_law_500 : decode code 500 = .ok (.iaload, 1) := by decide +kernel
theorem dL_law_501 : decode code 501 = .ok (.aload_n 0, 1) := by decide +kernel
theorem dL_law_502 : decode code 502 = .ok (.iload_n 3, 1) := by decide +kernel
theorem dL_law_503 : decode code 503 = .ok (.iconst 2, 1) := by decide +kernel
theorem dL_law_504 : decode code 504 = .ok (.iadd, 1) := by decide +kernel
theorem dL_law_505 : decode code 505 = .ok (.iaload, 1) := by decide +kernel
theorem dL_law_506 : decode code 506 = .ok (.aload_n 0, 1) := by decide +kernel
theorem dL_law_507 : decode code 507 = .ok (.iload_n 3, 1) := by decide +kernel
theorem dL_law_508 : decode code 508 = .ok (.iconst 3, 1) := by decide +kernel
theorem dL_law_509 : decode code 509 = .ok (.iadd, 1) := by decide +kernel
theorem dL_law_510 : decode code 510 = .ok (.iaload, 1) := by decide +kernel
theorem dL_law_511 : decode code 511 = .ok (.invokevirtual 58, 3) := by decide +kernel
theorem dL_law_514 : decode code 514 = .ok (.aload_n 2, 1) := by decide +kernel
theorem dL_law_515 : decode code 515 = .ok (.aload_n 0, 1) := by decide +kernel
theorem dL_law_516 : decode code 516 = .ok (.iload_n 3, 1) := by decide +kernel
theorem dL_law_517 : decode code 517 = .ok (.iconst 1, 1) := by decide +kernel
theorem dL_law_518 : decode code 518 = .ok (.iadd, 1) := by decide +kernel
theorem dL_law_519 : decode code 519 = .ok (.iaload, 1) := by decide +kernel
theorem dL_law_520 : decode code 520 = .ok (.aload_n 0, 1) := by decide +kernel
theorem dL_law_521 : decode code 521 = .ok (.iload_n 3, 1) := by decide +kernel
theorem dL_law_522 : decode code 522 = .ok (.iconst 2, 1) := by decide +kernel
theorem dL_law_523 : decode code 523 = .ok (.iadd, 1) := by decide +kernel
theorem dL_law_524 : decode code 524 = .ok (.iaload, 1) := by decide +kernel
theorem dL_law_525 : decode code 525 = .ok (.aload_n 0, 1) := by decide +kernel
theorem dL_law_526 : decode code 526 = .ok (.iload_n 3, 1) := by decide +kernel
theorem dL_law_527 : decode code 527 = .ok (.iconst 3, 1) := by decide +kernel
theorem dL_law_528 : decode code 528 = .ok (.iadd, 1) := by decide +kernel
theorem dL_law_529 : decode code 529 = .ok (.iaload, 1) := by decide +kernel
theorem dL_law_530 : decode code 530 = .ok (.invokevirtual 61, 3) := by decide +kernel
theorem dL_law_533 : decode code 533 = .ok (.if_icmp .eq 622, 3) := by decide +kernel
theorem dL_law_536 : decode code 536 = .ok (.iconst 0, 1) := by decide +kernel
theorem dL_law_537 : decode code 537 = .ok (.ireturn, 1) := by decide +kernel
theorem dL_law_538 : decode code 538 = .ok (.aload_n 1, 1) := by decide +kernel
theorem dL_law_539 : decode code 539 = .ok (.aload_n 0, 1) := by decide +kernel
theorem dL_law_540 : decode code 540 = .ok (.iload_n 3, 1) := by decide +kernel
theorem dL_law_541 : decode code 541 = .ok (.iconst 1, 1) := by decide +kernel
theorem dL_law_542 : decode code 542 = .ok (.iadd, 1) := by decide +kernel
theorem dL_law_543 : decode code 543 = .ok (.iaload, 1) := by decide +kernel
theorem dL_law_544 : decode code 544 = .ok (.invokevirtual 62, 3) := by decide +kernel
theorem dL_law_547 : decode code 547 = .ok (.aload_n 2, 1) := by decide +kernel
theorem dL_law_548 : decode code 548 = .ok (.aload_n 0, 1) := by decide +kernel
theorem dL_law_549 : decode code 549 = .ok (.iload_n 3, 1) := by decide +kernel
theorem dL_law_550 : decode code 550 = .ok (.iconst 1, 1) := by decide +kernel
theorem dL_law_551 : decode code 551 = .ok (.iadd, 1) := by decide +kernel
theorem dL_law_552 : decode code 552 = .ok (.iaload, 1) := by decide +kernel
theorem dL_law_553 : decode code 553 = .ok (.invokevirtual 65, 3) := by decide +kernel
theorem dL_law_556 : decode code 556 = .ok (.if_icmp .eq 599, 3) := by decide +kernel
theorem dL_law_559 : decode code 559 = .ok (.iconst 0, 1) := by decide +kernel
theorem dL_law_560 : decode code 560 = .ok (.ireturn, 1) := by decide +kernel
theorem dL_law_561 : decode code 561 = .ok (.aload_n 1, 1) := by decide +kernel
theorem dL_law_562 : decode code 562 = .ok (.aload_n 0, 1) := by decide +kernel
theorem dL_law_563 : decode code 563 = .ok (.iload_n 3, 1) := by decide +kernel
theorem dL_law_564 : decode code 564 = .ok (.iconst 1, 1) := by decide +kernel
theorem dL_law_565 : decode code 565 = .ok (.iadd, 1) := by decide +kernel
theorem dL_law_566 : decode code 566 = .ok (.iaload, 1) := by decide +kernel
theorem dL_law_567 : decode code 567 = .ok (.aload_n 0, 1) := by decide +kernel
theorem dL_law_568 : decode code 568 = .ok (.iload_n 3, 1) := by decide +kernel
theorem dL_law_569 : decode code 569 = .ok (.iconst 2, 1) := by decide +kernel
theorem dL_law_570 : decode code 570 = .ok (.iadd, 1) := by decide +kernel
theorem dL_law_571 : decode code 571 = .ok (.iaload, 1) := by decide +kernel
theorem dL_law_572 : decode code 572 = .ok (.invokevirtual 66, 3) := by decide +kernel
theorem dL_law_575 : decode code 575 = .ok (.aload_n 2, 1) := by decide +kernel
theorem dL_law_576 : decode code 576 = .ok (.aload_n 0, 1) := by decide +kernel
theorem dL_law_577 : decode code 577 = .ok (.iload_n 3, 1) := by decide +kernel
theorem dL_law_578 : decode code 578 = .ok (.iconst 1, 1) := by decide +kernel
theorem dL_law_579 : decode code 579 = .ok (.iadd, 1) := by decide +kernel
theorem dL_law_580 : decode code 580 = .ok (.iaload, 1) := by decide +kernel
theorem dL_law_581 : decode code 581 = .ok (.aload_n 0, 1) := by decide +kernel
theorem dL_law_582 : decode code 582 = .ok (.iload_n 3, 1) := by decide +kernel
theorem dL_law_583 : decode code 583 = .ok (.iconst 2, 1) := by decide +kernel
theorem dL_law_584 : decode code 584 = .ok (.iadd, 1) := by decide +kernel
theorem dL_law_585 : decode code 585 = .ok (.iaload, 1) := by decide +kernel
theorem dL_law_586 : decode code 586 = .ok (.invokevirtual 69, 3) := by decide +kernel
theorem dL_law_589 : decode code 589 = .ok (.if_icmp .eq 566, 3) := by decide +kernel
theorem dL_law_592 : decode code 592 = .ok (.iconst 0, 1) := by decide +kernel
theorem dL_law_593 : decode code 593 = .ok (.ireturn, 1) := by decide +kernel
theorem dL_law_594 : decode code 594 = .ok (.aload_n 1, 1) := by decide +kernel
theorem dL_law_595 : decode code 595 = .ok (.aload_n 0, 1) := by decide +kernel
theorem dL_law_596 : decode code 596 = .ok (.iload_n 3, 1) := by decide +kernel
theorem dL_law_597 : decode code 597 = .ok (.iconst 1, 1) := by decide +kernel
theorem dL_law_598 : decode code 598 = .ok (.iadd, 1) := by decide +kernel
theorem dL_law_599 : decode code 599 = .ok (.iaload, 1) := by decide +kernel
theorem dL_law_600 : decode code 600 = .ok (.aload_n 0, 1) := by decide +kernel
theorem dL_law_601 : decode code 601 = .ok (.iload_n 3, 1) := by decide +kernel
theorem dL_law_602 : decode code 602 = .ok (.iconst 2, 1) := by decide +kernel
theorem dL_law_603 : decode code 603 = .ok (.iadd, 1) := by decide +kernel
theorem dL_law_604 : decode code 604 = .ok (.iaload, 1) := by decide +kernel
theorem dL_law_605 : decode code 605 = .ok (.aload_n 0, 1) := by decide +kernel
theorem dL_law_606 : decode code 606 = .ok (.iload_n 3, 1) := by decide +kernel
theorem dL_law_607 : decode code 607 = .ok (.iconst 3, 1) := by decide +kernel
theorem dL_law_608 : decode code 608 = .ok (.iadd, 1) := by decide +kernel
theorem dL_law_609 : decode code 609 = .ok (.iaload, 1) := by decide +kernel
theorem dL_law_610 : decode code 610 = .ok (.aload_n 0, 1) := by decide +kernel
theorem dL_law_611 : decode code 611 = .ok (.iload_n 3, 1) := by decide +kernel
theorem dL_law_612 : decode code 612 = .ok (.iconst 4, 1) := by decide +kernel
theorem dL_law_613 : decode code 613 = .ok (.iadd, 1) := by decide +kernel
theorem dL_law_614 : decode code 614 = .ok (.iaload, 1) := by decide +kernel
theorem dL_law_615 : decode code 615 = .ok (.invokevirtual 70, 3) := by decide +kernel
theorem dL_law_618 : decode code 618 = .ok (.aload_n 2, 1) := by decide +kernel
theorem dL_law_619 : decode code 619 = .ok (.aload_n 0, 1) := by decide +kernel
theorem dL_law_620 : decode code 620 = .ok (.iload_n 3, 1) := by decide +kernel
theorem dL_law_621 : decode code 621 = .ok (.iconst 1, 1) := by decide +kernel
theorem dL_law_622 : decode code 622 = .ok (.iadd, 1) := by decide +kernel
theorem dL_law_623 : decode code 623 = .ok (.iaload, 1) := by decide +kernel
theorem dL_law_624 : decode code 624 = .ok (.aload_n 0, 1) := by decide +kernel
theorem dL_law_625 : decode code 625 = .ok (.iload_n 3, 1) := by decide +kernel
theorem dL_law_626 : decode code 626 = .ok (.iconst 2, 1) := by decide +kernel
theorem dL_law_627 : decode code 627 = .ok (.iadd, 1) := by decide +kernel
theorem dL_law_628 : decode code 628 = .ok (.iaload, 1) := by decide +kernel
theorem dL_law_629 : decode code 629 = .ok (.aload_n 0, 1) := by decide +kernel
theorem dL_law_630 : decode code 630 = .ok (.iload_n 3, 1) := by decide +kernel
theorem dL_law_631 : decode code 631 = .ok (.iconst 3, 1) := by decide +kernel
theorem dL_law_632 : decode code 632 = .ok (.iadd, 1) := by decide +kernel
theorem dL_law_633 : decode code 633 = .ok (.iaload, 1) := by decide +kernel
theorem dL_law_634 : decode code 634 = .ok (.aload_n 0, 1) := by decide +kernel
theorem dL_law_635 : decode code 635 = .ok (.iload_n 3, 1) := by decide +kernel
theorem dL_law_636 : decode code 636 = .ok (.iconst 4, 1) := by decide +kernel
theorem dL_law_637 : decode code 637 = .ok (.iadd, 1) := by decide +kernel
theorem dL_law_638 : decode code 638 = .ok (.iaload, 1) := by decide +kernel
theorem dL_law_639 : decode code 639 = .ok (.invokevirtual 73, 3) := by decide +kernel
theorem dL_law_642 : decode code 642 = .ok (.if_icmp .eq 513, 3) := by decide +kernel
theorem dL_law_645 : decode code 645 = .ok (.iconst 0, 1) := by decide +kernel
theorem dL_law_646 : decode code 646 = .ok (.ireturn, 1) := by decide +kernel
theorem dL_law_647 : decode code 647 = .ok (.aload_n 1, 1) := by decide +kernel
theorem dL_law_648 : decode code 648 = .ok (.aload_n 0, 1) := by decide +kernel
theorem dL_law_649 : decode code 649 = .ok (.iload_n 3, 1) := by decide +kernel
theorem dL_law_650 : decode code 650 = .ok (.iconst 1, 1) := by decide +kernel
theorem dL_law_651 : decode code 651 = .ok (.iadd, 1) := by decide +kernel
theorem dL_law_652 : decode code 652 = .ok (.iaload, 1) := by decide +kernel
theorem dL_law_653 : decode code 653 = .ok (.aload_n 0, 1) := by decide +kernel
theorem dL_law_654 : decode code 654 = .ok (.iload_n 3, 1) := by decide +kernel
theorem dL_law_655 : decode code 655 = .ok (.iconst 2, 1) := by decide +kernel
theorem dL_law_656 : decode code 656 = .ok (.iadd, 1) := by decide +kernel
theorem dL_law_657 : decode code 657 = .ok (.iaload, 1) := by decide +kernel
theorem dL_law_658 : decode code 658 = .ok (.aload_n 0, 1) := by decide +kernel
theorem dL_law_659 : decode code 659 = .ok (.iload_n 3, 1) := by decide +kernel
theorem dL_law_660 : decode code 660 = .ok (.iconst 3, 1) := by decide +kernel
theorem dL_law_661 : decode code 661 = .ok (.iadd, 1) := by decide +kernel
theorem dL_law_662 : decode code 662 = .ok (.iaload, 1) := by decide +kernel
theorem dL_law_663 : decode code 663 = .ok (.aload_n 0, 1) := by decide +kernel
theorem dL_law_664 : decode code 664 = .ok (.iload_n 3, 1) := by decide +kernel
theorem dL_law_665 : decode code 665 = .ok (.iconst 4, 1) := by decide +kernel
theorem dL_law_666 : decode code 666 = .ok (.iadd, 1) := by decide +kernel
theorem dL_law_667 : decode code 667 = .ok (.iaload, 1) := by decide +kernel
theorem dL_law_668 : decode code 668 = .ok (.invokevirtual 74, 3) := by decide +kernel
theorem dL_law_671 : decode code 671 = .ok (.aload_n 2, 1) := by decide +kernel
theorem dL_law_672 : decode code 672 = .ok (.aload_n 0, 1) := by decide +kernel
theorem dL_law_673 : decode code 673 = .ok (.iload_n 3, 1) := by decide +kernel
theorem dL_law_674 : decode code 674 = .ok (.iconst 1, 1) := by decide +kernel
theorem dL_law_675 : decode code 675 = .ok (.iadd, 1) := by decide +kernel
theorem dL_law_676 : decode code 676 = .ok (.iaload, 1) := by decide +kernel
theorem dL_law_677 : decode code 677 = .ok (.aload_n 0, 1) := by decide +kernel
theorem dL_law_678 : decode code 678 = .ok (.iload_n 3, 1) := by decide +kernel
theorem dL_law_679 : decode code 679 = .ok (.iconst 2, 1) := by decide +kernel
theorem dL_law_680 : decode code 680 = .ok (.iadd, 1) := by decide +kernel
theorem dL_law_681 : decode code 681 = .ok (.iaload, 1) := by decide +kernel
theorem dL_law_682 : decode code 682 = .ok (.aload_n 0, 1) := by decide +kernel
theorem dL_law_683 : decode code 683 = .ok (.iload_n 3, 1) := by decide +kernel
theorem dL_law_684 : decode code 684 = .ok (.iconst 3, 1) := by decide +kernel
theorem dL_law_685 : decode code 685 = .ok (.iadd, 1) := by decide +kernel
theorem dL_law_686 : decode code 686 = .ok (.iaload, 1) := by decide +kernel
theorem dL_law_687 : decode code 687 = .ok (.aload_n 0, 1) := by decide +kernel
theorem dL_law_688 : decode code 688 = .ok (.iload_n 3, 1) := by decide +kernel
theorem dL_law_689 : decode code 689 = .ok (.iconst 4, 1) := by decide +kernel
theorem dL_law_690 : decode code 690 = .ok (.iadd, 1) := by decide +kernel
theorem dL_law_691 : decode code 691 = .ok (.iaload, 1) := by decide +kernel
theorem dL_law_692 : decode code 692 = .ok (.invokevirtual 77, 3) := by decide +kernel
theorem dL_law_695 : decode code 695 = .ok (.if_icmp .eq 460, 3) := by decide +kernel
theorem dL_law_698 : decode code 698 = .ok (.iconst 0, 1) := by decide +kernel
theorem dL_law_699 : decode code 699 = .ok (.ireturn, 1) := by decide +kernel
theorem dL_law_700 : decode code 700 = .ok (.aload_n 1, 1) := by decide +kernel
theorem dL_law_701 : decode code 701 = .ok (.aload_n 0, 1) := by decide +kernel
theorem dL_law_702 : decode code 702 = .ok (.iload_n 3, 1) := by decide +kernel
theorem dL_law_703 : decode code 703 = .ok (.iconst 1, 1) := by decide +kernel
theorem dL_law_704 : decode code 704 = .ok (.iadd, 1) := by decide +kernel
theorem dL_law_705 : decode code 705 = .ok (.iaload, 1) := by decide +kernel
theorem dL_law_706 : decode code 706 = .ok (.aload_n 0, 1) := by decide +kernel
theorem dL_law_707 : decode code 707 = .ok (.iload_n 3, 1) := by decide +kernel
theorem dL_law_708 : decode code 708 = .ok (.iconst 2, 1) := by decide +kernel
theorem dL_law_709 : decode code 709 = .ok (.iadd, 1) := by decide +kernel
theorem dL_law_710 : decode code 710 = .ok (.iaload, 1) := by decide +kernel
theorem dL_law_711 : decode code 711 = .ok (.aload_n 0, 1) := by decide +kernel
theorem dL_law_712 : decode code 712 = .ok (.iload_n 3, 1) := by decide +kernel
theorem dL_law_713 : decode code 713 = .ok (.iconst 3, 1) := by decide +kernel
theorem dL_law_714 : decode code 714 = .ok (.iadd, 1) := by decide +kernel
theorem dL_law_715 : decode code 715 = .ok (.iaload, 1) := by decide +kernel
theorem dL_law_716 : decode code 716 = .ok (.aload_n 0, 1) := by decide +kernel
theorem dL_law_717 : decode code 717 = .ok (.iload_n 3, 1) := by decide +kernel
theorem dL_law_718 : decode code 718 = .ok (.iconst 4, 1) := by decide +kernel
theorem dL_law_719 : decode code 719 = .ok (.iadd, 1) := by decide +kernel
theorem dL_law_720 : decode code 720 = .ok (.iaload, 1) := by decide +kernel
theorem dL_law_721 : decode code 721 = .ok (.invokevirtual 78, 3) := by decide +kernel
theorem dL_law_724 : decode code 724 = .ok (.aload_n 2, 1) := by decide +kernel
theorem dL_law_725 : decode code 725 = .ok (.aload_n 0, 1) := by decide +kernel
theorem dL_law_726 : decode code 726 = .ok (.iload_n 3, 1) := by decide +kernel
theorem dL_law_727 : decode code 727 = .ok (.iconst 1, 1) := by decide +kernel
theorem dL_law_728 : decode code 728 = .ok (.iadd, 1) := by decide +kernel
theorem dL_law_729 : decode code 729 = .ok (.iaload, 1) := by decide +kernel
theorem dL_law_730 : decode code 730 = .ok (.aload_n 0, 1) := by decide +kernel
theorem dL_law_731 : decode code 731 = .ok (.iload_n 3, 1) := by decide +kernel
theorem dL_law_732 : decode code 732 = .ok (.iconst 2, 1) := by decide +kernel
theorem dL_law_733 : decode code 733 = .ok (.iadd, 1) := by decide +kernel
theorem dL_law_734 : decode code 734 = .ok (.iaload, 1) := by decide +kernel
theorem dL_law_735 : decode code 735 = .ok (.aload_n 0, 1) := by decide +kernel
theorem dL_law_736 : decode code 736 = .ok (.iload_n 3, 1) := by decide +kernel
theorem dL_law_737 : decode code 737 = .ok (.iconst 3, 1) := by decide +kernel
theorem dL_law_738 : decode code 738 = .ok (.iadd, 1) := by decide +kernel
theorem dL_law_739 : decode code 739 = .ok (.iaload, 1) := by decide +kernel
theorem dL_law_740 : decode code 740 = .ok (.aload_n 0, 1) := by decide +kernel
theorem dL_law_741 : decode code 741 = .ok (.iload_n 3, 1) := by decide +kernel
theorem dL_law_742 : decode code 742 = .ok (.iconst 4, 1) := by decide +kernel
theorem dL_law_743 : decode code 743 = .ok (.iadd, 1) := by decide +kernel
theorem dL_law_744 : decode code 744 = .ok (.iaload, 1) := by decide +kernel
theorem dL_law_745 : decode code 745 = .ok (.invokevirtual 81, 3) := by decide +kernel
theorem dL_law_748 : decode code 748 = .ok (.if_icmp .eq 407, 3) := by decide +kernel
theorem dL_law_751 : decode code 751 = .ok (.iconst 0, 1) := by decide +kernel
theorem dL_law_752 : decode code 752 = .ok (.ireturn, 1) := by decide +kernel
theorem dL_law_753 : decode code 753 = .ok (.aload_n 1, 1) := by decide +kernel
theorem dL_law_754 : decode code 754 = .ok (.aload_n 0, 1) := by decide +kernel
theorem dL_law_755 : decode code 755 = .ok (.iload_n 3, 1) := by decide +kernel
theorem dL_law_756 : decode code 756 = .ok (.iconst 1, 1) := by decide +kernel
theorem dL_law_757 : decode code 757 = .ok (.iadd, 1) := by decide +kernel
theorem dL_law_758 : decode code 758 = .ok (.iaload, 1) := by decide +kernel
theorem dL_law_759 : decode code 759 = .ok (.aload_n 0, 1) := by decide +kernel
theorem dL_law_760 : decode code 760 = .ok (.iload_n 3, 1) := by decide +kernel
theorem dL_law_761 : decode code 761 = .ok (.iconst 2, 1) := by decide +kernel
theorem dL_law_762 : decode code 762 = .ok (.iadd, 1) := by decide +kernel
theorem dL_law_763 : decode code 763 = .ok (.iaload, 1) := by decide +kernel
theorem dL_law_764 : decode code 764 = .ok (.invokevirtual 82, 3) := by decide +kernel
theorem dL_law_767 : decode code 767 = .ok (.aload_n 2, 1) := by decide +kernel
theorem dL_law_768 : decode code 768 = .ok (.aload_n 0, 1) := by decide +kernel
theorem dL_law_769 : decode code 769 = .ok (.iload_n 3, 1) := by decide +kernel
theorem dL_law_770 : decode code 770 = .ok (.iconst 1, 1) := by decide +kernel
theorem dL_law_771 : decode code 771 = .ok (.iadd, 1) := by decide +kernel
theorem dL_law_772 : decode code 772 = .ok (.iaload, 1) := by decide +kernel
theorem dL_law_773 : decode code 773 = .ok (.aload_n 0, 1) := by decide +kernel
theorem dL_law_774 : decode code 774 = .ok (.iload_n 3, 1) := by decide +kernel
theorem dL_law_775 : decode code 775 = .ok (.iconst 2, 1) := by decide +kernel
theorem dL_law_776 : decode code 776 = .ok (.iadd, 1) := by decide +kernel
theorem dL_law_777 : decode code 777 = .ok (.iaload, 1) := by decide +kernel
theorem dL_law_778 : decode code 778 = .ok (.invokevirtual 85, 3) := by decide +kernel
theorem dL_law_781 : decode code 781 = .ok (.if_icmp .eq 374, 3) := by decide +kernel
theorem dL_law_784 : decode code 784 = .ok (.iconst 0, 1) := by decide +kernel
theorem dL_law_785 : decode code 785 = .ok (.ireturn, 1) := by decide +kernel
theorem dL_law_786 : decode code 786 = .ok (.aload_n 1, 1) := by decide +kernel
theorem dL_law_787 : decode code 787 = .ok (.aload_n 0, 1) := by decide +kernel
theorem dL_law_788 : decode code 788 = .ok (.iload_n 3, 1) := by decide +kernel
theorem dL_law_789 : decode code 789 = .ok (.iconst 1, 1) := by decide +kernel
theorem dL_law_790 : decode code 790 = .ok (.iadd, 1) := by decide +kernel
theorem dL_law_791 : decode code 791 = .ok (.iaload, 1) := by decide +kernel
theorem dL_law_792 : decode code 792 = .ok (.invokevirtual 86, 3) := by decide +kernel
theorem dL_law_795 : decode code 795 = .ok (.aload_n 2, 1) := by decide +kernel
theorem dL_law_796 : decode code 796 = .ok (.aload_n 0, 1) := by decide +kernel
theorem dL_law_797 : decode code 797 = .ok (.iload_n 3, 1) := by decide +kernel
theorem dL_law_798 : decode code 798 = .ok (.iconst 1, 1) := by decide +kernel
theorem dL_law_799 : decode code 799 = .ok (.iadd, 1) := by decide +kernel
theorem dL_law_800 : decode code 800 = .ok (.iaload, 1) := by decide +kernel
theorem dL_law_801 : decode code 801 = .ok (.invokevirtual 89, 3) := by decide +kernel
theorem dL_law_804 : decode code 804 = .ok (.if_icmp .eq 351, 3) := by decide +kernel
theorem dL_law_807 : decode code 807 = .ok (.iconst 0, 1) := by decide +kernel
theorem dL_law_808 : decode code 808 = .ok (.ireturn, 1) := by decide +kernel
theorem dL_law_809 : decode code 809 = .ok (.aload_n 1, 1) := by decide +kernel
theorem dL_law_810 : decode code 810 = .ok (.aload_n 0, 1) := by decide +kernel
theorem dL_law_811 : decode code 811 = .ok (.iload_n 3, 1) := by decide +kernel
theorem dL_law_812 : decode code 812 = .ok (.iconst 1, 1) := by decide +kernel
theorem dL_law_813 : decode code 813 = .ok (.iadd, 1) := by decide +kernel
theorem dL_law_814 : decode code 814 = .ok (.iaload, 1) := by decide +kernel
theorem dL_law_815 : decode code 815 = .ok (.aload_n 0, 1) := by decide +kernel
theorem dL_law_816 : decode code 816 = .ok (.iload_n 3, 1) := by decide +kernel
theorem dL_law_817 : decode code 817 = .ok (.iconst 2, 1) := by decide +kernel
theorem dL_law_818 : decode code 818 = .ok (.iadd, 1) := by decide +kernel
theorem dL_law_819 : decode code 819 = .ok (.iaload, 1) := by decide +kernel
theorem dL_law_820 : decode code 820 = .ok (.aload_n 0, 1) := by decide +kernel
theorem dL_law_821 : decode code 821 = .ok (.iload_n 3, 1) := by decide +kernel
theorem dL_law_822 : decode code 822 = .ok (.iconst 3, 1) := by decide +kernel
theorem dL_law_823 : decode code 823 = .ok (.iadd, 1) := by decide +kernel
theorem dL_law_824 : decode code 824 = .ok (.iaload, 1) := by decide +kernel
theorem dL_law_825 : decode code 825 = .ok (.invokevirtual 90, 3) := by decide +kernel
theorem dL_law_828 : decode code 828 = .ok (.aload_n 2, 1) := by decide +kernel
theorem dL_law_829 : decode code 829 = .ok (.aload_n 0, 1) := by decide +kernel
theorem dL_law_830 : decode code 830 = .ok (.iload_n 3, 1) := by decide +kernel
theorem dL_law_831 : decode code 831 = .ok (.iconst 1, 1) := by decide +kernel
theorem dL_law_832 : decode code 832 = .ok (.iadd, 1) := by decide +kernel
theorem dL_law_833 : decode code 833 = .ok (.iaload, 1) := by decide +kernel
theorem dL_law_834 : decode code 834 = .ok (.aload_n 0, 1) := by decide +kernel
theorem dL_law_835 : decode code 835 = .ok (.iload_n 3, 1) := by decide +kernel
theorem dL_law_836 : decode code 836 = .ok (.iconst 2, 1) := by decide +kernel
theorem dL_law_837 : decode code 837 = .ok (.iadd, 1) := by decide +kernel
theorem dL_law_838 : decode code 838 = .ok (.iaload, 1) := by decide +kernel
theorem dL_law_839 : decode code 839 = .ok (.aload_n 0, 1) := by decide +kernel
theorem dL_law_840 : decode code 840 = .ok (.iload_n 3, 1) := by decide +kernel
theorem dL_law_841 : decode code 841 = .ok (.iconst 3, 1) := by decide +kernel
theorem dL_law_842 : decode code 842 = .ok (.iadd, 1) := by decide +kernel
theorem dL_law_843 : decode code 843 = .ok (.iaload, 1) := by decide +kernel
theorem dL_law_844 : decode code 844 = .ok (.invokevirtual 93, 3) := by decide +kernel
theorem dL_law_847 : decode code 847 = .ok (.if_icmp .eq 308, 3) := by decide +kernel
theorem dL_law_850 : decode code 850 = .ok (.iconst 0, 1) := by decide +kernel
theorem dL_law_851 : decode code 851 = .ok (.ireturn, 1) := by decide +kernel
theorem dL_law_852 : decode code 852 = .ok (.aload_n 1, 1) := by decide +kernel
theorem dL_law_853 : decode code 853 = .ok (.aload_n 0, 1) := by decide +kernel
theorem dL_law_854 : decode code 854 = .ok (.iload_n 3, 1) := by decide +kernel
theorem dL_law_855 : decode code 855 = .ok (.iconst 1, 1) := by decide +kernel
theorem dL_law_856 : decode code 856 = .ok (.iadd, 1) := by decide +kernel
theorem dL_law_857 : decode code 857 = .ok (.iaload, 1) := by decide +kernel
theorem dL_law_858 : decode code 858 = .ok (.aload_n 0, 1) := by decide +kernel
theorem dL_law_859 : decode code 859 = .ok (.iload_n 3, 1) := by decide +kernel
theorem dL_law_860 : decode code 860 = .ok (.iconst 2, 1) := by decide +kernel
theorem dL_law_861 : decode code 861 = .ok (.iadd, 1) := by decide +kernel
theorem dL_law_862 : decode code 862 = .ok (.iaload, 1) := by decide +kernel
theorem dL_law_863 : decode code 863 = .ok (.aload_n 0, 1) := by decide +kernel
theorem dL_law_864 : decode code 864 = .ok (.iload_n 3, 1) := by decide +kernel
theorem dL_law_865 : decode code 865 = .ok (.iconst 3, 1) := by decide +kernel
theorem dL_law_866 : decode code 866 = .ok (.iadd, 1) := by decide +kernel
theorem dL_law_867 : decode code 867 = .ok (.iaload, 1) := by decide +kernel
theorem dL_law_868 : decode code 868 = .ok (.invokevirtual 94, 3) := by decide +kernel
theorem dL_law_871 : decode code 871 = .ok (.aload_n 2, 1) := by decide +kernel
theorem dL_law_872 : decode code 872 = .ok (.aload_n 0, 1) := by decide +kernel
theorem dL_law_873 : decode code 873 = .ok (.iload_n 3, 1) := by decide +kernel
theorem dL_law_874 : decode code 874 = .ok (.iconst 1, 1) := by decide +kernel
theorem dL_law_875 : decode code 875 = .ok (.iadd, 1) := by decide +kernel
theorem dL_law_876 : decode code 876 = .ok (.iaload, 1) := by decide +kernel
theorem dL_law_877 : decode code 877 = .ok (.aload_n 0, 1) := by decide +kernel
theorem dL_law_878 : decode code 878 = .ok (.iload_n 3, 1) := by decide +kernel
theorem dL_law_879 : decode code 879 = .ok (.iconst 2, 1) := by decide +kernel
theorem dL_law_880 : decode code 880 = .ok (.iadd, 1) := by decide +kernel
theorem dL_law_881 : decode code 881 = .ok (.iaload, 1) := by decide +kernel
theorem dL_law_882 : decode code 882 = .ok (.aload_n 0, 1) := by decide +kernel
theorem dL_law_883 : decode code 883 = .ok (.iload_n 3, 1) := by decide +kernel
theorem dL_law_884 : decode code 884 = .ok (.iconst 3, 1) := by decide +kernel
theorem dL_law_885 : decode code 885 = .ok (.iadd, 1) := by decide +kernel
theorem dL_law_886 : decode code 886 = .ok (.iaload, 1) := by decide +kernel
theorem dL_law_887 : decode code 887 = .ok (.invokevirtual 97, 3) := by decide +kernel
theorem dL_law_890 : decode code 890 = .ok (.if_icmp .eq 265, 3) := by decide +kernel
theorem dL_law_893 : decode code 893 = .ok (.iconst 0, 1) := by decide +kernel
theorem dL_law_894 : decode code 894 = .ok (.ireturn, 1) := by decide +kernel
theorem dL_law_895 : decode code 895 = .ok (.aload_n 1, 1) := by decide +kernel
theorem dL_law_896 : decode code 896 = .ok (.aload_n 0, 1) := by decide +kernel
theorem dL_law_897 : decode code 897 = .ok (.iload_n 3, 1) := by decide +kernel
theorem dL_law_898 : decode code 898 = .ok (.iconst 1, 1) := by decide +kernel
theorem dL_law_899 : decode code 899 = .ok (.iadd, 1) := by decide +kernel
theorem dL_law_900 : decode code 900 = .ok (.iaload, 1) := by decide +kernel
theorem dL_law_901 : decode code 901 = .ok (.aload_n 0, 1) := by decide +kernel
theorem dL_law_902 : decode code 902 = .ok (.iload_n 3, 1) := by decide +kernel
theorem dL_law_903 : decode code 903 = .ok (.iconst 2, 1) := by decide +kernel
theorem dL_law_904 : decode code 904 = .ok (.iadd, 1) := by decide +kernel
theorem dL_law_905 : decode code 905 = .ok (.iaload, 1) := by decide +kernel
theorem dL_law_906 : decode code 906 = .ok (.invokevirtual 98, 3) := by decide +kernel
theorem dL_law_909 : decode code 909 = .ok (.aload_n 2, 1) := by decide +kernel
theorem dL_law_910 : decode code 910 = .ok (.aload_n 0, 1) := by decide +kernel
theorem dL_law_911 : decode code 911 = .ok (.iload_n 3, 1) := by decide +kernel
theorem dL_law_912 : decode code 912 = .ok (.iconst 1, 1) := by decide +kernel
theorem dL_law_913 : decode code 913 = .ok (.iadd, 1) := by decide +kernel
theorem dL_law_914 : decode code 914 = .ok (.iaload, 1) := by decide +kernel
theorem dL_law_915 : decode code 915 = .ok (.aload_n 0, 1) := by decide +kernel
theorem dL_law_916 : decode code 916 = .ok (.iload_n 3, 1) := by decide +kernel
theorem dL_law_917 : decode code 917 = .ok (.iconst 2, 1) := by decide +kernel
theorem dL_law_918 : decode code 918 = .ok (.iadd, 1) := by decide +kernel
theorem dL_law_919 : decode code 919 = .ok (.iaload, 1) := by decide +kernel
theorem dL_law_920 : decode code 920 = .ok (.invokevirtual 101, 3) := by decide +kernel
theorem dL_law_923 : decode code 923 = .ok (.if_icmp .eq 232, 3) := by decide +kernel
theorem dL_law_926 : decode code 926 = .ok (.iconst 0, 1) := by decide +kernel
theorem dL_law_927 : decode code 927 = .ok (.ireturn, 1) := by decide +kernel
theorem dL_law_928 : decode code 928 = .ok (.aload_n 1, 1) := by decide +kernel
theorem dL_law_929 : decode code 929 = .ok (.aload_n 0, 1) := by decide +kernel
theorem dL_law_930 : decode code 930 = .ok (.iload_n 3, 1) := by decide +kernel
theorem dL_law_931 : decode code 931 = .ok (.iconst 1, 1) := by decide +kernel
theorem dL_law_932 : decode code 932 = .ok (.iadd, 1) := by decide +kernel
theorem dL_law_933 : decode code 933 = .ok (.iaload, 1) := by decide +kernel
theorem dL_law_934 : decode code 934 = .ok (.ifCond .eq 7, 3) := by decide +kernel
theorem dL_law_937 : decode code 937 = .ok (.iconst 1, 1) := by decide +kernel
theorem dL_law_938 : decode code 938 = .ok (.goto 4, 3) := by decide +kernel
theorem dL_law_941 : decode code 941 = .ok (.iconst 0, 1) := by decide +kernel
theorem dL_law_942 : decode code 942 = .ok (.aload_n 0, 1) := by decide +kernel
theorem dL_law_943 : decode code 943 = .ok (.iload_n 3, 1) := by decide +kernel
theorem dL_law_944 : decode code 944 = .ok (.iconst 2, 1) := by decide +kernel
theorem dL_law_945 : decode code 945 = .ok (.iadd, 1) := by decide +kernel
theorem dL_law_946 : decode code 946 = .ok (.iaload, 1) := by decide +kernel
theorem dL_law_947 : decode code 947 = .ok (.invokevirtual 102, 3) := by decide +kernel
theorem dL_law_950 : decode code 950 = .ok (.aload_n 2, 1) := by decide +kernel
theorem dL_law_951 : decode code 951 = .ok (.aload_n 0, 1) := by decide +kernel
theorem dL_law_952 : decode code 952 = .ok (.iload_n 3, 1) := by decide +kernel
theorem dL_law_953 : decode code 953 = .ok (.iconst 1, 1) := by decide +kernel
theorem dL_law_954 : decode code 954 = .ok (.iadd, 1) := by decide +kernel
theorem dL_law_955 : decode code 955 = .ok (.iaload, 1) := by decide +kernel
theorem dL_law_956 : decode code 956 = .ok (.ifCond .eq 7, 3) := by decide +kernel
theorem dL_law_959 : decode code 959 = .ok (.iconst 1, 1) := by decide +kernel
theorem dL_law_960 : decode code 960 = .ok (.goto 4, 3) := by decide +kernel
theorem dL_law_963 : decode code 963 = .ok (.iconst 0, 1) := by decide +kernel
theorem dL_law_964 : decode code 964 = .ok (.aload_n 0, 1) := by decide +kernel
theorem dL_law_965 : decode code 965 = .ok (.iload_n 3, 1) := by decide +kernel
theorem dL_law_966 : decode code 966 = .ok (.iconst 2, 1) := by decide +kernel
theorem dL_law_967 : decode code 967 = .ok (.iadd, 1) := by decide +kernel
theorem dL_law_968 : decode code 968 = .ok (.iaload, 1) := by decide +kernel
theorem dL_law_969 : decode code 969 = .ok (.invokevirtual 106, 3) := by decide +kernel
theorem dL_law_972 : decode code 972 = .ok (.if_icmp .eq 183, 3) := by decide +kernel
theorem dL_law_975 : decode code 975 = .ok (.iconst 0, 1) := by decide +kernel
theorem dL_law_976 : decode code 976 = .ok (.ireturn, 1) := by decide +kernel
theorem dL_law_977 : decode code 977 = .ok (.aload_n 1, 1) := by decide +kernel
theorem dL_law_978 : decode code 978 = .ok (.aload_n 0, 1) := by decide +kernel
theorem dL_law_979 : decode code 979 = .ok (.iload_n 3, 1) := by decide +kernel
theorem dL_law_980 : decode code 980 = .ok (.iconst 1, 1) := by decide +kernel
theorem dL_law_981 : decode code 981 = .ok (.iadd, 1) := by decide +kernel
theorem dL_law_982 : decode code 982 = .ok (.iaload, 1) := by decide +kernel
theorem dL_law_983 : decode code 983 = .ok (.invokevirtual 107, 3) := by decide +kernel
theorem dL_law_986 : decode code 986 = .ok (.aload_n 2, 1) := by decide +kernel
theorem dL_law_987 : decode code 987 = .ok (.aload_n 0, 1) := by decide +kernel
theorem dL_law_988 : decode code 988 = .ok (.iload_n 3, 1) := by decide +kernel
theorem dL_law_989 : decode code 989 = .ok (.iconst 1, 1) := by decide +kernel
theorem dL_law_990 : decode code 990 = .ok (.iadd, 1) := by decide +kernel
theorem dL_law_991 : decode code 991 = .ok (.iaload, 1) := by decide +kernel
theorem dL_law_992 : decode code 992 = .ok (.invokevirtual 110, 3) := by decide +kernel
theorem dL_law_995 : decode code 995 = .ok (.if_icmp .eq 160, 3) := by decide +kernel
theorem dL_law_998 : decode code 998 = .ok (.iconst 0, 1) := by decide +kernel
theorem dL_law_999 : decode code 999 = .ok (.ireturn, 1) := by decide +kernel
theorem dL_law_1000 : decode code 1000 = .ok (.aload_n 1, 1) := by decide +kernel
theorem dL_law_1001 : decode code 1001 = .ok (.aload_n 0, 1) := by decide +kernel
theorem dL_law_1002 : decode code 1002 = .ok (.iload_n 3, 1) := by decide +kernel
theorem dL_law_1003 : decode code 1003 = .ok (.iconst 1, 1) := by decide +kernel
theorem dL_law_1004 : decode code 1004 = .ok (.iadd, 1) := by decide +kernel
theorem dL_law_1005 : decode code 1005 = .ok (.iaload, 1) := by decide +kernel
theorem dL_law_1006 : decode code 1006 = .ok (.invokevirtual 111, 3) := by decide +kernel
theorem dL_law_1009 : decode code 1009 = .ok (.aload_n 2, 1) := by decide +kernel
theorem dL_law_1010 : decode code 1010 = .ok (.aload_n 0, 1) := by decide +kernel
theorem dL_law_1011 : decode code 1011 = .ok (.iload_n 3, 1) := by decide +kernel
theorem dL_law_1012 : decode code 1012 = .ok (.iconst 1, 1) := by decide +kernel
theorem dL_law_1013 : decode code 1013 = .ok (.iadd, 1) := by decide +kernel
theorem dL_law_1014 : decode code 1014 = .ok (.iaload, 1) := by decide +kernel
theorem dL_law_1015 : decode code 1015 = .ok (.invokevirtual 114, 3) := by decide +kernel
theorem dL_law_1018 : decode code 1018 = .ok (.if_icmp .eq 137, 3) := by decide +kernel
theorem dL_law_1021 : decode code 1021 = .ok (.iconst 0, 1) := by decide +kernel
theorem dL_law_1022 : decode code 1022 = .ok (.ireturn, 1) := by decide +kernel
theorem dL_law_1023 : decode code 1023 = .ok (.aload_n 1, 1) := by decide +kernel
theorem dL_law_1024 : decode code 1024 = .ok (.aload_n 0, 1) := by decide +kernel
theorem dL_law_1025 : decode code 1025 = .ok (.iload_n 3, 1) := by decide +kernel
theorem dL_law_1026 : decode code 1026 = .ok (.iconst 1, 1) := by decide +kernel
theorem dL_law_1027 : decode code 1027 = .ok (.iadd, 1) := by decide +kernel
theorem dL_law_1028 : decode code 1028 = .ok (.iaload, 1) := by decide +kernel
theorem dL_law_1029 : decode code 1029 = .ok (.aload_n 0, 1) := by decide +kernel
theorem dL_law_1030 : decode code 1030 = .ok (.iload_n 3, 1) := by decide +kernel
theorem dL_law_1031 : decode code 1031 = .ok (.iconst 2, 1) := by decide +kernel
theorem dL_law_1032 : decode code 1032 = .ok (.iadd, 1) := by decide +kernel
theorem dL_law_1033 : decode code 1033 = .ok (.iaload, 1) := by decide +kernel
theorem dL_law_1034 : decode code 1034 = .ok (.invokevirtual 115, 3) := by decide +kernel
theorem dL_law_1037 : decode code 1037 = .ok (.aload_n 2, 1) := by decide +kernel
theorem dL_law_1038 : decode code 1038 = .ok (.aload_n 0, 1) := by decide +kernel
theorem dL_law_1039 : decode code 1039 = .ok (.iload_n 3, 1) := by decide +kernel
theorem dL_law_1040 : decode code 1040 = .ok (.iconst 1, 1) := by decide +kernel
theorem dL_law_1041 : decode code 1041 = .ok (.iadd, 1) := by decide +kernel
theorem dL_law_1042 : decode code 1042 = .ok (.iaload, 1) := by decide +kernel
theorem dL_law_1043 : decode code 1043 = .ok (.aload_n 0, 1) := by decide +kernel
theorem dL_law_1044 : decode code 1044 = .ok (.iload_n 3, 1) := by decide +kernel
theorem dL_law_1045 : decode code 1045 = .ok (.iconst 2, 1) := by decide +kernel
theorem dL_law_1046 : decode code 1046 = .ok (.iadd, 1) := by decide +kernel
theorem dL_law_1047 : decode code 1047 = .ok (.iaload, 1) := by decide +kernel
theorem dL_law_1048 : decode code 1048 = .ok (.invokevirtual 118, 3) := by decide +kernel
theorem dL_law_1051 : decode code 1051 = .ok (.if_icmp .eq 104, 3) := by decide +kernel
theorem dL_law_1054 : decode code 1054 = .ok (.iconst 0, 1) := by decide +kernel
theorem dL_law_1055 : decode code 1055 = .ok (.ireturn, 1) := by decide +kernel
theorem dL_law_1056 : decode code 1056 = .ok (.aload_n 1, 1) := by decide +kernel
theorem dL_law_1057 : decode code 1057 = .ok (.aload_n 0, 1) := by decide +kernel
theorem dL_law_1058 : decode code 1058 = .ok (.iload_n 3, 1) := by decide +kernel
theorem dL_law_1059 : decode code 1059 = .ok (.iconst 1, 1) := by decide +kernel
theorem dL_law_1060 : decode code 1060 = .ok (.iadd, 1) := by decide +kernel
theorem dL_law_1061 : decode code 1061 = .ok (.iaload, 1) := by decide +kernel
theorem dL_law_1062 : decode code 1062 = .ok (.aload_n 0, 1) := by decide +kernel
theorem dL_law_1063 : decode code 1063 = .ok (.iload_n 3, 1) := by decide +kernel
theorem dL_law_1064 : decode code 1064 = .ok (.iconst 2, 1) := by decide +kernel
theorem dL_law_1065 : decode code 1065 = .ok (.iadd, 1) := by decide +kernel
theorem dL_law_1066 : decode code 1066 = .ok (.iaload, 1) := by decide +kernel
theorem dL_law_1067 : decode code 1067 = .ok (.invokevirtual 119, 3) := by decide +kernel
theorem dL_law_1070 : decode code 1070 = .ok (.aload_n 2, 1) := by decide +kernel
theorem dL_law_1071 : decode code 1071 = .ok (.aload_n 0, 1) := by decide +kernel
theorem dL_law_1072 : decode code 1072 = .ok (.iload_n 3, 1) := by decide +kernel
theorem dL_law_1073 : decode code 1073 = .ok (.iconst 1, 1) := by decide +kernel
theorem dL_law_1074 : decode code 1074 = .ok (.iadd, 1) := by decide +kernel
theorem dL_law_1075 : decode code 1075 = .ok (.iaload, 1) := by decide +kernel
theorem dL_law_1076 : decode code 1076 = .ok (.aload_n 0, 1) := by decide +kernel
theorem dL_law_1077 : decode code 1077 = .ok (.iload_n 3, 1) := by decide +kernel
theorem dL_law_1078 : decode code 1078 = .ok (.iconst 2, 1) := by decide +kernel
theorem dL_law_1079 : decode code 1079 = .ok (.iadd, 1) := by decide +kernel
theorem dL_law_1080 : decode code 1080 = .ok (.iaload, 1) := by decide +kernel
theorem dL_law_1081 : decode code 1081 = .ok (.invokevirtual 122, 3) := by decide +kernel
theorem dL_law_1084 : decode code 1084 = .ok (.if_icmp .eq 71, 3) := by decide +kernel
theorem dL_law_1087 : decode code 1087 = .ok (.iconst 0, 1) := by decide +kernel
theorem dL_law_1088 : decode code 1088 = .ok (.ireturn, 1) := by decide +kernel
theorem dL_law_1089 : decode code 1089 = .ok (.aload_n 1, 1) := by decide +kernel
theorem dL_law_1090 : decode code 1090 = .ok (.aload_n 0, 1) := by decide +kernel
theorem dL_law_1091 : decode code 1091 = .ok (.iload_n 3, 1) := by decide +kernel
theorem dL_law_1092 : decode code 1092 = .ok (.iconst 1, 1) := by decide +kernel
theorem dL_law_1093 : decode code 1093 = .ok (.iadd, 1) := by decide +kernel
theorem dL_law_1094 : decode code 1094 = .ok (.iaload, 1) := by decide +kernel
theorem dL_law_1095 : decode code 1095 = .ok (.aload_n 0, 1) := by decide +kernel
theorem dL_law_1096 : decode code 1096 = .ok (.iload_n 3, 1) := by decide +kernel
theorem dL_law_1097 : decode code 1097 = .ok (.iconst 2, 1) := by decide +kernel
theorem dL_law_1098 : decode code 1098 = .ok (.iadd, 1) := by decide +kernel
theorem dL_law_1099 : decode code 1099 = .ok (.iaload, 1) := by decide +kernel
theorem dL_law_1100 : decode code 1100 = .ok (.aload_n 0, 1) := by decide +kernel
theorem dL_law_1101 : decode code 1101 = .ok (.iload_n 3, 1) := by decide +kernel
theorem dL_law_1102 : decode code 1102 = .ok (.iconst 3, 1) := by decide +kernel
theorem dL_law_1103 : decode code 1103 = .ok (.iadd, 1) := by decide +kernel
theorem dL_law_1104 : decode code 1104 = .ok (.iaload, 1) := by decide +kernel
theorem dL_law_1105 : decode code 1105 = .ok (.invokevirtual 123, 3) := by decide +kernel
theorem dL_law_1108 : decode code 1108 = .ok (.aload_n 2, 1) := by decide +kernel
theorem dL_law_1109 : decode code 1109 = .ok (.aload_n 0, 1) := by decide +kernel
theorem dL_law_1110 : decode code 1110 = .ok (.iload_n 3, 1) := by decide +kernel
theorem dL_law_1111 : decode code 1111 = .ok (.iconst 1, 1) := by decide +kernel
theorem dL_law_1112 : decode code 1112 = .ok (.iadd, 1) := by decide +kernel
theorem dL_law_1113 : decode code 1113 = .ok (.iaload, 1) := by decide +kernel
theorem dL_law_1114 : decode code 1114 = .ok (.aload_n 0, 1) := by decide +kernel
theorem dL_law_1115 : decode code 1115 = .ok (.iload_n 3, 1) := by decide +kernel
theorem dL_law_1116 : decode code 1116 = .ok (.iconst 2, 1) := by decide +kernel
theorem dL_law_1117 : decode code 1117 = .ok (.iadd, 1) := by decide +kernel
theorem dL_law_1118 : decode code 1118 = .ok (.iaload, 1) := by decide +kernel
theorem dL_law_1119 : decode code 1119 = .ok (.aload_n 0, 1) := by decide +kernel
theorem dL_law_1120 : decode code 1120 = .ok (.iload_n 3, 1) := by decide +kernel
theorem dL_law_1121 : decode code 1121 = .ok (.iconst 3, 1) := by decide +kernel
theorem dL_law_1122 : decode code 1122 = .ok (.iadd, 1) := by decide +kernel
theorem dL_law_1123 : decode code 1123 = .ok (.iaload, 1) := by decide +kernel
theorem dL_law_1124 : decode code 1124 = .ok (.invokevirtual 126, 3) := by decide +kernel
theorem dL_law_1127 : decode code 1127 = .ok (.if_icmp .eq 28, 3) := by decide +kernel
theorem dL_law_1130 : decode code 1130 = .ok (.iconst 0, 1) := by decide +kernel
theorem dL_law_1131 : decode code 1131 = .ok (.ireturn, 1) := by decide +kernel
theorem dL_law_1132 : decode code 1132 = .ok (.aload_n 1, 1) := by decide +kernel
theorem dL_law_1133 : decode code 1133 = .ok (.aload_n 0, 1) := by decide +kernel
theorem dL_law_1134 : decode code 1134 = .ok (.iload_n 3, 1) := by decide +kernel
theorem dL_law_1135 : decode code 1135 = .ok (.iconst 1, 1) := by decide +kernel
theorem dL_law_1136 : decode code 1136 = .ok (.iadd, 1) := by decide +kernel
theorem dL_law_1137 : decode code 1137 = .ok (.iaload, 1) := by decide +kernel
theorem dL_law_1138 : decode code 1138 = .ok (.invokevirtual 127, 3) := by decide +kernel
theorem dL_law_1141 : decode code 1141 = .ok (.aload_n 2, 1) := by decide +kernel
theorem dL_law_1142 : decode code 1142 = .ok (.aload_n 0, 1) := by decide +kernel
theorem dL_law_1143 : decode code 1143 = .ok (.iload_n 3, 1) := by decide +kernel
theorem dL_law_1144 : decode code 1144 = .ok (.iconst 1, 1) := by decide +kernel
theorem dL_law_1145 : decode code 1145 = .ok (.iadd, 1) := by decide +kernel
theorem dL_law_1146 : decode code 1146 = .ok (.iaload, 1) := by decide +kernel
theorem dL_law_1147 : decode code 1147 = .ok (.invokevirtual 130, 3) := by decide +kernel
theorem dL_law_1150 : decode code 1150 = .ok (.if_icmp .eq 5, 3) := by decide +kernel
theorem dL_law_1153 : decode code 1153 = .ok (.iconst 0, 1) := by decide +kernel
theorem dL_law_1154 : decode code 1154 = .ok (.ireturn, 1) := by decide +kernel
theorem dL_law_1155 : decode code 1155 = .ok (.iinc 3 5, 3) := by decide +kernel
theorem dL_law_1158 : decode code 1158 = .ok (.goto (-1140), 3) := by decide +kernel
theorem dL_law_1161 : decode code 1161 = .ok (.iconst 1, 1) := by decide +kernel
theorem dL_law_1162 : decode code 1162 = .ok (.ireturn, 1) := by decide +kernel
def f_law (xs : Nat → Int32) (L : Nat) (σ : St) : Option Unit :=
  bd (zr σ 0) fun s1 =>
    (f_X9_init s1).bind fun s2 =>
      bd (zr s2 100) fun s3 =>
        (f_X10_init s3).bind fun s4 =>
          lo2 FU (fun rec7 (s5 : St) (x6 : Int32) =>
            (if ((nI L) - (5 : Int32)) < x6 then
              some ()
               else
              ck x6 L <|
                (if ((xs x6.toNatClampNeg) &&& (31 : Int32)) = 0 then
                  ck (x6 + (1 : Int32)) L <|
                    ck (x6 + (2 : Int32)) L <|
                      ck (x6 + (3 : Int32)) L <|
                        cal (f_X9_write s5 (((xs (x6 + (1 : Int32)).toNatClampNeg).toInt64 <<< ((32 : Int32).toInt64 &&& 63)) ||| ((xs (x6 + (2 : Int32)).toNatClampNeg).toInt64 &&& (4294967295 : Int64))) (xs (x6 + (3 : Int32)).toNatClampNeg)) fun r9 s10 =>
                          ck (x6 + (1 : Int32)) L <|
                            ck (x6 + (2 : Int32)) L <|
                              ck (x6 + (3 : Int32)) L <|
                                cal (f_X10_write s10 (((xs (x6 + (1 : Int32)).toNatClampNeg).toInt64 <<< ((32 : Int32).toInt64 &&& 63)) ||| ((xs (x6 + (2 : Int32)).toNatClampNeg).toInt64 &&& (4294967295 : Int64))) (xs (x6 + (3 : Int32)).toNatClampNeg)) fun r11 s12 =>
                                  (if r9 = r11 then
                                    rec7 s12 (x6 + 5)
                                     else
                                    none)
                   else
                  (if ((xs x6.toNatClampNeg) &&& (31 : Int32)) = 1 then
                    cal (f_X9_erase s5) fun r13 s14 =>
                      cal (f_X10_erase s14) fun r15 s16 =>
                        (if r13 = r15 then
                          rec7 s16 (x6 + 5)
                           else
                          none)
                     else
                    (if ((xs x6.toNatClampNeg) &&& (31 : Int32)) = 2 then
                      cal (f_X9_fault s5) fun r17 s18 =>
                        cal (f_X10_fault s18) fun r19 s20 =>
                          (if r17 = r19 then
                            rec7 s20 (x6 + 5)
                             else
                            none)
                       else
                      (if ((xs x6.toNatClampNeg) &&& (31 : Int32)) = 3 then
                        cal (f_X9_laid s5) fun r21 s22 =>
                          cal (f_X10_laid s22) fun r23 s24 =>
                            (if r21 = r23 then
                              rec7 s24 (x6 + 5)
                               else
                              none)
                         else
                        (if ((xs x6.toNatClampNeg) &&& (31 : Int32)) = 4 then
                          ck (x6 + (1 : Int32)) L <|
                            ck (x6 + (2 : Int32)) L <|
                              ck (x6 + (3 : Int32)) L <|
                                bd (if (xs (x6 + (3 : Int32)).toNatClampNeg) = 0 then (0 : Int32) else (1 : Int32)) fun x25 =>
                                  ck (x6 + (4 : Int32)) L <|
                                    bd (if (xs (x6 + (4 : Int32)).toNatClampNeg) = 0 then (0 : Int32) else (1 : Int32)) fun x27 =>
                                      cal (f_X9_road s5 (xs (x6 + (1 : Int32)).toNatClampNeg) (xs (x6 + (2 : Int32)).toNatClampNeg) x25 x27) fun r29 s30 =>
                                        ck (x6 + (1 : Int32)) L <|
                                          ck (x6 + (2 : Int32)) L <|
                                            ck (x6 + (3 : Int32)) L <|
                                              bd (if (xs (x6 + (3 : Int32)).toNatClampNeg) = 0 then (0 : Int32) else (1 : Int32)) fun x31 =>
                                                ck (x6 + (4 : Int32)) L <|
                                                  bd (if (xs (x6 + (4 : Int32)).toNatClampNeg) = 0 then (0 : Int32) else (1 : Int32)) fun x33 =>
                                                    cal (f_X10_road s30 (xs (x6 + (1 : Int32)).toNatClampNeg) (xs (x6 + (2 : Int32)).toNatClampNeg) x31 x33) fun r35 s36 =>
                                                      (if r29 = r35 then
                                                        rec7 s36 (x6 + 5)
                                                         else
                                                        none)
                           else
                          (if ((xs x6.toNatClampNeg) &&& (31 : Int32)) = 5 then
                            ck (x6 + (1 : Int32)) L <|
                              calP (f_X9_steps s5 (xs (x6 + (1 : Int32)).toNatClampNeg)) fun r37 =>
                                ck (x6 + (1 : Int32)) L <|
                                  calP (f_X10_steps s5 (xs (x6 + (1 : Int32)).toNatClampNeg)) fun r38 =>
                                    (if r37 = r38 then
                                      rec7 s5 (x6 + 5)
                                       else
                                      none)
                             else
                            (if ((xs x6.toNatClampNeg) &&& (31 : Int32)) = 6 then
                              ck (x6 + (1 : Int32)) L <|
                                ck (x6 + (2 : Int32)) L <|
                                  calP (f_X9_far s5 (xs (x6 + (1 : Int32)).toNatClampNeg) (xs (x6 + (2 : Int32)).toNatClampNeg)) fun r39 =>
                                    ck (x6 + (1 : Int32)) L <|
                                      ck (x6 + (2 : Int32)) L <|
                                        calP (f_X10_far s5 (xs (x6 + (1 : Int32)).toNatClampNeg) (xs (x6 + (2 : Int32)).toNatClampNeg)) fun r40 =>
                                          (if r39 = r40 then
                                            rec7 s5 (x6 + 5)
                                             else
                                            none)
                               else
                              (if ((xs x6.toNatClampNeg) &&& (31 : Int32)) = 7 then
                                ck (x6 + (1 : Int32)) L <|
                                  ck (x6 + (2 : Int32)) L <|
                                    ck (x6 + (3 : Int32)) L <|
                                      ck (x6 + (4 : Int32)) L <|
                                        cal (f_X9_rounds s5 (xs (x6 + (1 : Int32)).toNatClampNeg) (xs (x6 + (2 : Int32)).toNatClampNeg) (xs (x6 + (3 : Int32)).toNatClampNeg) (xs (x6 + (4 : Int32)).toNatClampNeg)) fun r41 s42 =>
                                          ck (x6 + (1 : Int32)) L <|
                                            ck (x6 + (2 : Int32)) L <|
                                              ck (x6 + (3 : Int32)) L <|
                                                ck (x6 + (4 : Int32)) L <|
                                                  cal (f_X10_rounds s42 (xs (x6 + (1 : Int32)).toNatClampNeg) (xs (x6 + (2 : Int32)).toNatClampNeg) (xs (x6 + (3 : Int32)).toNatClampNeg) (xs (x6 + (4 : Int32)).toNatClampNeg)) fun r43 s44 =>
                                                    (if r41 = r43 then
                                                      rec7 s44 (x6 + 5)
                                                       else
                                                      none)
                                 else
                                (if ((xs x6.toNatClampNeg) &&& (31 : Int32)) = 8 then
                                  ck (x6 + (1 : Int32)) L <|
                                    ck (x6 + (2 : Int32)) L <|
                                      ck (x6 + (3 : Int32)) L <|
                                        cal (f_X9_worth s5 (xs (x6 + (1 : Int32)).toNatClampNeg) (xs (x6 + (2 : Int32)).toNatClampNeg) (xs (x6 + (3 : Int32)).toNatClampNeg)) fun r45 s46 =>
                                          ck (x6 + (1 : Int32)) L <|
                                            ck (x6 + (2 : Int32)) L <|
                                              ck (x6 + (3 : Int32)) L <|
                                                cal (f_X10_worth s46 (xs (x6 + (1 : Int32)).toNatClampNeg) (xs (x6 + (2 : Int32)).toNatClampNeg) (xs (x6 + (3 : Int32)).toNatClampNeg)) fun r47 s48 =>
                                                  (if r45 = r47 then
                                                    rec7 s48 (x6 + 5)
                                                     else
                                                    none)
                                   else
                                  (if ((xs x6.toNatClampNeg) &&& (31 : Int32)) = 9 then
                                    ck (x6 + (1 : Int32)) L <|
                                      ck (x6 + (2 : Int32)) L <|
                                        ck (x6 + (3 : Int32)) L <|
                                          cal (f_X9_best s5 (xs (x6 + (1 : Int32)).toNatClampNeg) (xs (x6 + (2 : Int32)).toNatClampNeg) (xs (x6 + (3 : Int32)).toNatClampNeg)) fun r49 s50 =>
                                            ck (x6 + (1 : Int32)) L <|
                                              ck (x6 + (2 : Int32)) L <|
                                                ck (x6 + (3 : Int32)) L <|
                                                  cal (f_X10_best s50 (xs (x6 + (1 : Int32)).toNatClampNeg) (xs (x6 + (2 : Int32)).toNatClampNeg) (xs (x6 + (3 : Int32)).toNatClampNeg)) fun r51 s52 =>
                                                    (if r49 = r51 then
                                                      rec7 s52 (x6 + 5)
                                                       else
                                                      none)
                                     else
                                    (if ((xs x6.toNatClampNeg) &&& (31 : Int32)) = 10 then
                                      ck (x6 + (1 : Int32)) L <|
                                        cal (f_X9_fewest s5 (xs (x6 + (1 : Int32)).toNatClampNeg)) fun r53 s54 =>
                                          ck (x6 + (1 : Int32)) L <|
                                            cal (f_X10_fewest s54 (xs (x6 + (1 : Int32)).toNatClampNeg)) fun r55 s56 =>
                                              (if r53 = r55 then
                                                rec7 s56 (x6 + 5)
                                                 else
                                                none)
                                       else
                                      (if ((xs x6.toNatClampNeg) &&& (31 : Int32)) = 11 then
                                        ck (x6 + (1 : Int32)) L <|
                                          ck (x6 + (2 : Int32)) L <|
                                            cal (f_X9_escapes s5 (xs (x6 + (1 : Int32)).toNatClampNeg) (xs (x6 + (2 : Int32)).toNatClampNeg)) fun r57 s58 =>
                                              ck (x6 + (1 : Int32)) L <|
                                                ck (x6 + (2 : Int32)) L <|
                                                  cal (f_X10_escapes s58 (xs (x6 + (1 : Int32)).toNatClampNeg) (xs (x6 + (2 : Int32)).toNatClampNeg)) fun r59 s60 =>
                                                    (if r57 = r59 then
                                                      rec7 s60 (x6 + 5)
                                                       else
                                                      none)
                                         else
                                        (if ((xs x6.toNatClampNeg) &&& (31 : Int32)) = 12 then
                                          ck (x6 + (1 : Int32)) L <|
                                            ck (x6 + (2 : Int32)) L <|
                                              ck (x6 + (3 : Int32)) L <|
                                                ck (x6 + (4 : Int32)) L <|
                                                  cal (f_X9_hunt s5 (xs (x6 + (1 : Int32)).toNatClampNeg) (xs (x6 + (2 : Int32)).toNatClampNeg) (xs (x6 + (3 : Int32)).toNatClampNeg) (xs (x6 + (4 : Int32)).toNatClampNeg)) fun r61 s62 =>
                                                    ck (x6 + (1 : Int32)) L <|
                                                      ck (x6 + (2 : Int32)) L <|
                                                        ck (x6 + (3 : Int32)) L <|
                                                          ck (x6 + (4 : Int32)) L <|
                                                            cal (f_X10_hunt s62 (xs (x6 + (1 : Int32)).toNatClampNeg) (xs (x6 + (2 : Int32)).toNatClampNeg) (xs (x6 + (3 : Int32)).toNatClampNeg) (xs (x6 + (4 : Int32)).toNatClampNeg)) fun r63 s64 =>
                                                              (if r61 = r63 then
                                                                rec7 s64 (x6 + 5)
                                                                 else
                                                                none)
                                           else
                                          (if ((xs x6.toNatClampNeg) &&& (31 : Int32)) = 13 then
                                            ck (x6 + (1 : Int32)) L <|
                                              ck (x6 + (2 : Int32)) L <|
                                                ck (x6 + (3 : Int32)) L <|
                                                  ck (x6 + (4 : Int32)) L <|
                                                    cal (f_X9_flee s5 (xs (x6 + (1 : Int32)).toNatClampNeg) (xs (x6 + (2 : Int32)).toNatClampNeg) (xs (x6 + (3 : Int32)).toNatClampNeg) (xs (x6 + (4 : Int32)).toNatClampNeg)) fun r65 s66 =>
                                                      ck (x6 + (1 : Int32)) L <|
                                                        ck (x6 + (2 : Int32)) L <|
                                                          ck (x6 + (3 : Int32)) L <|
                                                            ck (x6 + (4 : Int32)) L <|
                                                              cal (f_X10_flee s66 (xs (x6 + (1 : Int32)).toNatClampNeg) (xs (x6 + (2 : Int32)).toNatClampNeg) (xs (x6 + (3 : Int32)).toNatClampNeg) (xs (x6 + (4 : Int32)).toNatClampNeg)) fun r67 s68 =>
                                                                (if r65 = r67 then
                                                                  rec7 s68 (x6 + 5)
                                                                   else
                                                                  none)
                                             else
                                            (if ((xs x6.toNatClampNeg) &&& (31 : Int32)) = 14 then
                                              ck (x6 + (1 : Int32)) L <|
                                                ck (x6 + (2 : Int32)) L <|
                                                  ck (x6 + (3 : Int32)) L <|
                                                    ck (x6 + (4 : Int32)) L <|
                                                      cal (f_X9_play s5 (xs (x6 + (1 : Int32)).toNatClampNeg) (xs (x6 + (2 : Int32)).toNatClampNeg) (xs (x6 + (3 : Int32)).toNatClampNeg) (xs (x6 + (4 : Int32)).toNatClampNeg)) fun r69 s70 =>
                                                        ck (x6 + (1 : Int32)) L <|
                                                          ck (x6 + (2 : Int32)) L <|
                                                            ck (x6 + (3 : Int32)) L <|
                                                              ck (x6 + (4 : Int32)) L <|
                                                                cal (f_X10_play s70 (xs (x6 + (1 : Int32)).toNatClampNeg) (xs (x6 + (2 : Int32)).toNatClampNeg) (xs (x6 + (3 : Int32)).toNatClampNeg) (xs (x6 + (4 : Int32)).toNatClampNeg)) fun r71 s72 =>
                                                                  (if r69 = r71 then
                                                                    rec7 s72 (x6 + 5)
                                                                     else
                                                                    none)
                                               else
                                              (if ((xs x6.toNatClampNeg) &&& (31 : Int32)) = 15 then
                                                ck (x6 + (1 : Int32)) L <|
                                                  ck (x6 + (2 : Int32)) L <|
                                                    cal (f_X9_turn s5 (xs (x6 + (1 : Int32)).toNatClampNeg) (xs (x6 + (2 : Int32)).toNatClampNeg)) fun r73 s74 =>
                                                      ck (x6 + (1 : Int32)) L <|
                                                        ck (x6 + (2 : Int32)) L <|
                                                          cal (f_X10_turn s74 (xs (x6 + (1 : Int32)).toNatClampNeg) (xs (x6 + (2 : Int32)).toNatClampNeg)) fun r75 s76 =>
                                                            (if r73 = r75 then
                                                              rec7 s76 (x6 + 5)
                                                               else
                                                              none)
                                                 else
                                                (if ((xs x6.toNatClampNeg) &&& (31 : Int32)) = 16 then
                                                  ck (x6 + (1 : Int32)) L <|
                                                    calP (f_X9_now s5 (xs (x6 + (1 : Int32)).toNatClampNeg)) fun r77 =>
                                                      ck (x6 + (1 : Int32)) L <|
                                                        cal (f_X10_now s5 (xs (x6 + (1 : Int32)).toNatClampNeg)) fun r78 s79 =>
                                                          (if r77 = r78 then
                                                            rec7 s79 (x6 + 5)
                                                             else
                                                            none)
                                                   else
                                                  (if ((xs x6.toNatClampNeg) &&& (31 : Int32)) = 17 then
                                                    ck (x6 + (1 : Int32)) L <|
                                                      ck (x6 + (2 : Int32)) L <|
                                                        ck (x6 + (3 : Int32)) L <|
                                                          calP (f_X9_spread s5 (xs (x6 + (1 : Int32)).toNatClampNeg) (xs (x6 + (2 : Int32)).toNatClampNeg) (xs (x6 + (3 : Int32)).toNatClampNeg)) fun r80 =>
                                                            ck (x6 + (1 : Int32)) L <|
                                                              ck (x6 + (2 : Int32)) L <|
                                                                ck (x6 + (3 : Int32)) L <|
                                                                  cal (f_X10_spread s5 (xs (x6 + (1 : Int32)).toNatClampNeg) (xs (x6 + (2 : Int32)).toNatClampNeg) (xs (x6 + (3 : Int32)).toNatClampNeg)) fun r81 s82 =>
                                                                    (if r80 = r81 then
                                                                      rec7 s82 (x6 + 5)
                                                                       else
                                                                      none)
                                                     else
                                                    (if ((xs x6.toNatClampNeg) &&& (31 : Int32)) = 18 then
                                                      ck (x6 + (1 : Int32)) L <|
                                                        ck (x6 + (2 : Int32)) L <|
                                                          ck (x6 + (3 : Int32)) L <|
                                                            cal (f_X9_clear s5 (xs (x6 + (1 : Int32)).toNatClampNeg) (xs (x6 + (2 : Int32)).toNatClampNeg) (xs (x6 + (3 : Int32)).toNatClampNeg)) fun r83 s84 =>
                                                              ck (x6 + (1 : Int32)) L <|
                                                                ck (x6 + (2 : Int32)) L <|
                                                                  ck (x6 + (3 : Int32)) L <|
                                                                    cal (f_X10_clear s84 (xs (x6 + (1 : Int32)).toNatClampNeg) (xs (x6 + (2 : Int32)).toNatClampNeg) (xs (x6 + (3 : Int32)).toNatClampNeg)) fun r85 s86 =>
                                                                      (if r83 = r85 then
                                                                        rec7 s86 (x6 + 5)
                                                                         else
                                                                        none)
                                                       else
                                                      (if ((xs x6.toNatClampNeg) &&& (31 : Int32)) = 19 then
                                                        ck (x6 + (1 : Int32)) L <|
                                                          ck (x6 + (2 : Int32)) L <|
                                                            cal (f_X9_free s5 (xs (x6 + (1 : Int32)).toNatClampNeg) (xs (x6 + (2 : Int32)).toNatClampNeg)) fun r87 s88 =>
                                                              ck (x6 + (1 : Int32)) L <|
                                                                ck (x6 + (2 : Int32)) L <|
                                                                  cal (f_X10_free s88 (xs (x6 + (1 : Int32)).toNatClampNeg) (xs (x6 + (2 : Int32)).toNatClampNeg)) fun r89 s90 =>
                                                                    (if r87 = r89 then
                                                                      rec7 s90 (x6 + 5)
                                                                       else
                                                                      none)
                                                         else
                                                        (if ((xs x6.toNatClampNeg) &&& (31 : Int32)) = 20 then
                                                          ck (x6 + (1 : Int32)) L <|
                                                            bd (if (xs (x6 + (1 : Int32)).toNatClampNeg) = 0 then (0 : Int32) else (1 : Int32)) fun x91 =>
                                                              ck (x6 + (2 : Int32)) L <|
                                                                cal (f_X9_flying s5 x91 (xs (x6 + (2 : Int32)).toNatClampNeg)) fun r93 s94 =>
                                                                  ck (x6 + (1 : Int32)) L <|
                                                                    bd (if (xs (x6 + (1 : Int32)).toNatClampNeg) = 0 then (0 : Int32) else (1 : Int32)) fun x95 =>
                                                                      ck (x6 + (2 : Int32)) L <|
                                                                        cal (f_X10_flying s94 x95 (xs (x6 + (2 : Int32)).toNatClampNeg)) fun r97 s98 =>
                                                                          (if r93 = r97 then
                                                                            rec7 s98 (x6 + 5)
                                                                             else
                                                                            none)
                                                           else
                                                          (if ((xs x6.toNatClampNeg) &&& (31 : Int32)) = 21 then
                                                            ck (x6 + (1 : Int32)) L <|
                                                              calP (f_X9_away s5 (xs (x6 + (1 : Int32)).toNatClampNeg)) fun r99 =>
                                                                ck (x6 + (1 : Int32)) L <|
                                                                  cal (f_X10_away s5 (xs (x6 + (1 : Int32)).toNatClampNeg)) fun r100 s101 =>
                                                                    (if r99 = r100 then
                                                                      rec7 s101 (x6 + 5)
                                                                       else
                                                                      none)
                                                             else
                                                            (if ((xs x6.toNatClampNeg) &&& (31 : Int32)) = 22 then
                                                              ck (x6 + (1 : Int32)) L <|
                                                                calP (f_X9_least s5 (xs (x6 + (1 : Int32)).toNatClampNeg)) fun r102 =>
                                                                  ck (x6 + (1 : Int32)) L <|
                                                                    calP (f_X10_least s5 (xs (x6 + (1 : Int32)).toNatClampNeg)) fun r103 =>
                                                                      (if r102 = r103 then
                                                                        rec7 s5 (x6 + 5)
                                                                         else
                                                                        none)
                                                               else
                                                              (if ((xs x6.toNatClampNeg) &&& (31 : Int32)) = 23 then
                                                                ck (x6 + (1 : Int32)) L <|
                                                                  ck (x6 + (2 : Int32)) L <|
                                                                    cal (f_X9_safe s5 (xs (x6 + (1 : Int32)).toNatClampNeg) (xs (x6 + (2 : Int32)).toNatClampNeg)) fun r104 s105 =>
                                                                      ck (x6 + (1 : Int32)) L <|
                                                                        ck (x6 + (2 : Int32)) L <|
                                                                          cal (f_X10_safe s105 (xs (x6 + (1 : Int32)).toNatClampNeg) (xs (x6 + (2 : Int32)).toNatClampNeg)) fun r106 s107 =>
                                                                            (if r104 = r106 then
                                                                              rec7 s107 (x6 + 5)
                                                                               else
                                                                              none)
                                                                 else
                                                                (if ((xs x6.toNatClampNeg) &&& (31 : Int32)) = 24 then
                                                                  ck (x6 + (1 : Int32)) L <|
                                                                    ck (x6 + (2 : Int32)) L <|
                                                                      cal (f_X9_guards s5 (xs (x6 + (1 : Int32)).toNatClampNeg) (xs (x6 + (2 : Int32)).toNatClampNeg)) fun r108 s109 =>
                                                                        ck (x6 + (1 : Int32)) L <|
                                                                          ck (x6 + (2 : Int32)) L <|
                                                                            cal (f_X10_guards s109 (xs (x6 + (1 : Int32)).toNatClampNeg) (xs (x6 + (2 : Int32)).toNatClampNeg)) fun r110 s111 =>
                                                                              (if r108 = r110 then
                                                                                rec7 s111 (x6 + 5)
                                                                                 else
                                                                                none)
                                                                   else
                                                                  (if ((xs x6.toNatClampNeg) &&& (31 : Int32)) = 25 then
                                                                    ck (x6 + (1 : Int32)) L <|
                                                                      ck (x6 + (2 : Int32)) L <|
                                                                        ck (x6 + (3 : Int32)) L <|
                                                                          cal (f_X9_answer s5 (xs (x6 + (1 : Int32)).toNatClampNeg) (xs (x6 + (2 : Int32)).toNatClampNeg) (xs (x6 + (3 : Int32)).toNatClampNeg)) fun r112 s113 =>
                                                                            ck (x6 + (1 : Int32)) L <|
                                                                              ck (x6 + (2 : Int32)) L <|
                                                                                ck (x6 + (3 : Int32)) L <|
                                                                                  cal (f_X10_answer s113 (xs (x6 + (1 : Int32)).toNatClampNeg) (xs (x6 + (2 : Int32)).toNatClampNeg) (xs (x6 + (3 : Int32)).toNatClampNeg)) fun r114 s115 =>
                                                                                    (if r112 = r114 then
                                                                                      rec7 s115 (x6 + 5)
                                                                                       else
                                                                                      none)
                                                                     else
                                                                    (if ((xs x6.toNatClampNeg) &&& (31 : Int32)) = 26 then
                                                                      ck (x6 + (1 : Int32)) L <|
                                                                        calP (f_X9_count s5 (xs (x6 + (1 : Int32)).toNatClampNeg)) fun r116 =>
                                                                          ck (x6 + (1 : Int32)) L <|
                                                                            calP (f_X10_count s5 (xs (x6 + (1 : Int32)).toNatClampNeg)) fun r117 =>
                                                                              (if r116 = r117 then
                                                                                rec7 s5 (x6 + 5)
                                                                                 else
                                                                                none)
                                                                       else
                                                                      rec7 s5 (x6 + 5)))))))))))))))))))))))))))))) s4 (0 : Int32)
set_option maxHeartbeats 8000000 in
set_option maxRecDepth 100000 in
theorem law_sim (Γ : Gm) (E : Ev) (σ : St) (b L : Nat) (xs : Nat → Int32) (hargs : Γ.2.2.2.2.2.1 = #[Value.ref b]) (hX : va_X b L xs Γ.2.2.2.1 Γ.2.2.2.1.heap) (hbl : b < Γ.2.2.2.1.heap.size) (hE : Eok E) (hR : Rok E) (hE0 : E.2.2.2.1 = []) : Sim (fun (_ : Unit) => lw_Z Γ.2.2.2.2.2.2.1 #[Value.ref b] Γ.2.2.2.1) Γ (fun q => Γ.2.2.2.1.heap.size ≤ q, 0, 0) E md_law σ 0 [(0, .ref b)] [] (f_law xs L σ) := by
  have hq : ∀ q, Γ.2.2.2.1.heap.size ≤ q → (fun q => Γ.2.2.2.1.heap.size ≤ q) q := fun _ h => h
  have hbA : ¬ (fun q => Γ.2.2.2.1.heap.size ≤ q) b := Nat.not_le.mpr hbl
  have hno : ∀ a, a ∉ E.2.2.2.1 := fun a h => by rw [hE0] at h; cases h
  unfold f_law
  have hX0 : Ext E E [] [] := Ext.rf hE hR
  refine k_new (a := 0) (ci := 9) (fun F => [(0, .ref b)]) (fun F => []) rfl rfl hq (xoN hX0) (xfN hX0 (hno 0) (by decide)) (by decide) rfl rfl inX9 tyX9_ok (dfX9 rfl) rfl w_108 w_109 w_88 1 10 (by decide) (by decide) (Nat.le_of_ble_eq_true rfl) (Nat.le_of_ble_eq_true rfl) dL_law_0 (fun _ e => ⟨rfl, rfl⟩) (fun E1 s1 e1 => ?_)
  have hX1 : Ext E E1 [0] [] := hX0.trans e1
  refine s_dup dL_law_3 rfl ?_
  refine k_call (As := []) (fun F => [(0, .ref b)]) (fun F => [rV F 0]) rfl rfl (by intro b hb; simp; try omega) if_X9_init hq (xoN hX1) ml_L_9 rfl (c_X9_init _ E1 (xmN hX1 (by simp)) (xfN hX1 (hno 1) (by decide)) (xfN hX1 (hno 2) (by decide)) (xfN hX1 (hno 3) (by decide)) (xfN hX1 (hno 4) (by decide)) (xfN hX1 (hno 5) (by decide)) (xfN hX1 (hno 6) (by decide)) (xfN hX1 (hno 7) (by decide)) (xfN hX1 (hno 8) (by decide)) (xfN hX1 (hno 9) (by decide)) (xfN hX1 (hno 10) (by decide)) (xfN hX1 (hno 11) (by decide)) (xfN hX1 (hno 12) (by decide)) (xfN hX1 (hno 32) (by decide)) (xfN hX1 (hno 33) (by decide)) (xfN hX1 (hno 40) (by decide)) (xfN hX1 (hno 41) (by decide)) (xfN hX1 (hno 42) (by decide)) (xfN hX1 (hno 43) (by decide)) (xfN hX1 (hno 44) (by decide)) (xfN hX1 (hno 45) (by decide)) (xfN hX1 (hno 46) (by decide)) (xfN hX1 (hno 47) (by decide)) (xfN hX1 (hno 48) (by decide)) (xfN hX1 (hno 49) (by decide)) (xfN hX1 (hno 50) (by decide)) (xfN hX1 (hno 51) (by decide)) (xfN hX1 (hno 52) (by decide)) (xfN hX1 (hno 53) (by decide)) (xfN hX1 (hno 54) (by decide)) (xfN hX1 (hno 34) (by decide)) (xfN hX1 (hno 35) (by decide)) (xfN hX1 (hno 55) (by decide)) (xfN hX1 (hno 56) (by decide)) (xfN hX1 (hno 57) (by decide)) (xfN hX1 (hno 58) (by decide)) (xfN hX1 (hno 59) (by decide)) (xfN hX1 (hno 60) (by decide)) (xfN hX1 (hno 61) (by decide)) (xfN hX1 (hno 62) (by decide)) (xfN hX1 (hno 63) (by decide)) (xfN hX1 (hno 64) (by decide)) (xfN hX1 (hno 65) (by decide)) (xfN hX1 (hno 66) (by decide)) (xfN hX1 (hno 67) (by decide)) (xfN hX1 (hno 68) (by decide)) (xfN hX1 (hno 69) (by decide)) (xfN hX1 (hno 36) (by decide)) (xfN hX1 (hno 37) (by decide)) (xfN hX1 (hno 70) (by decide)) (xfN hX1 (hno 71) (by decide)) (xfN hX1 (hno 72) (by decide)) (xfN hX1 (hno 73) (by decide)) (xfN hX1 (hno 74) (by decide)) (xfN hX1 (hno 75) (by decide)) (xfN hX1 (hno 76) (by decide)) (xfN hX1 (hno 77) (by decide)) (xfN hX1 (hno 78) (by decide)) (xfN hX1 (hno 79) (by decide)) (xfN hX1 (hno 80) (by decide)) (xfN hX1 (hno 81) (by decide)) (xfN hX1 (hno 82) (by decide)) (xfN hX1 (hno 83) (by decide)) (xfN hX1 (hno 84) (by decide)) (xfN hX1 (hno 13) (by decide)) (xfN hX1 (hno 14) (by decide)) (xfN hX1 (hno 15) (by decide)) (xfN hX1 (hno 16) (by decide)) (xfN hX1 (hno 17) (by decide)) (xfN hX1 (hno 18) (by decide)) (xfN hX1 (hno 19) (by decide)) (xfN hX1 (hno 20) (by decide)) (xfN hX1 (hno 21) (by decide)) (xfN hX1 (hno 22) (by decide)) (xfN hX1 (hno 23) (by decide)) (xfN hX1 (hno 24) (by decide)) (xfN hX1 (hno 25) (by decide)) (xfN hX1 (hno 26) (by decide)) (xfN hX1 (hno 27) (by decide)) (xfN hX1 (hno 28) (by decide)) (xfN hX1 (hno 29) (by decide)) (xfN hX1 (hno 30) (by decide)) (xfN hX1 (hno 31) (by decide)) s1) rfl rfl (Nat.le_of_ble_eq_true rfl) 83 29480 (by decide) (by decide) (Nat.le_of_ble_eq_true rfl) (Nat.le_of_ble_eq_true rfl) dL_law_4 (fun _ e => ⟨rfl, by simp only [rV, xaN e 0 (by decide)]⟩) (fun E2 s2 e2 => ?_)
  have hX2 : Ext E E2 [0, 1, 2, 3, 4, 5, 6, 7, 8, 9, 10, 11, 12, 32, 33, 40, 41, 42, 43, 44, 45, 46, 47, 48, 49, 50, 51, 52, 53, 54, 34, 35, 55, 56, 57, 58, 59, 60, 61, 62, 63, 64, 65, 66, 67, 68, 69, 36, 37, 70, 71, 72, 73, 74, 75, 76, 77, 78, 79, 80, 81, 82, 83, 84, 13, 14, 15, 16, 17, 18, 19, 20, 21, 22, 23, 24, 25, 26, 27, 28, 29, 30, 31] [(1, 2), (1, 3), (1, 4), (1, 5), (0, 0), (6, 0), (6, 6), (6, 7), (6, 8), (0, 1), (0, 2), (0, 3), (32, 0), (32, 3), (11, 0), (40, 0), (40, 1), (40, 3), (40, 4), (40, 5), (40, 6), (12, 0), (45, 0), (45, 1), (45, 3), (45, 4), (45, 5), (45, 6), (12, 1), (50, 0), (50, 1), (50, 3), (50, 4), (50, 5), (50, 6), (12, 2), (34, 0), (34, 3), (11, 1), (55, 0), (55, 1), (55, 3), (55, 4), (55, 5), (55, 6), (12, 3), (60, 0), (60, 1), (60, 3), (60, 4), (60, 5), (60, 6), (12, 4), (65, 0), (65, 1), (65, 3), (65, 4), (65, 5), (65, 6), (12, 5), (36, 0), (36, 3), (11, 2), (70, 0), (70, 1), (70, 3), (70, 4), (70, 5), (70, 6), (12, 6), (75, 0), (75, 1), (75, 3), (75, 4), (75, 5), (75, 6), (12, 7), (80, 0), (80, 1), (80, 3), (80, 4), (80, 5), (80, 6), (12, 8), (0, 4), (14, 1), (14, 2), (14, 3), (14, 0), (14, 4), (0, 5), (18, 2), (18, 3), (18, 0), (0, 6), (21, 2), (21, 3), (21, 0), (0, 7), (24, 0), (0, 8), (26, 2), (26, 3), (26, 0), (25, 0), (29, 2), (29, 3), (29, 0), (25, 1), (0, 9)] := hX1.trans e2
  refine s_astore_n [(1, rV E2 0), (0, .ref b)] dL_law_7 rfl (by decide) rfl ?_
  refine k_new (a := 100) (ci := 10) (fun F => [(1, rV F 0), (0, .ref b)]) (fun F => []) rfl rfl hq (xoN hX2) (xfN hX2 (hno 100) (by decide)) (by decide) rfl rfl inX10 tyX10_ok (dfX10 rfl) rfl w_1047 w_1048 w_98 84 29521 (by decide) (by decide) (Nat.le_of_ble_eq_true rfl) (Nat.le_of_ble_eq_true rfl) dL_law_8 (fun _ e => ⟨by simp only [rV, xaN e 0 (by decide)], rfl⟩) (fun E3 s3 e3 => ?_)
  have hX3 : Ext E E3 [0, 1, 2, 3, 4, 5, 6, 7, 8, 9, 10, 11, 12, 32, 33, 40, 41, 42, 43, 44, 45, 46, 47, 48, 49, 50, 51, 52, 53, 54, 34, 35, 55, 56, 57, 58, 59, 60, 61, 62, 63, 64, 65, 66, 67, 68, 69, 36, 37, 70, 71, 72, 73, 74, 75, 76, 77, 78, 79, 80, 81, 82, 83, 84, 13, 14, 15, 16, 17, 18, 19, 20, 21, 22, 23, 24, 25, 26, 27, 28, 29, 30, 31, 100] [(1, 2), (1, 3), (1, 4), (1, 5), (0, 0), (6, 0), (6, 6), (6, 7), (6, 8), (0, 1), (0, 2), (0, 3), (32, 0), (32, 3), (11, 0), (40, 0), (40, 1), (40, 3), (40, 4), (40, 5), (40, 6), (12, 0), (45, 0), (45, 1), (45, 3), (45, 4), (45, 5), (45, 6), (12, 1), (50, 0), (50, 1), (50, 3), (50, 4), (50, 5), (50, 6), (12, 2), (34, 0), (34, 3), (11, 1), (55, 0), (55, 1), (55, 3), (55, 4), (55, 5), (55, 6), (12, 3), (60, 0), (60, 1), (60, 3), (60, 4), (60, 5), (60, 6), (12, 4), (65, 0), (65, 1), (65, 3), (65, 4), (65, 5), (65, 6), (12, 5), (36, 0), (36, 3), (11, 2), (70, 0), (70, 1), (70, 3), (70, 4), (70, 5), (70, 6), (12, 6), (75, 0), (75, 1), (75, 3), (75, 4), (75, 5), (75, 6), (12, 7), (80, 0), (80, 1), (80, 3), (80, 4), (80, 5), (80, 6), (12, 8), (0, 4), (14, 1), (14, 2), (14, 3), (14, 0), (14, 4), (0, 5), (18, 2), (18, 3), (18, 0), (0, 6), (21, 2), (21, 3), (21, 0), (0, 7), (24, 0), (0, 8), (26, 2), (26, 3), (26, 0), (25, 0), (29, 2), (29, 3), (29, 0), (25, 1), (0, 9)] := hX2.trans e3
  refine s_dup dL_law_11 rfl ?_
  refine k_call (As := []) (fun F => [(1, rV F 0), (0, .ref b)]) (fun F => [rV F 100]) rfl rfl (by intro b hb; simp; try omega) if_X10_init hq (xoN hX3) ml_L_12 rfl (c_X10_init _ E3 (xmN hX3 (by simp)) (xfN hX3 (hno 101) (by decide)) (xfN hX3 (hno 102) (by decide)) (xfN hX3 (hno 103) (by decide)) (xfN hX3 (hno 104) (by decide)) (xfN hX3 (hno 105) (by decide)) (xfN hX3 (hno 106) (by decide)) (xfN hX3 (hno 107) (by decide)) (xfN hX3 (hno 108) (by decide)) (xfN hX3 (hno 109) (by decide)) (xfN hX3 (hno 110) (by decide)) (xfN hX3 (hno 111) (by decide)) (xfN hX3 (hno 112) (by decide)) (xfN hX3 (hno 113) (by decide)) (xfN hX3 (hno 114) (by decide)) (xfN hX3 (hno 115) (by decide)) (xfN hX3 (hno 116) (by decide)) (xfN hX3 (hno 117) (by decide)) (xfN hX3 (hno 118) (by decide)) (xfN hX3 (hno 119) (by decide)) (xfN hX3 (hno 120) (by decide)) (xfN hX3 (hno 121) (by decide)) (xfN hX3 (hno 122) (by decide)) s3) rfl rfl (Nat.le_of_ble_eq_true rfl) 106 172881 (by decide) (by decide) (Nat.le_of_ble_eq_true rfl) (Nat.le_of_ble_eq_true rfl) dL_law_12 (fun _ e => ⟨by simp only [rV, xaN e 0 (by decide)], by simp only [rV, xaN e 100 (by decide)]⟩) (fun E4 s4 e4 => ?_)
  have hX4 : Ext E E4 [0, 1, 2, 3, 4, 5, 6, 7, 8, 9, 10, 11, 12, 32, 33, 40, 41, 42, 43, 44, 45, 46, 47, 48, 49, 50, 51, 52, 53, 54, 34, 35, 55, 56, 57, 58, 59, 60, 61, 62, 63, 64, 65, 66, 67, 68, 69, 36, 37, 70, 71, 72, 73, 74, 75, 76, 77, 78, 79, 80, 81, 82, 83, 84, 13, 14, 15, 16, 17, 18, 19, 20, 21, 22, 23, 24, 25, 26, 27, 28, 29, 30, 31, 100, 101, 102, 103, 104, 105, 106, 107, 108, 109, 110, 111, 112, 113, 114, 115, 116, 117, 118, 119, 120, 121, 122] [(1, 2), (1, 3), (1, 4), (1, 5), (0, 0), (6, 0), (6, 6), (6, 7), (6, 8), (0, 1), (0, 2), (0, 3), (32, 0), (32, 3), (11, 0), (40, 0), (40, 1), (40, 3), (40, 4), (40, 5), (40, 6), (12, 0), (45, 0), (45, 1), (45, 3), (45, 4), (45, 5), (45, 6), (12, 1), (50, 0), (50, 1), (50, 3), (50, 4), (50, 5), (50, 6), (12, 2), (34, 0), (34, 3), (11, 1), (55, 0), (55, 1), (55, 3), (55, 4), (55, 5), (55, 6), (12, 3), (60, 0), (60, 1), (60, 3), (60, 4), (60, 5), (60, 6), (12, 4), (65, 0), (65, 1), (65, 3), (65, 4), (65, 5), (65, 6), (12, 5), (36, 0), (36, 3), (11, 2), (70, 0), (70, 1), (70, 3), (70, 4), (70, 5), (70, 6), (12, 6), (75, 0), (75, 1), (75, 3), (75, 4), (75, 5), (75, 6), (12, 7), (80, 0), (80, 1), (80, 3), (80, 4), (80, 5), (80, 6), (12, 8), (0, 4), (14, 1), (14, 2), (14, 3), (14, 0), (14, 4), (0, 5), (18, 2), (18, 3), (18, 0), (0, 6), (21, 2), (21, 3), (21, 0), (0, 7), (24, 0), (0, 8), (26, 2), (26, 3), (26, 0), (25, 0), (29, 2), (29, 3), (29, 0), (25, 1), (0, 9), (100, 1), (100, 3), (100, 12), (100, 13), (100, 14), (100, 15), (100, 16), (100, 17), (100, 18), (100, 25), (100, 26), (100, 28), (100, 29), (100, 30), (100, 31), (100, 32), (100, 33), (100, 34), (100, 37), (100, 38), (100, 39), (100, 40)] := hX3.trans e4
  refine s_astore_n [(2, rV E4 100), (1, rV E4 0), (0, .ref b)] dL_law_15 rfl (by decide) rfl ?_
  refine k_full (full_ok hX4 hE0) ?_
  have hF := full_F hX4
  refine s_iconst (v := 0) dL_law_16 (by decide) ?_
  refine s_istore_n [(3, .int (0 : Int32)), (2, rV (fullE E4) 100), (1, rV (fullE E4) 0), (0, .ref b)] dL_law_17 rfl (by decide) rfl ?_
  refine s_sub (lv' := [(0, .ref b), (1, rV (fullE E4) 0), (2, rV (fullE E4) 100), (3, .int (0 : Int32))]) [3, 2, 1, 0] rfl ?_
  refine s_lo2 (σf := fun s5 x6 => s5) (lvf := fun s5 x6 => [(0, .ref b), (1, rV (fullE E4) 0), (2, rV (fullE E4) 100), (3, .int x6)]) (fun rec7 ih8 s5 x6 => ?_)
  refine s_iload_n dL_law_18 3 rfl rfl ?_
  refine s_aload_n dL_law_19 0 rfl rfl ?_
  refine l_slen hX hbl hbA dL_law_20 ?_
  refine s_iconst (v := 5) dL_law_21 (by decide) ?_
  refine s_isub dL_law_22 ?_
  refine s_icmp_gt 1161 dL_law_23 (by decide) ?_ ?_
  · skip
    refine s_iconst (v := 1) dL_law_1161 (by decide) ?_
    exact l_ret hargs (by decide) (by decide) dL_law_1162
  · skip
    refine s_aload_n dL_law_26 0 rfl rfl ?_
    refine s_iload_n dL_law_27 3 rfl rfl ?_
    refine l_sld hX hbl hbA dL_law_28 ?_
    refine s_bipush (v := 31) dL_law_29 (by decide) ?_
    refine s_iand dL_law_31 ?_
    refine s_tsw27 (tD := 1155) (t0 := 156) (t1 := 219) (t2 := 232) (t3 := 245) (t4 := 258) (t5 := 343) (t6 := 366) (t7 := 399) (t8 := 452) (t9 := 495) (t10 := 538) (t11 := 561) (t12 := 594) (t13 := 647) (t14 := 700) (t15 := 753) (t16 := 786) (t17 := 809) (t18 := 852) (t19 := 895) (t20 := 928) (t21 := 977) (t22 := 1000) (t23 := 1023) (t24 := 1056) (t25 := 1089) (t26 := 1132) dL_law_32 (by decide) (by decide) (by decide) (by decide) (by decide) (by decide) (by decide) (by decide) (by decide) (by decide) (by decide) (by decide) (by decide) (by decide) (by decide) (by decide) (by decide) (by decide) (by decide) (by decide) (by decide) (by decide) (by decide) (by decide) (by decide) (by decide) (by decide) (by decide) ?_ ?_ ?_ ?_ ?_ ?_ ?_ ?_ ?_ ?_ ?_ ?_ ?_ ?_ ?_ ?_ ?_ ?_ ?_ ?_ ?_ ?_ ?_ ?_ ?_ ?_ ?_ ?_
    · skip
      refine s_iinc [(3, .int (x6 + 5)), (0, .ref b), (1, rV (fullE E4) 0), (2, rV (fullE E4) 100)] dL_law_1155 3 rfl rfl (by decide) rfl ?_
      refine s_goto 18 dL_law_1158 (by decide) ?_
      refine s_sub [1, 2, 3, 0] rfl ?_
      exact ih8 s5 (x6 + 5)
    · skip
      refine s_aload_n dL_law_156 1 rfl rfl ?_
      refine s_aload_n dL_law_157 0 rfl rfl ?_
      refine s_iload_n dL_law_158 3 rfl rfl ?_
      refine s_iconst (v := 1) dL_law_159 (by decide) ?_
      refine s_iadd dL_law_160 ?_
      refine l_sld hX hbl hbA dL_law_161 ?_
      refine s_i2l dL_law_162 rfl ?_
      refine s_bipush (v := 32) dL_law_163 (by decide) ?_
      refine s_lshl dL_law_165 rfl ?_
      refine s_aload_n dL_law_166 0 rfl rfl ?_
      refine s_iload_n dL_law_167 3 rfl rfl ?_
      refine s_iconst (v := 2) dL_law_168 (by decide) ?_
      refine s_iadd dL_law_169 ?_
      refine l_sld hX hbl hbA dL_law_170 ?_
      refine s_i2l dL_law_171 rfl ?_
      refine s_ldc2 (v := 4294967295) rfl w_1493 dL_law_172 ?_
      refine s_land dL_law_175 ?_
      refine s_lor dL_law_176 ?_
      refine s_aload_n dL_law_177 0 rfl rfl ?_
      refine s_iload_n dL_law_178 3 rfl rfl ?_
      refine s_iconst (v := 3) dL_law_179 (by decide) ?_
      refine s_iadd dL_law_180 ?_
      refine l_sld hX hbl hbA dL_law_181 ?_
      refine s_callVwI (As := [.long (((xs (x6 + (1 : Int32)).toNatClampNeg).toInt64 <<< ((32 : Int32).toInt64 &&& 63)) ||| ((xs (x6 + (2 : Int32)).toNatClampNeg).toInt64 &&& (4294967295 : Int64))), .int (xs (x6 + (3 : Int32)).toNatClampNeg)]) mf_X9_write vf_X9_write ml_L_15 (c_X9_write _ (fullE E4) hF s5 (((xs (x6 + (1 : Int32)).toNatClampNeg).toInt64 <<< ((32 : Int32).toInt64 &&& 63)) ||| ((xs (x6 + (2 : Int32)).toNatClampNeg).toInt64 &&& (4294967295 : Int64))) (xs (x6 + (3 : Int32)).toNatClampNeg)) (m0 hF) (show kd 0 = 9 from rfl) (by decide) rfl rfl rfl rfl (Nat.le_of_ble_eq_true rfl) rfl dL_law_182 (fun r9 s10 => ?_)
      refine s_aload_n dL_law_185 2 rfl rfl ?_
      refine s_aload_n dL_law_186 0 rfl rfl ?_
      refine s_iload_n dL_law_187 3 rfl rfl ?_
      refine s_iconst (v := 1) dL_law_188 (by decide) ?_
      refine s_iadd dL_law_189 ?_
      refine l_sld hX hbl hbA dL_law_190 ?_
      refine s_i2l dL_law_191 rfl ?_
      refine s_bipush (v := 32) dL_law_192 (by decide) ?_
      refine s_lshl dL_law_194 rfl ?_
      refine s_aload_n dL_law_195 0 rfl rfl ?_
      refine s_iload_n dL_law_196 3 rfl rfl ?_
      refine s_iconst (v := 2) dL_law_197 (by decide) ?_
      refine s_iadd dL_law_198 ?_
      refine l_sld hX hbl hbA dL_law_199 ?_
      refine s_i2l dL_law_200 rfl ?_
      refine s_ldc2 (v := 4294967295) rfl w_1493 dL_law_201 ?_
      refine s_land dL_law_204 ?_
      refine s_lor dL_law_205 ?_
      refine s_aload_n dL_law_206 0 rfl rfl ?_
      refine s_iload_n dL_law_207 3 rfl rfl ?_
      refine s_iconst (v := 3) dL_law_208 (by decide) ?_
      refine s_iadd dL_law_209 ?_
      refine l_sld hX hbl hbA dL_law_210 ?_
      refine s_callVwI (As := [.long (((xs (x6 + (1 : Int32)).toNatClampNeg).toInt64 <<< ((32 : Int32).toInt64 &&& 63)) ||| ((xs (x6 + (2 : Int32)).toNatClampNeg).toInt64 &&& (4294967295 : Int64))), .int (xs (x6 + (3 : Int32)).toNatClampNeg)]) mf_X10_write vf_X10_write ml_L_19 (c_X10_write _ (fullE E4) hF s10 (((xs (x6 + (1 : Int32)).toNatClampNeg).toInt64 <<< ((32 : Int32).toInt64 &&& 63)) ||| ((xs (x6 + (2 : Int32)).toNatClampNeg).toInt64 &&& (4294967295 : Int64))) (xs (x6 + (3 : Int32)).toNatClampNeg)) (m100 hF) (show kd 100 = 10 from rfl) (by decide) rfl rfl rfl rfl (Nat.le_of_ble_eq_true rfl) rfl dL_law_211 (fun r11 s12 => ?_)
      refine s_icmp_eq 1155 dL_law_214 (by decide) ?_ ?_
      · skip
        refine s_iinc [(3, .int (x6 + 5)), (0, .ref b), (1, rV (fullE E4) 0), (2, rV (fullE E4) 100)] dL_law_1155 3 rfl rfl (by decide) rfl ?_
        refine s_goto 18 dL_law_1158 (by decide) ?_
        refine s_sub [1, 2, 3, 0] rfl ?_
        exact ih8 s12 (x6 + 5)
      · skip
        refine s_iconst (v := 0) dL_law_217 (by decide) ?_
        exact s_no
    · skip
      refine s_aload_n dL_law_219 1 rfl rfl ?_
      refine s_callVwI (As := []) mf_X9_erase vf_X9_erase ml_L_20 (c_X9_erase _ (fullE E4) hF s5) (m0 hF) (show kd 0 = 9 from rfl) (by decide) rfl rfl rfl rfl (Nat.le_of_ble_eq_true rfl) rfl dL_law_220 (fun r13 s14 => ?_)
      refine s_aload_n dL_law_223 2 rfl rfl ?_
      refine s_callVwI (As := []) mf_X10_erase vf_X10_erase ml_L_24 (c_X10_erase _ (fullE E4) hF s14) (m100 hF) (show kd 100 = 10 from rfl) (by decide) rfl rfl rfl rfl (Nat.le_of_ble_eq_true rfl) rfl dL_law_224 (fun r15 s16 => ?_)
      refine s_icmp_eq 1155 dL_law_227 (by decide) ?_ ?_
      · skip
        refine s_iinc [(3, .int (x6 + 5)), (0, .ref b), (1, rV (fullE E4) 0), (2, rV (fullE E4) 100)] dL_law_1155 3 rfl rfl (by decide) rfl ?_
        refine s_goto 18 dL_law_1158 (by decide) ?_
        refine s_sub [1, 2, 3, 0] rfl ?_
        exact ih8 s16 (x6 + 5)
      · skip
        refine s_iconst (v := 0) dL_law_230 (by decide) ?_
        exact s_no
    · skip
      refine s_aload_n dL_law_232 1 rfl rfl ?_
      refine s_callVwI (As := []) mf_X9_fault vf_X9_fault ml_L_25 (c_X9_fault _ (fullE E4) hF s5) (m0 hF) (show kd 0 = 9 from rfl) (by decide) rfl rfl rfl rfl (Nat.le_of_ble_eq_true rfl) rfl dL_law_233 (fun r17 s18 => ?_)
      refine s_aload_n dL_law_236 2 rfl rfl ?_
      refine s_callVwI (As := []) mf_X10_fault vf_X10_fault ml_L_28 (c_X10_fault _ (fullE E4) hF s18) (m100 hF) (show kd 100 = 10 from rfl) (by decide) rfl rfl rfl rfl (Nat.le_of_ble_eq_true rfl) rfl dL_law_237 (fun r19 s20 => ?_)
      refine s_icmp_eq 1155 dL_law_240 (by decide) ?_ ?_
      · skip
        refine s_iinc [(3, .int (x6 + 5)), (0, .ref b), (1, rV (fullE E4) 0), (2, rV (fullE E4) 100)] dL_law_1155 3 rfl rfl (by decide) rfl ?_
        refine s_goto 18 dL_law_1158 (by decide) ?_
        refine s_sub [1, 2, 3, 0] rfl ?_
        exact ih8 s20 (x6 + 5)
      · skip
        refine s_iconst (v := 0) dL_law_243 (by decide) ?_
        exact s_no
    · skip
      refine s_aload_n dL_law_245 1 rfl rfl ?_
      refine s_callVwI (As := []) mf_X9_laid vf_X9_laid ml_L_29 (c_X9_laid _ (fullE E4) hF s5) (m0 hF) (show kd 0 = 9 from rfl) (by decide) rfl rfl rfl rfl (Nat.le_of_ble_eq_true rfl) rfl dL_law_246 (fun r21 s22 => ?_)
      refine s_aload_n dL_law_249 2 rfl rfl ?_
      refine s_callVwI (As := []) mf_X10_laid vf_X10_laid ml_L_32 (c_X10_laid _ (fullE E4) hF s22) (m100 hF) (show kd 100 = 10 from rfl) (by decide) rfl rfl rfl rfl (Nat.le_of_ble_eq_true rfl) rfl dL_law_250 (fun r23 s24 => ?_)
      refine s_icmp_eq 1155 dL_law_253 (by decide) ?_ ?_
      · skip
        refine s_iinc [(3, .int (x6 + 5)), (0, .ref b), (1, rV (fullE E4) 0), (2, rV (fullE E4) 100)] dL_law_1155 3 rfl rfl (by decide) rfl ?_
        refine s_goto 18 dL_law_1158 (by decide) ?_
        refine s_sub [1, 2, 3, 0] rfl ?_
        exact ih8 s24 (x6 + 5)
      · skip
        refine s_iconst (v := 0) dL_law_256 (by decide) ?_
        exact s_no
    · skip
      refine s_aload_n dL_law_258 1 rfl rfl ?_
      refine s_aload_n dL_law_259 0 rfl rfl ?_
      refine s_iload_n dL_law_260 3 rfl rfl ?_
      refine s_iconst (v := 1) dL_law_261 (by decide) ?_
      refine s_iadd dL_law_262 ?_
      refine l_sld hX hbl hbA dL_law_263 ?_
      refine s_aload_n dL_law_264 0 rfl rfl ?_
      refine s_iload_n dL_law_265 3 rfl rfl ?_
      refine s_iconst (v := 2) dL_law_266 (by decide) ?_
      refine s_iadd dL_law_267 ?_
      refine l_sld hX hbl hbA dL_law_268 ?_
      refine s_aload_n dL_law_269 0 rfl rfl ?_
      refine s_iload_n dL_law_270 3 rfl rfl ?_
      refine s_iconst (v := 3) dL_law_271 (by decide) ?_
      refine s_iadd dL_law_272 ?_
      refine l_sld hX hbl hbA dL_law_273 ?_
      refine s_bd 282 (fun x25 => [(0, .ref b), (1, rV (fullE E4) 0), (2, rV (fullE E4) 100), (3, .int x6)]) (fun x25 => [.int x25, .int (xs (x6 + (2 : Int32)).toNatClampNeg), .int (xs (x6 + (1 : Int32)).toNatClampNeg), rV (fullE E4) 0]) (fun jk26 => (if (xs (x6 + (3 : Int32)).toNatClampNeg) = 0 then jk26 (0 : Int32) else jk26 (1 : Int32))) (fun jk26 => (j_ite rfl rfl)) ?_ ?_
      · intro x25
        refine s_aload_n dL_law_282 0 rfl rfl ?_
        refine s_iload_n dL_law_283 3 rfl rfl ?_
        refine s_iconst (v := 4) dL_law_284 (by decide) ?_
        refine s_iadd dL_law_285 ?_
        refine l_sld hX hbl hbA dL_law_286 ?_
        refine s_bd 295 (fun x27 => [(0, .ref b), (1, rV (fullE E4) 0), (2, rV (fullE E4) 100), (3, .int x6)]) (fun x27 => [.int x27, .int x25, .int (xs (x6 + (2 : Int32)).toNatClampNeg), .int (xs (x6 + (1 : Int32)).toNatClampNeg), rV (fullE E4) 0]) (fun jk28 => (if (xs (x6 + (4 : Int32)).toNatClampNeg) = 0 then jk28 (0 : Int32) else jk28 (1 : Int32))) (fun jk28 => (j_ite rfl rfl)) ?_ ?_
        · intro x27
          refine s_callVwI (As := [.int (xs (x6 + (1 : Int32)).toNatClampNeg), .int (xs (x6 + (2 : Int32)).toNatClampNeg), .int x25, .int x27]) mf_X9_road vf_X9_road ml_L_33 (c_X9_road _ (fullE E4) hF s5 (xs (x6 + (1 : Int32)).toNatClampNeg) (xs (x6 + (2 : Int32)).toNatClampNeg) x25 x27) (m0 hF) (show kd 0 = 9 from rfl) (by decide) rfl rfl rfl rfl (Nat.le_of_ble_eq_true rfl) rfl dL_law_295 (fun r29 s30 => ?_)
          refine s_aload_n dL_law_298 2 rfl rfl ?_
          refine s_aload_n dL_law_299 0 rfl rfl ?_
          refine s_iload_n dL_law_300 3 rfl rfl ?_
          refine s_iconst (v := 1) dL_law_301 (by decide) ?_
          refine s_iadd dL_law_302 ?_
          refine l_sld hX hbl hbA dL_law_303 ?_
          refine s_aload_n dL_law_304 0 rfl rfl ?_
          refine s_iload_n dL_law_305 3 rfl rfl ?_
          refine s_iconst (v := 2) dL_law_306 (by decide) ?_
          refine s_iadd dL_law_307 ?_
          refine l_sld hX hbl hbA dL_law_308 ?_
          refine s_aload_n dL_law_309 0 rfl rfl ?_
          refine s_iload_n dL_law_310 3 rfl rfl ?_
          refine s_iconst (v := 3) dL_law_311 (by decide) ?_
          refine s_iadd dL_law_312 ?_
          refine l_sld hX hbl hbA dL_law_313 ?_
          refine s_bd 322 (fun x31 => [(0, .ref b), (1, rV (fullE E4) 0), (2, rV (fullE E4) 100), (3, .int x6)]) (fun x31 => [.int x31, .int (xs (x6 + (2 : Int32)).toNatClampNeg), .int (xs (x6 + (1 : Int32)).toNatClampNeg), rV (fullE E4) 100, .int r29]) (fun jk32 => (if (xs (x6 + (3 : Int32)).toNatClampNeg) = 0 then jk32 (0 : Int32) else jk32 (1 : Int32))) (fun jk32 => (j_ite rfl rfl)) ?_ ?_
          · intro x31
            refine s_aload_n dL_law_322 0 rfl rfl ?_
            refine s_iload_n dL_law_323 3 rfl rfl ?_
            refine s_iconst (v := 4) dL_law_324 (by decide) ?_
            refine s_iadd dL_law_325 ?_
            refine l_sld hX hbl hbA dL_law_326 ?_
            refine s_bd 335 (fun x33 => [(0, .ref b), (1, rV (fullE E4) 0), (2, rV (fullE E4) 100), (3, .int x6)]) (fun x33 => [.int x33, .int x31, .int (xs (x6 + (2 : Int32)).toNatClampNeg), .int (xs (x6 + (1 : Int32)).toNatClampNeg), rV (fullE E4) 100, .int r29]) (fun jk34 => (if (xs (x6 + (4 : Int32)).toNatClampNeg) = 0 then jk34 (0 : Int32) else jk34 (1 : Int32))) (fun jk34 => (j_ite rfl rfl)) ?_ ?_
            · intro x33
              refine s_callVwI (As := [.int (xs (x6 + (1 : Int32)).toNatClampNeg), .int (xs (x6 + (2 : Int32)).toNatClampNeg), .int x31, .int x33]) mf_X10_road vf_X10_road ml_L_37 (c_X10_road _ (fullE E4) hF s30 (xs (x6 + (1 : Int32)).toNatClampNeg) (xs (x6 + (2 : Int32)).toNatClampNeg) x31 x33) (m100 hF) (show kd 100 = 10 from rfl) (by decide) rfl rfl rfl rfl (Nat.le_of_ble_eq_true rfl) rfl dL_law_335 (fun r35 s36 => ?_)
              refine s_icmp_eq 1155 dL_law_338 (by decide) ?_ ?_
              · skip
                refine s_iinc [(3, .int (x6 + 5)), (0, .ref b), (1, rV (fullE E4) 0), (2, rV (fullE E4) 100)] dL_law_1155 3 rfl rfl (by decide) rfl ?_
                refine s_goto 18 dL_law_1158 (by decide) ?_
                refine s_sub [1, 2, 3, 0] rfl ?_
                exact ih8 s36 (x6 + 5)
              · skip
                refine s_iconst (v := 0) dL_law_341 (by decide) ?_
                exact s_no
            · intro jk34 hjk34
              refine s_if_eq 334 dL_law_327 (by decide) ?_ ?_
              · skip
                refine s_iconst (v := 0) dL_law_334 (by decide) ?_
                exact hjk34 (0 : Int32)
              · skip
                refine s_iconst (v := 1) dL_law_330 (by decide) ?_
                refine s_goto 335 dL_law_331 (by decide) ?_
                exact hjk34 (1 : Int32)
          · intro jk32 hjk32
            refine s_if_eq 321 dL_law_314 (by decide) ?_ ?_
            · skip
              refine s_iconst (v := 0) dL_law_321 (by decide) ?_
              exact hjk32 (0 : Int32)
            · skip
              refine s_iconst (v := 1) dL_law_317 (by decide) ?_
              refine s_goto 322 dL_law_318 (by decide) ?_
              exact hjk32 (1 : Int32)
        · intro jk28 hjk28
          refine s_if_eq 294 dL_law_287 (by decide) ?_ ?_
          · skip
            refine s_iconst (v := 0) dL_law_294 (by decide) ?_
            exact hjk28 (0 : Int32)
          · skip
            refine s_iconst (v := 1) dL_law_290 (by decide) ?_
            refine s_goto 295 dL_law_291 (by decide) ?_
            exact hjk28 (1 : Int32)
      · intro jk26 hjk26
        refine s_if_eq 281 dL_law_274 (by decide) ?_ ?_
        · skip
          refine s_iconst (v := 0) dL_law_281 (by decide) ?_
          exact hjk26 (0 : Int32)
        · skip
          refine s_iconst (v := 1) dL_law_277 (by decide) ?_
          refine s_goto 282 dL_law_278 (by decide) ?_
          exact hjk26 (1 : Int32)
    · skip
      refine s_aload_n dL_law_343 1 rfl rfl ?_
      refine s_aload_n dL_law_344 0 rfl rfl ?_
      refine s_iload_n dL_law_345 3 rfl rfl ?_
      refine s_iconst (v := 1) dL_law_346 (by decide) ?_
      refine s_iadd dL_law_347 ?_
      refine l_sld hX hbl hbA dL_law_348 ?_
      refine s_callVpI (As := [.int (xs (x6 + (1 : Int32)).toNatClampNeg)]) mf_X9_steps vf_X9_steps ml_L_38 (c_X9_steps _ (fullE E4) hF s5 (xs (x6 + (1 : Int32)).toNatClampNeg)) (m0 hF) (show kd 0 = 9 from rfl) (by decide) rfl rfl rfl rfl (Nat.le_of_ble_eq_true rfl) rfl dL_law_349 (fun r37 => ?_)
      refine s_aload_n dL_law_352 2 rfl rfl ?_
      refine s_aload_n dL_law_353 0 rfl rfl ?_
      refine s_iload_n dL_law_354 3 rfl rfl ?_
      refine s_iconst (v := 1) dL_law_355 (by decide) ?_
      refine s_iadd dL_law_356 ?_
      refine l_sld hX hbl hbA dL_law_357 ?_
      refine s_callVpI (As := [.int (xs (x6 + (1 : Int32)).toNatClampNeg)]) mf_X10_steps vf_X10_steps ml_L_42 (c_X10_steps _ (fullE E4) hF s5 (xs (x6 + (1 : Int32)).toNatClampNeg)) (m100 hF) (show kd 100 = 10 from rfl) (by decide) rfl rfl rfl rfl (Nat.le_of_ble_eq_true rfl) rfl dL_law_358 (fun r38 => ?_)
      refine s_icmp_eq 1155 dL_law_361 (by decide) ?_ ?_
      · skip
        refine s_iinc [(3, .int (x6 + 5)), (0, .ref b), (1, rV (fullE E4) 0), (2, rV (fullE E4) 100)] dL_law_1155 3 rfl rfl (by decide) rfl ?_
        refine s_goto 18 dL_law_1158 (by decide) ?_
        refine s_sub [1, 2, 3, 0] rfl ?_
        exact ih8 s5 (x6 + 5)
      · skip
        refine s_iconst (v := 0) dL_law_364 (by decide) ?_
        exact s_no
    · skip
      refine s_aload_n dL_law_366 1 rfl rfl ?_
      refine s_aload_n dL_law_367 0 rfl rfl ?_
      refine s_iload_n dL_law_368 3 rfl rfl ?_
      refine s_iconst (v := 1) dL_law_369 (by decide) ?_
      refine s_iadd dL_law_370 ?_
      refine l_sld hX hbl hbA dL_law_371 ?_
      refine s_aload_n dL_law_372 0 rfl rfl ?_
      refine s_iload_n dL_law_373 3 rfl rfl ?_
      refine s_iconst (v := 2) dL_law_374 (by decide) ?_
      refine s_iadd dL_law_375 ?_
      refine l_sld hX hbl hbA dL_law_376 ?_
      refine s_callVpI (As := [.int (xs (x6 + (1 : Int32)).toNatClampNeg), .int (xs (x6 + (2 : Int32)).toNatClampNeg)]) mf_X9_far vf_X9_far ml_L_43 (c_X9_far _ (fullE E4) hF s5 (xs (x6 + (1 : Int32)).toNatClampNeg) (xs (x6 + (2 : Int32)).toNatClampNeg)) (m0 hF) (show kd 0 = 9 from rfl) (by decide) rfl rfl rfl rfl (Nat.le_of_ble_eq_true rfl) rfl dL_law_377 (fun r39 => ?_)
      refine s_aload_n dL_law_380 2 rfl rfl ?_
      refine s_aload_n dL_law_381 0 rfl rfl ?_
      refine s_iload_n dL_law_382 3 rfl rfl ?_
      refine s_iconst (v := 1) dL_law_383 (by decide) ?_
      refine s_iadd dL_law_384 ?_
      refine l_sld hX hbl hbA dL_law_385 ?_
      refine s_aload_n dL_law_386 0 rfl rfl ?_
      refine s_iload_n dL_law_387 3 rfl rfl ?_
      refine s_iconst (v := 2) dL_law_388 (by decide) ?_
      refine s_iadd dL_law_389 ?_
      refine l_sld hX hbl hbA dL_law_390 ?_
      refine s_callVpI (As := [.int (xs (x6 + (1 : Int32)).toNatClampNeg), .int (xs (x6 + (2 : Int32)).toNatClampNeg)]) mf_X10_far vf_X10_far ml_L_47 (c_X10_far _ (fullE E4) hF s5 (xs (x6 + (1 : Int32)).toNatClampNeg) (xs (x6 + (2 : Int32)).toNatClampNeg)) (m100 hF) (show kd 100 = 10 from rfl) (by decide) rfl rfl rfl rfl (Nat.le_of_ble_eq_true rfl) rfl dL_law_391 (fun r40 => ?_)
      refine s_icmp_eq 1155 dL_law_394 (by decide) ?_ ?_
      · skip
        refine s_iinc [(3, .int (x6 + 5)), (0, .ref b), (1, rV (fullE E4) 0), (2, rV (fullE E4) 100)] dL_law_1155 3 rfl rfl (by decide) rfl ?_
        refine s_goto 18 dL_law_1158 (by decide) ?_
        refine s_sub [1, 2, 3, 0] rfl ?_
        exact ih8 s5 (x6 + 5)
      · skip
        refine s_iconst (v := 0) dL_law_397 (by decide) ?_
        exact s_no
    · skip
      refine s_aload_n dL_law_399 1 rfl rfl ?_
      refine s_aload_n dL_law_400 0 rfl rfl ?_
      refine s_iload_n dL_law_401 3 rfl rfl ?_
      refine s_iconst (v := 1) dL_law_402 (by decide) ?_
      refine s_iadd dL_law_403 ?_
      refine l_sld hX hbl hbA dL_law_404 ?_
      refine s_aload_n dL_law_405 0 rfl rfl ?_
      refine s_iload_n dL_law_406 3 rfl rfl ?_
      refine s_iconst (v := 2) dL_law_407 (by decide) ?_
      refine s_iadd dL_law_408 ?_
      refine l_sld hX hbl hbA dL_law_409 ?_
      refine s_aload_n dL_law_410 0 rfl rfl ?_
      refine s_iload_n dL_law_411 3 rfl rfl ?_
      refine s_iconst (v := 3) dL_law_412 (by decide) ?_
      refine s_iadd dL_law_413 ?_
      refine l_sld hX hbl hbA dL_law_414 ?_
      refine s_aload_n dL_law_415 0 rfl rfl ?_
      refine s_iload_n dL_law_416 3 rfl rfl ?_
      refine s_iconst (v := 4) dL_law_417 (by decide) ?_
      refine s_iadd dL_law_418 ?_
      refine l_sld hX hbl hbA dL_law_419 ?_
      refine s_callVwI (As := [.int (xs (x6 + (1 : Int32)).toNatClampNeg), .int (xs (x6 + (2 : Int32)).toNatClampNeg), .int (xs (x6 + (3 : Int32)).toNatClampNeg), .int (xs (x6 + (4 : Int32)).toNatClampNeg)]) mf_X9_rounds vf_X9_rounds ml_L_48 (c_X9_rounds _ (fullE E4) hF s5 (xs (x6 + (1 : Int32)).toNatClampNeg) (xs (x6 + (2 : Int32)).toNatClampNeg) (xs (x6 + (3 : Int32)).toNatClampNeg) (xs (x6 + (4 : Int32)).toNatClampNeg)) (m0 hF) (show kd 0 = 9 from rfl) (by decide) rfl rfl rfl rfl (Nat.le_of_ble_eq_true rfl) rfl dL_law_420 (fun r41 s42 => ?_)
      refine s_aload_n dL_law_423 2 rfl rfl ?_
      refine s_aload_n dL_law_424 0 rfl rfl ?_
      refine s_iload_n dL_law_425 3 rfl rfl ?_
      refine s_iconst (v := 1) dL_law_426 (by decide) ?_
      refine s_iadd dL_law_427 ?_
      refine l_sld hX hbl hbA dL_law_428 ?_
      refine s_aload_n dL_law_429 0 rfl rfl ?_
      refine s_iload_n dL_law_430 3 rfl rfl ?_
      refine s_iconst (v := 2) dL_law_431 (by decide) ?_
      refine s_iadd dL_law_432 ?_
      refine l_sld hX hbl hbA dL_law_433 ?_
      refine s_aload_n dL_law_434 0 rfl rfl ?_
      refine s_iload_n dL_law_435 3 rfl rfl ?_
      refine s_iconst (v := 3) dL_law_436 (by decide) ?_
      refine s_iadd dL_law_437 ?_
      refine l_sld hX hbl hbA dL_law_438 ?_
      refine s_aload_n dL_law_439 0 rfl rfl ?_
      refine s_iload_n dL_law_440 3 rfl rfl ?_
      refine s_iconst (v := 4) dL_law_441 (by decide) ?_
      refine s_iadd dL_law_442 ?_
      refine l_sld hX hbl hbA dL_law_443 ?_
      refine s_callVwI (As := [.int (xs (x6 + (1 : Int32)).toNatClampNeg), .int (xs (x6 + (2 : Int32)).toNatClampNeg), .int (xs (x6 + (3 : Int32)).toNatClampNeg), .int (xs (x6 + (4 : Int32)).toNatClampNeg)]) mf_X10_rounds vf_X10_rounds ml_L_52 (c_X10_rounds _ (fullE E4) hF s42 (xs (x6 + (1 : Int32)).toNatClampNeg) (xs (x6 + (2 : Int32)).toNatClampNeg) (xs (x6 + (3 : Int32)).toNatClampNeg) (xs (x6 + (4 : Int32)).toNatClampNeg)) (m100 hF) (show kd 100 = 10 from rfl) (by decide) rfl rfl rfl rfl (Nat.le_of_ble_eq_true rfl) rfl dL_law_444 (fun r43 s44 => ?_)
      refine s_icmp_eq 1155 dL_law_447 (by decide) ?_ ?_
      · skip
        refine s_iinc [(3, .int (x6 + 5)), (0, .ref b), (1, rV (fullE E4) 0), (2, rV (fullE E4) 100)] dL_law_1155 3 rfl rfl (by decide) rfl ?_
        refine s_goto 18 dL_law_1158 (by decide) ?_
        refine s_sub [1, 2, 3, 0] rfl ?_
        exact ih8 s44 (x6 + 5)
      · skip
        refine s_iconst (v := 0) dL_law_450 (by decide) ?_
        exact s_no
    · skip
      refine s_aload_n dL_law_452 1 rfl rfl ?_
      refine s_aload_n dL_law_453 0 rfl rfl ?_
      refine s_iload_n dL_law_454 3 rfl rfl ?_
      refine s_iconst (v := 1) dL_law_455 (by decide) ?_
      refine s_iadd dL_law_456 ?_
      refine l_sld hX hbl hbA dL_law_457 ?_
      refine s_aload_n dL_law_458 0 rfl rfl ?_
      refine s_iload_n dL_law_459 3 rfl rfl ?_
      refine s_iconst (v := 2) dL_law_460 (by decide) ?_
      refine s_iadd dL_law_461 ?_
      refine l_sld hX hbl hbA dL_law_462 ?_
      refine s_aload_n dL_law_463 0 rfl rfl ?_
      refine s_iload_n dL_law_464 3 rfl rfl ?_
      refine s_iconst (v := 3) dL_law_465 (by decide) ?_
      refine s_iadd dL_law_466 ?_
      refine l_sld hX hbl hbA dL_law_467 ?_
      refine s_callVwI (As := [.int (xs (x6 + (1 : Int32)).toNatClampNeg), .int (xs (x6 + (2 : Int32)).toNatClampNeg), .int (xs (x6 + (3 : Int32)).toNatClampNeg)]) mf_X9_worth vf_X9_worth ml_L_53 (c_X9_worth _ (fullE E4) hF s5 (xs (x6 + (1 : Int32)).toNatClampNeg) (xs (x6 + (2 : Int32)).toNatClampNeg) (xs (x6 + (3 : Int32)).toNatClampNeg)) (m0 hF) (show kd 0 = 9 from rfl) (by decide) rfl rfl rfl rfl (Nat.le_of_ble_eq_true rfl) rfl dL_law_468 (fun r45 s46 => ?_)
      refine s_aload_n dL_law_471 2 rfl rfl ?_
      refine s_aload_n dL_law_472 0 rfl rfl ?_
      refine s_iload_n dL_law_473 3 rfl rfl ?_
      refine s_iconst (v := 1) dL_law_474 (by decide) ?_
      refine s_iadd dL_law_475 ?_
      refine l_sld hX hbl hbA dL_law_476 ?_
      refine s_aload_n dL_law_477 0 rfl rfl ?_
      refine s_iload_n dL_law_478 3 rfl rfl ?_
      refine s_iconst (v := 2) dL_law_479 (by decide) ?_
      refine s_iadd dL_law_480 ?_
      refine l_sld hX hbl hbA dL_law_481 ?_
      refine s_aload_n dL_law_482 0 rfl rfl ?_
      refine s_iload_n dL_law_483 3 rfl rfl ?_
      refine s_iconst (v := 3) dL_law_484 (by decide) ?_
      refine s_iadd dL_law_485 ?_
      refine l_sld hX hbl hbA dL_law_486 ?_
      refine s_callVwI (As := [.int (xs (x6 + (1 : Int32)).toNatClampNeg), .int (xs (x6 + (2 : Int32)).toNatClampNeg), .int (xs (x6 + (3 : Int32)).toNatClampNeg)]) mf_X10_worth vf_X10_worth ml_L_57 (c_X10_worth _ (fullE E4) hF s46 (xs (x6 + (1 : Int32)).toNatClampNeg) (xs (x6 + (2 : Int32)).toNatClampNeg) (xs (x6 + (3 : Int32)).toNatClampNeg)) (m100 hF) (show kd 100 = 10 from rfl) (by decide) rfl rfl rfl rfl (Nat.le_of_ble_eq_true rfl) rfl dL_law_487 (fun r47 s48 => ?_)
      refine s_icmp_eq 1155 dL_law_490 (by decide) ?_ ?_
      · skip
        refine s_iinc [(3, .int (x6 + 5)), (0, .ref b), (1, rV (fullE E4) 0), (2, rV (fullE E4) 100)] dL_law_1155 3 rfl rfl (by decide) rfl ?_
        refine s_goto 18 dL_law_1158 (by decide) ?_
        refine s_sub [1, 2, 3, 0] rfl ?_
        exact ih8 s48 (x6 + 5)
      · skip
        refine s_iconst (v := 0) dL_law_493 (by decide) ?_
        exact s_no
    · skip
      refine s_aload_n dL_law_495 1 rfl rfl ?_
      refine s_aload_n dL_law_496 0 rfl rfl ?_
      refine s_iload_n dL_law_497 3 rfl rfl ?_
      refine s_iconst (v := 1) dL_law_498 (by decide) ?_
      refine s_iadd dL_law_499 ?_
      refine l_sld hX hbl hbA dL_law_500 ?_
      refine s_aload_n dL_law_501 0 rfl rfl ?_
      refine s_iload_n dL_law_502 3 rfl rfl ?_
      refine s_iconst (v := 2) dL_law_503 (by decide) ?_
      refine s_iadd dL_law_504 ?_
      refine l_sld hX hbl hbA dL_law_505 ?_
      refine s_aload_n dL_law_506 0 rfl rfl ?_
      refine s_iload_n dL_law_507 3 rfl rfl ?_
      refine s_iconst (v := 3) dL_law_508 (by decide) ?_
      refine s_iadd dL_law_509 ?_
      refine l_sld hX hbl hbA dL_law_510 ?_
      refine s_callVwI (As := [.int (xs (x6 + (1 : Int32)).toNatClampNeg), .int (xs (x6 + (2 : Int32)).toNatClampNeg), .int (xs (x6 + (3 : Int32)).toNatClampNeg)]) mf_X9_best vf_X9_best ml_L_58 (c_X9_best _ (fullE E4) hF s5 (xs (x6 + (1 : Int32)).toNatClampNeg) (xs (x6 + (2 : Int32)).toNatClampNeg) (xs (x6 + (3 : Int32)).toNatClampNeg)) (m0 hF) (show kd 0 = 9 from rfl) (by decide) rfl rfl rfl rfl (Nat.le_of_ble_eq_true rfl) rfl dL_law_511 (fun r49 s50 => ?_)
      refine s_aload_n dL_law_514 2 rfl rfl ?_
      refine s_aload_n dL_law_515 0 rfl rfl ?_
      refine s_iload_n dL_law_516 3 rfl rfl ?_
      refine s_iconst (v := 1) dL_law_517 (by decide) ?_
      refine s_iadd dL_law_518 ?_
      refine l_sld hX hbl hbA dL_law_519 ?_
      refine s_aload_n dL_law_520 0 rfl rfl ?_
      refine s_iload_n dL_law_521 3 rfl rfl ?_
      refine s_iconst (v := 2) dL_law_522 (by decide) ?_
      refine s_iadd dL_law_523 ?_
      refine l_sld hX hbl hbA dL_law_524 ?_
      refine s_aload_n dL_law_525 0 rfl rfl ?_
      refine s_iload_n dL_law_526 3 rfl rfl ?_
      refine s_iconst (v := 3) dL_law_527 (by decide) ?_
      refine s_iadd dL_law_528 ?_
      refine l_sld hX hbl hbA dL_law_529 ?_
      refine s_callVwI (As := [.int (xs (x6 + (1 : Int32)).toNatClampNeg), .int (xs (x6 + (2 : Int32)).toNatClampNeg), .int (xs (x6 + (3 : Int32)).toNatClampNeg)]) mf_X10_best vf_X10_best ml_L_61 (c_X10_best _ (fullE E4) hF s50 (xs (x6 + (1 : Int32)).toNatClampNeg) (xs (x6 + (2 : Int32)).toNatClampNeg) (xs (x6 + (3 : Int32)).toNatClampNeg)) (m100 hF) (show kd 100 = 10 from rfl) (by decide) rfl rfl rfl rfl (Nat.le_of_ble_eq_true rfl) rfl dL_law_530 (fun r51 s52 => ?_)
      refine s_icmp_eq 1155 dL_law_533 (by decide) ?_ ?_
      · skip
        refine s_iinc [(3, .int (x6 + 5)), (0, .ref b), (1, rV (fullE E4) 0), (2, rV (fullE E4) 100)] dL_law_1155 3 rfl rfl (by decide) rfl ?_
        refine s_goto 18 dL_law_1158 (by decide) ?_
        refine s_sub [1, 2, 3, 0] rfl ?_
        exact ih8 s52 (x6 + 5)
      · skip
        refine s_iconst (v := 0) dL_law_536 (by decide) ?_
        exact s_no
    · skip
      refine s_aload_n dL_law_538 1 rfl rfl ?_
      refine s_aload_n dL_law_539 0 rfl rfl ?_
      refine s_iload_n dL_law_540 3 rfl rfl ?_
      refine s_iconst (v := 1) dL_law_541 (by decide) ?_
      refine s_iadd dL_law_542 ?_
      refine l_sld hX hbl hbA dL_law_543 ?_
      refine s_callVwI (As := [.int (xs (x6 + (1 : Int32)).toNatClampNeg)]) mf_X9_fewest vf_X9_fewest ml_L_62 (c_X9_fewest _ (fullE E4) hF s5 (xs (x6 + (1 : Int32)).toNatClampNeg)) (m0 hF) (show kd 0 = 9 from rfl) (by decide) rfl rfl rfl rfl (Nat.le_of_ble_eq_true rfl) rfl dL_law_544 (fun r53 s54 => ?_)
      refine s_aload_n dL_law_547 2 rfl rfl ?_
      refine s_aload_n dL_law_548 0 rfl rfl ?_
      refine s_iload_n dL_law_549 3 rfl rfl ?_
      refine s_iconst (v := 1) dL_law_550 (by decide) ?_
      refine s_iadd dL_law_551 ?_
      refine l_sld hX hbl hbA dL_law_552 ?_
      refine s_callVwI (As := [.int (xs (x6 + (1 : Int32)).toNatClampNeg)]) mf_X10_fewest vf_X10_fewest ml_L_65 (c_X10_fewest _ (fullE E4) hF s54 (xs (x6 + (1 : Int32)).toNatClampNeg)) (m100 hF) (show kd 100 = 10 from rfl) (by decide) rfl rfl rfl rfl (Nat.le_of_ble_eq_true rfl) rfl dL_law_553 (fun r55 s56 => ?_)
      refine s_icmp_eq 1155 dL_law_556 (by decide) ?_ ?_
      · skip
        refine s_iinc [(3, .int (x6 + 5)), (0, .ref b), (1, rV (fullE E4) 0), (2, rV (fullE E4) 100)] dL_law_1155 3 rfl rfl (by decide) rfl ?_
        refine s_goto 18 dL_law_1158 (by decide) ?_
        refine s_sub [1, 2, 3, 0] rfl ?_
        exact ih8 s56 (x6 + 5)
      · skip
        refine s_iconst (v := 0) dL_law_559 (by decide) ?_
        exact s_no
    · skip
      refine s_aload_n dL_law_561 1 rfl rfl ?_
      refine s_aload_n dL_law_562 0 rfl rfl ?_
      refine s_iload_n dL_law_563 3 rfl rfl ?_
      refine s_iconst (v := 1) dL_law_564 (by decide) ?_
      refine s_iadd dL_law_565 ?_
      refine l_sld hX hbl hbA dL_law_566 ?_
      refine s_aload_n dL_law_567 0 rfl rfl ?_
      refine s_iload_n dL_law_568 3 rfl rfl ?_
      refine s_iconst (v := 2) dL_law_569 (by decide) ?_
      refine s_iadd dL_law_570 ?_
      refine l_sld hX hbl hbA dL_law_571 ?_
      refine s_callVwI (As := [.int (xs (x6 + (1 : Int32)).toNatClampNeg), .int (xs (x6 + (2 : Int32)).toNatClampNeg)]) mf_X9_escapes vf_X9_escapes ml_L_66 (c_X9_escapes _ (fullE E4) hF s5 (xs (x6 + (1 : Int32)).toNatClampNeg) (xs (x6 + (2 : Int32)).toNatClampNeg)) (m0 hF) (show kd 0 = 9 from rfl) (by decide) rfl rfl rfl rfl (Nat.le_of_ble_eq_true rfl) rfl dL_law_572 (fun r57 s58 => ?_)
      refine s_aload_n dL_law_575 2 rfl rfl ?_
      refine s_aload_n dL_law_576 0 rfl rfl ?_
      refine s_iload_n dL_law_577 3 rfl rfl ?_
      refine s_iconst (v := 1) dL_law_578 (by decide) ?_
      refine s_iadd dL_law_579 ?_
      refine l_sld hX hbl hbA dL_law_580 ?_
      refine s_aload_n dL_law_581 0 rfl rfl ?_
      refine s_iload_n dL_law_582 3 rfl rfl ?_
      refine s_iconst (v := 2) dL_law_583 (by decide) ?_
      refine s_iadd dL_law_584 ?_
      refine l_sld hX hbl hbA dL_law_585 ?_
      refine s_callVwI (As := [.int (xs (x6 + (1 : Int32)).toNatClampNeg), .int (xs (x6 + (2 : Int32)).toNatClampNeg)]) mf_X10_escapes vf_X10_escapes ml_L_69 (c_X10_escapes _ (fullE E4) hF s58 (xs (x6 + (1 : Int32)).toNatClampNeg) (xs (x6 + (2 : Int32)).toNatClampNeg)) (m100 hF) (show kd 100 = 10 from rfl) (by decide) rfl rfl rfl rfl (Nat.le_of_ble_eq_true rfl) rfl dL_law_586 (fun r59 s60 => ?_)
      refine s_icmp_eq 1155 dL_law_589 (by decide) ?_ ?_
      · skip
        refine s_iinc [(3, .int (x6 + 5)), (0, .ref b), (1, rV (fullE E4) 0), (2, rV (fullE E4) 100)] dL_law_1155 3 rfl rfl (by decide) rfl ?_
        refine s_goto 18 dL_law_1158 (by decide) ?_
        refine s_sub [1, 2, 3, 0] rfl ?_
        exact ih8 s60 (x6 + 5)
      · skip
        refine s_iconst (v := 0) dL_law_592 (by decide) ?_
        exact s_no
    · skip
      refine s_aload_n dL_law_594 1 rfl rfl ?_
      refine s_aload_n dL_law_595 0 rfl rfl ?_
      refine s_iload_n dL_law_596 3 rfl rfl ?_
      refine s_iconst (v := 1) dL_law_597 (by decide) ?_
      refine s_iadd dL_law_598 ?_
      refine l_sld hX hbl hbA dL_law_599 ?_
      refine s_aload_n dL_law_600 0 rfl rfl ?_
      refine s_iload_n dL_law_601 3 rfl rfl ?_
      refine s_iconst (v := 2) dL_law_602 (by decide) ?_
      refine s_iadd dL_law_603 ?_
      refine l_sld hX hbl hbA dL_law_604 ?_
      refine s_aload_n dL_law_605 0 rfl rfl ?_
      refine s_iload_n dL_law_606 3 rfl rfl ?_
      refine s_iconst (v := 3) dL_law_607 (by decide) ?_
      refine s_iadd dL_law_608 ?_
      refine l_sld hX hbl hbA dL_law_609 ?_
      refine s_aload_n dL_law_610 0 rfl rfl ?_
      refine s_iload_n dL_law_611 3 rfl rfl ?_
      refine s_iconst (v := 4) dL_law_612 (by decide) ?_
      refine s_iadd dL_law_613 ?_
      refine l_sld hX hbl hbA dL_law_614 ?_
      refine s_callVwI (As := [.int (xs (x6 + (1 : Int32)).toNatClampNeg), .int (xs (x6 + (2 : Int32)).toNatClampNeg), .int (xs (x6 + (3 : Int32)).toNatClampNeg), .int (xs (x6 + (4 : Int32)).toNatClampNeg)]) mf_X9_hunt vf_X9_hunt ml_L_70 (c_X9_hunt _ (fullE E4) hF s5 (xs (x6 + (1 : Int32)).toNatClampNeg) (xs (x6 + (2 : Int32)).toNatClampNeg) (xs (x6 + (3 : Int32)).toNatClampNeg) (xs (x6 + (4 : Int32)).toNatClampNeg)) (m0 hF) (show kd 0 = 9 from rfl) (by decide) rfl rfl rfl rfl (Nat.le_of_ble_eq_true rfl) rfl dL_law_615 (fun r61 s62 => ?_)
      refine s_aload_n dL_law_618 2 rfl rfl ?_
      refine s_aload_n dL_law_619 0 rfl rfl ?_
      refine s_iload_n dL_law_620 3 rfl rfl ?_
      refine s_iconst (v := 1) dL_law_621 (by decide) ?_
      refine s_iadd dL_law_622 ?_
      refine l_sld hX hbl hbA dL_law_623 ?_
      refine s_aload_n dL_law_624 0 rfl rfl ?_
      refine s_iload_n dL_law_625 3 rfl rfl ?_
      refine s_iconst (v := 2) dL_law_626 (by decide) ?_
      refine s_iadd dL_law_627 ?_
      refine l_sld hX hbl hbA dL_law_628 ?_
      refine s_aload_n dL_law_629 0 rfl rfl ?_
      refine s_iload_n dL_law_630 3 rfl rfl ?_
      refine s_iconst (v := 3) dL_law_631 (by decide) ?_
      refine s_iadd dL_law_632 ?_
      refine l_sld hX hbl hbA dL_law_633 ?_
      refine s_aload_n dL_law_634 0 rfl rfl ?_
      refine s_iload_n dL_law_635 3 rfl rfl ?_
      refine s_iconst (v := 4) dL_law_636 (by decide) ?_
      refine s_iadd dL_law_637 ?_
      refine l_sld hX hbl hbA dL_law_638 ?_
      refine s_callVwI (As := [.int (xs (x6 + (1 : Int32)).toNatClampNeg), .int (xs (x6 + (2 : Int32)).toNatClampNeg), .int (xs (x6 + (3 : Int32)).toNatClampNeg), .int (xs (x6 + (4 : Int32)).toNatClampNeg)]) mf_X10_hunt vf_X10_hunt ml_L_73 (c_X10_hunt _ (fullE E4) hF s62 (xs (x6 + (1 : Int32)).toNatClampNeg) (xs (x6 + (2 : Int32)).toNatClampNeg) (xs (x6 + (3 : Int32)).toNatClampNeg) (xs (x6 + (4 : Int32)).toNatClampNeg)) (m100 hF) (show kd 100 = 10 from rfl) (by decide) rfl rfl rfl rfl (Nat.le_of_ble_eq_true rfl) rfl dL_law_639 (fun r63 s64 => ?_)
      refine s_icmp_eq 1155 dL_law_642 (by decide) ?_ ?_
      · skip
        refine s_iinc [(3, .int (x6 + 5)), (0, .ref b), (1, rV (fullE E4) 0), (2, rV (fullE E4) 100)] dL_law_1155 3 rfl rfl (by decide) rfl ?_
        refine s_goto 18 dL_law_1158 (by decide) ?_
        refine s_sub [1, 2, 3, 0] rfl ?_
        exact ih8 s64 (x6 + 5)
      · skip
        refine s_iconst (v := 0) dL_law_645 (by decide) ?_
        exact s_no
    · skip
      refine s_aload_n dL_law_647 1 rfl rfl ?_
      refine s_aload_n dL_law_648 0 rfl rfl ?_
      refine s_iload_n dL_law_649 3 rfl rfl ?_
      refine s_iconst (v := 1) dL_law_650 (by decide) ?_
      refine s_iadd dL_law_651 ?_
      refine l_sld hX hbl hbA dL_law_652 ?_
      refine s_aload_n dL_law_653 0 rfl rfl ?_
      refine s_iload_n dL_law_654 3 rfl rfl ?_
      refine s_iconst (v := 2) dL_law_655 (by decide) ?_
      refine s_iadd dL_law_656 ?_
      refine l_sld hX hbl hbA dL_law_657 ?_
      refine s_aload_n dL_law_658 0 rfl rfl ?_
      refine s_iload_n dL_law_659 3 rfl rfl ?_
      refine s_iconst (v := 3) dL_law_660 (by decide) ?_
      refine s_iadd dL_law_661 ?_
      refine l_sld hX hbl hbA dL_law_662 ?_
      refine s_aload_n dL_law_663 0 rfl rfl ?_
      refine s_iload_n dL_law_664 3 rfl rfl ?_
      refine s_iconst (v := 4) dL_law_665 (by decide) ?_
      refine s_iadd dL_law_666 ?_
      refine l_sld hX hbl hbA dL_law_667 ?_
      refine s_callVwI (As := [.int (xs (x6 + (1 : Int32)).toNatClampNeg), .int (xs (x6 + (2 : Int32)).toNatClampNeg), .int (xs (x6 + (3 : Int32)).toNatClampNeg), .int (xs (x6 + (4 : Int32)).toNatClampNeg)]) mf_X9_flee vf_X9_flee ml_L_74 (c_X9_flee _ (fullE E4) hF s5 (xs (x6 + (1 : Int32)).toNatClampNeg) (xs (x6 + (2 : Int32)).toNatClampNeg) (xs (x6 + (3 : Int32)).toNatClampNeg) (xs (x6 + (4 : Int32)).toNatClampNeg)) (m0 hF) (show kd 0 = 9 from rfl) (by decide) rfl rfl rfl rfl (Nat.le_of_ble_eq_true rfl) rfl dL_law_668 (fun r65 s66 => ?_)
      refine s_aload_n dL_law_671 2 rfl rfl ?_
      refine s_aload_n dL_law_672 0 rfl rfl ?_
      refine s_iload_n dL_law_673 3 rfl rfl ?_
      refine s_iconst (v := 1) dL_law_674 (by decide) ?_
      refine s_iadd dL_law_675 ?_
      refine l_sld hX hbl hbA dL_law_676 ?_
      refine s_aload_n dL_law_677 0 rfl rfl ?_
      refine s_iload_n dL_law_678 3 rfl rfl ?_
      refine s_iconst (v := 2) dL_law_679 (by decide) ?_
      refine s_iadd dL_law_680 ?_
      refine l_sld hX hbl hbA dL_law_681 ?_
      refine s_aload_n dL_law_682 0 rfl rfl ?_
      refine s_iload_n dL_law_683 3 rfl rfl ?_
      refine s_iconst (v := 3) dL_law_684 (by decide) ?_
      refine s_iadd dL_law_685 ?_
      refine l_sld hX hbl hbA dL_law_686 ?_
      refine s_aload_n dL_law_687 0 rfl rfl ?_
      refine s_iload_n dL_law_688 3 rfl rfl ?_
      refine s_iconst (v := 4) dL_law_689 (by decide) ?_
      refine s_iadd dL_law_690 ?_
      refine l_sld hX hbl hbA dL_law_691 ?_
      refine s_callVwI (As := [.int (xs (x6 + (1 : Int32)).toNatClampNeg), .int (xs (x6 + (2 : Int32)).toNatClampNeg), .int (xs (x6 + (3 : Int32)).toNatClampNeg), .int (xs (x6 + (4 : Int32)).toNatClampNeg)]) mf_X10_flee vf_X10_flee ml_L_77 (c_X10_flee _ (fullE E4) hF s66 (xs (x6 + (1 : Int32)).toNatClampNeg) (xs (x6 + (2 : Int32)).toNatClampNeg) (xs (x6 + (3 : Int32)).toNatClampNeg) (xs (x6 + (4 : Int32)).toNatClampNeg)) (m100 hF) (show kd 100 = 10 from rfl) (by decide) rfl rfl rfl rfl (Nat.le_of_ble_eq_true rfl) rfl dL_law_692 (fun r67 s68 => ?_)
      refine s_icmp_eq 1155 dL_law_695 (by decide) ?_ ?_
      · skip
        refine s_iinc [(3, .int (x6 + 5)), (0, .ref b), (1, rV (fullE E4) 0), (2, rV (fullE E4) 100)] dL_law_1155 3 rfl rfl (by decide) rfl ?_
        refine s_goto 18 dL_law_1158 (by decide) ?_
        refine s_sub [1, 2, 3, 0] rfl ?_
        exact ih8 s68 (x6 + 5)
      · skip
        refine s_iconst (v := 0) dL_law_698 (by decide) ?_
        exact s_no
    · skip
      refine s_aload_n dL_law_700 1 rfl rfl ?_
      refine s_aload_n dL_law_701 0 rfl rfl ?_
      refine s_iload_n dL_law_702 3 rfl rfl ?_
      refine s_iconst (v := 1) dL_law_703 (by decide) ?_
      refine s_iadd dL_law_704 ?_
      refine l_sld hX hbl hbA dL_law_705 ?_
      refine s_aload_n dL_law_706 0 rfl rfl ?_
      refine s_iload_n dL_law_707 3 rfl rfl ?_
      refine s_iconst (v := 2) dL_law_708 (by decide) ?_
      refine s_iadd dL_law_709 ?_
      refine l_sld hX hbl hbA dL_law_710 ?_
      refine s_aload_n dL_law_711 0 rfl rfl ?_
      refine s_iload_n dL_law_712 3 rfl rfl ?_
      refine s_iconst (v := 3) dL_law_713 (by decide) ?_
      refine s_iadd dL_law_714 ?_
      refine l_sld hX hbl hbA dL_law_715 ?_
      refine s_aload_n dL_law_716 0 rfl rfl ?_
      refine s_iload_n dL_law_717 3 rfl rfl ?_
      refine s_iconst (v := 4) dL_law_718 (by decide) ?_
      refine s_iadd dL_law_719 ?_
      refine l_sld hX hbl hbA dL_law_720 ?_
      refine s_callVwI (As := [.int (xs (x6 + (1 : Int32)).toNatClampNeg), .int (xs (x6 + (2 : Int32)).toNatClampNeg), .int (xs (x6 + (3 : Int32)).toNatClampNeg), .int (xs (x6 + (4 : Int32)).toNatClampNeg)]) mf_X9_play vf_X9_play ml_L_78 (c_X9_play _ (fullE E4) hF s5 (xs (x6 + (1 : Int32)).toNatClampNeg) (xs (x6 + (2 : Int32)).toNatClampNeg) (xs (x6 + (3 : Int32)).toNatClampNeg) (xs (x6 + (4 : Int32)).toNatClampNeg)) (m0 hF) (show kd 0 = 9 from rfl) (by decide) rfl rfl rfl rfl (Nat.le_of_ble_eq_true rfl) rfl dL_law_721 (fun r69 s70 => ?_)
      refine s_aload_n dL_law_724 2 rfl rfl ?_
      refine s_aload_n dL_law_725 0 rfl rfl ?_
      refine s_iload_n dL_law_726 3 rfl rfl ?_
      refine s_iconst (v := 1) dL_law_727 (by decide) ?_
      refine s_iadd dL_law_728 ?_
      refine l_sld hX hbl hbA dL_law_729 ?_
      refine s_aload_n dL_law_730 0 rfl rfl ?_
      refine s_iload_n dL_law_731 3 rfl rfl ?_
      refine s_iconst (v := 2) dL_law_732 (by decide) ?_
      refine s_iadd dL_law_733 ?_
      refine l_sld hX hbl hbA dL_law_734 ?_
      refine s_aload_n dL_law_735 0 rfl rfl ?_
      refine s_iload_n dL_law_736 3 rfl rfl ?_
      refine s_iconst (v := 3) dL_law_737 (by decide) ?_
      refine s_iadd dL_law_738 ?_
      refine l_sld hX hbl hbA dL_law_739 ?_
      refine s_aload_n dL_law_740 0 rfl rfl ?_
      refine s_iload_n dL_law_741 3 rfl rfl ?_
      refine s_iconst (v := 4) dL_law_742 (by decide) ?_
      refine s_iadd dL_law_743 ?_
      refine l_sld hX hbl hbA dL_law_744 ?_
      refine s_callVwI (As := [.int (xs (x6 + (1 : Int32)).toNatClampNeg), .int (xs (x6 + (2 : Int32)).toNatClampNeg), .int (xs (x6 + (3 : Int32)).toNatClampNeg), .int (xs (x6 + (4 : Int32)).toNatClampNeg)]) mf_X10_play vf_X10_play ml_L_81 (c_X10_play _ (fullE E4) hF s70 (xs (x6 + (1 : Int32)).toNatClampNeg) (xs (x6 + (2 : Int32)).toNatClampNeg) (xs (x6 + (3 : Int32)).toNatClampNeg) (xs (x6 + (4 : Int32)).toNatClampNeg)) (m100 hF) (show kd 100 = 10 from rfl) (by decide) rfl rfl rfl rfl (Nat.le_of_ble_eq_true rfl) rfl dL_law_745 (fun r71 s72 => ?_)
      refine s_icmp_eq 1155 dL_law_748 (by decide) ?_ ?_
      · skip
        refine s_iinc [(3, .int (x6 + 5)), (0, .ref b), (1, rV (fullE E4) 0), (2, rV (fullE E4) 100)] dL_law_1155 3 rfl rfl (by decide) rfl ?_
        refine s_goto 18 dL_law_1158 (by decide) ?_
        refine s_sub [1, 2, 3, 0] rfl ?_
        exact ih8 s72 (x6 + 5)
      · skip
        refine s_iconst (v := 0) dL_law_751 (by decide) ?_
        exact s_no
    · skip
      refine s_aload_n dL_law_753 1 rfl rfl ?_
      refine s_aload_n dL_law_754 0 rfl rfl ?_
      refine s_iload_n dL_law_755 3 rfl rfl ?_
      refine s_iconst (v := 1) dL_law_756 (by decide) ?_
      refine s_iadd dL_law_757 ?_
      refine l_sld hX hbl hbA dL_law_758 ?_
      refine s_aload_n dL_law_759 0 rfl rfl ?_
      refine s_iload_n dL_law_760 3 rfl rfl ?_
      refine s_iconst (v := 2) dL_law_761 (by decide) ?_
      refine s_iadd dL_law_762 ?_
      refine l_sld hX hbl hbA dL_law_763 ?_
      refine s_callVwI (As := [.int (xs (x6 + (1 : Int32)).toNatClampNeg), .int (xs (x6 + (2 : Int32)).toNatClampNeg)]) mf_X9_turn vf_X9_turn ml_L_82 (c_X9_turn _ (fullE E4) hF s5 (xs (x6 + (1 : Int32)).toNatClampNeg) (xs (x6 + (2 : Int32)).toNatClampNeg)) (m0 hF) (show kd 0 = 9 from rfl) (by decide) rfl rfl rfl rfl (Nat.le_of_ble_eq_true rfl) rfl dL_law_764 (fun r73 s74 => ?_)
      refine s_aload_n dL_law_767 2 rfl rfl ?_
      refine s_aload_n dL_law_768 0 rfl rfl ?_
      refine s_iload_n dL_law_769 3 rfl rfl ?_
      refine s_iconst (v := 1) dL_law_770 (by decide) ?_
      refine s_iadd dL_law_771 ?_
      refine l_sld hX hbl hbA dL_law_772 ?_
      refine s_aload_n dL_law_773 0 rfl rfl ?_
      refine s_iload_n dL_law_774 3 rfl rfl ?_
      refine s_iconst (v := 2) dL_law_775 (by decide) ?_
      refine s_iadd dL_law_776 ?_
      refine l_sld hX hbl hbA dL_law_777 ?_
      refine s_callVwI (As := [.int (xs (x6 + (1 : Int32)).toNatClampNeg), .int (xs (x6 + (2 : Int32)).toNatClampNeg)]) mf_X10_turn vf_X10_turn ml_L_85 (c_X10_turn _ (fullE E4) hF s74 (xs (x6 + (1 : Int32)).toNatClampNeg) (xs (x6 + (2 : Int32)).toNatClampNeg)) (m100 hF) (show kd 100 = 10 from rfl) (by decide) rfl rfl rfl rfl (Nat.le_of_ble_eq_true rfl) rfl dL_law_778 (fun r75 s76 => ?_)
      refine s_icmp_eq 1155 dL_law_781 (by decide) ?_ ?_
      · skip
        refine s_iinc [(3, .int (x6 + 5)), (0, .ref b), (1, rV (fullE E4) 0), (2, rV (fullE E4) 100)] dL_law_1155 3 rfl rfl (by decide) rfl ?_
        refine s_goto 18 dL_law_1158 (by decide) ?_
        refine s_sub [1, 2, 3, 0] rfl ?_
        exact ih8 s76 (x6 + 5)
      · skip
        refine s_iconst (v := 0) dL_law_784 (by decide) ?_
        exact s_no
    · skip
      refine s_aload_n dL_law_786 1 rfl rfl ?_
      refine s_aload_n dL_law_787 0 rfl rfl ?_
      refine s_iload_n dL_law_788 3 rfl rfl ?_
      refine s_iconst (v := 1) dL_law_789 (by decide) ?_
      refine s_iadd dL_law_790 ?_
      refine l_sld hX hbl hbA dL_law_791 ?_
      refine s_callVpI (As := [.int (xs (x6 + (1 : Int32)).toNatClampNeg)]) mf_X9_now vf_X9_now ml_L_86 (c_X9_now _ (fullE E4) hF s5 (xs (x6 + (1 : Int32)).toNatClampNeg)) (m0 hF) (show kd 0 = 9 from rfl) (by decide) rfl rfl rfl rfl (Nat.le_of_ble_eq_true rfl) rfl dL_law_792 (fun r77 => ?_)
      refine s_aload_n dL_law_795 2 rfl rfl ?_
      refine s_aload_n dL_law_796 0 rfl rfl ?_
      refine s_iload_n dL_law_797 3 rfl rfl ?_
      refine s_iconst (v := 1) dL_law_798 (by decide) ?_
      refine s_iadd dL_law_799 ?_
      refine l_sld hX hbl hbA dL_law_800 ?_
      refine s_callVwI (As := [.int (xs (x6 + (1 : Int32)).toNatClampNeg)]) mf_X10_now vf_X10_now ml_L_89 (c_X10_now _ (fullE E4) hF s5 (xs (x6 + (1 : Int32)).toNatClampNeg)) (m100 hF) (show kd 100 = 10 from rfl) (by decide) rfl rfl rfl rfl (Nat.le_of_ble_eq_true rfl) rfl dL_law_801 (fun r78 s79 => ?_)
      refine s_icmp_eq 1155 dL_law_804 (by decide) ?_ ?_
      · skip
        refine s_iinc [(3, .int (x6 + 5)), (0, .ref b), (1, rV (fullE E4) 0), (2, rV (fullE E4) 100)] dL_law_1155 3 rfl rfl (by decide) rfl ?_
        refine s_goto 18 dL_law_1158 (by decide) ?_
        refine s_sub [1, 2, 3, 0] rfl ?_
        exact ih8 s79 (x6 + 5)
      · skip
        refine s_iconst (v := 0) dL_law_807 (by decide) ?_
        exact s_no
    · skip
      refine s_aload_n dL_law_809 1 rfl rfl ?_
      refine s_aload_n dL_law_810 0 rfl rfl ?_
      refine s_iload_n dL_law_811 3 rfl rfl ?_
      refine s_iconst (v := 1) dL_law_812 (by decide) ?_
      refine s_iadd dL_law_813 ?_
      refine l_sld hX hbl hbA dL_law_814 ?_
      refine s_aload_n dL_law_815 0 rfl rfl ?_
      refine s_iload_n dL_law_816 3 rfl rfl ?_
      refine s_iconst (v := 2) dL_law_817 (by decide) ?_
      refine s_iadd dL_law_818 ?_
      refine l_sld hX hbl hbA dL_law_819 ?_
      refine s_aload_n dL_law_820 0 rfl rfl ?_
      refine s_iload_n dL_law_821 3 rfl rfl ?_
      refine s_iconst (v := 3) dL_law_822 (by decide) ?_
      refine s_iadd dL_law_823 ?_
      refine l_sld hX hbl hbA dL_law_824 ?_
      refine s_callVpI (As := [.int (xs (x6 + (1 : Int32)).toNatClampNeg), .int (xs (x6 + (2 : Int32)).toNatClampNeg), .int (xs (x6 + (3 : Int32)).toNatClampNeg)]) mf_X9_spread vf_X9_spread ml_L_90 (c_X9_spread _ (fullE E4) hF s5 (xs (x6 + (1 : Int32)).toNatClampNeg) (xs (x6 + (2 : Int32)).toNatClampNeg) (xs (x6 + (3 : Int32)).toNatClampNeg)) (m0 hF) (show kd 0 = 9 from rfl) (by decide) rfl rfl rfl rfl (Nat.le_of_ble_eq_true rfl) rfl dL_law_825 (fun r80 => ?_)
      refine s_aload_n dL_law_828 2 rfl rfl ?_
      refine s_aload_n dL_law_829 0 rfl rfl ?_
      refine s_iload_n dL_law_830 3 rfl rfl ?_
      refine s_iconst (v := 1) dL_law_831 (by decide) ?_
      refine s_iadd dL_law_832 ?_
      refine l_sld hX hbl hbA dL_law_833 ?_
      refine s_aload_n dL_law_834 0 rfl rfl ?_
      refine s_iload_n dL_law_835 3 rfl rfl ?_
      refine s_iconst (v := 2) dL_law_836 (by decide) ?_
      refine s_iadd dL_law_837 ?_
      refine l_sld hX hbl hbA dL_law_838 ?_
      refine s_aload_n dL_law_839 0 rfl rfl ?_
      refine s_iload_n dL_law_840 3 rfl rfl ?_
      refine s_iconst (v := 3) dL_law_841 (by decide) ?_
      refine s_iadd dL_law_842 ?_
      refine l_sld hX hbl hbA dL_law_843 ?_
      refine s_callVwI (As := [.int (xs (x6 + (1 : Int32)).toNatClampNeg), .int (xs (x6 + (2 : Int32)).toNatClampNeg), .int (xs (x6 + (3 : Int32)).toNatClampNeg)]) mf_X10_spread vf_X10_spread ml_L_93 (c_X10_spread _ (fullE E4) hF s5 (xs (x6 + (1 : Int32)).toNatClampNeg) (xs (x6 + (2 : Int32)).toNatClampNeg) (xs (x6 + (3 : Int32)).toNatClampNeg)) (m100 hF) (show kd 100 = 10 from rfl) (by decide) rfl rfl rfl rfl (Nat.le_of_ble_eq_true rfl) rfl dL_law_844 (fun r81 s82 => ?_)
      refine s_icmp_eq 1155 dL_law_847 (by decide) ?_ ?_
      · skip
        refine s_iinc [(3, .int (x6 + 5)), (0, .ref b), (1, rV (fullE E4) 0), (2, rV (fullE E4) 100)] dL_law_1155 3 rfl rfl (by decide) rfl ?_
        refine s_goto 18 dL_law_1158 (by decide) ?_
        refine s_sub [1, 2, 3, 0] rfl ?_
        exact ih8 s82 (x6 + 5)
      · skip
        refine s_iconst (v := 0) dL_law_850 (by decide) ?_
        exact s_no
    · skip
      refine s_aload_n dL_law_852 1 rfl rfl ?_
      refine s_aload_n dL_law_853 0 rfl rfl ?_
      refine s_iload_n dL_law_854 3 rfl rfl ?_
      refine s_iconst (v := 1) dL_law_855 (by decide) ?_
      refine s_iadd dL_law_856 ?_
      refine l_sld hX hbl hbA dL_law_857 ?_
      refine s_aload_n dL_law_858 0 rfl rfl ?_
      refine s_iload_n dL_law_859 3 rfl rfl ?_
      refine s_iconst (v := 2) dL_law_860 (by decide) ?_
      refine s_iadd dL_law_861 ?_
      refine l_sld hX hbl hbA dL_law_862 ?_
      refine s_aload_n dL_law_863 0 rfl rfl ?_
      refine s_iload_n dL_law_864 3 rfl rfl ?_
      refine s_iconst (v := 3) dL_law_865 (by decide) ?_
      refine s_iadd dL_law_866 ?_
      refine l_sld hX hbl hbA dL_law_867 ?_
      refine s_callVwI (As := [.int (xs (x6 + (1 : Int32)).toNatClampNeg), .int (xs (x6 + (2 : Int32)).toNatClampNeg), .int (xs (x6 + (3 : Int32)).toNatClampNeg)]) mf_X9_clear vf_X9_clear ml_L_94 (c_X9_clear _ (fullE E4) hF s5 (xs (x6 + (1 : Int32)).toNatClampNeg) (xs (x6 + (2 : Int32)).toNatClampNeg) (xs (x6 + (3 : Int32)).toNatClampNeg)) (m0 hF) (show kd 0 = 9 from rfl) (by decide) rfl rfl rfl rfl (Nat.le_of_ble_eq_true rfl) rfl dL_law_868 (fun r83 s84 => ?_)
      refine s_aload_n dL_law_871 2 rfl rfl ?_
      refine s_aload_n dL_law_872 0 rfl rfl ?_
      refine s_iload_n dL_law_873 3 rfl rfl ?_
      refine s_iconst (v := 1) dL_law_874 (by decide) ?_
      refine s_iadd dL_law_875 ?_
      refine l_sld hX hbl hbA dL_law_876 ?_
      refine s_aload_n dL_law_877 0 rfl rfl ?_
      refine s_iload_n dL_law_878 3 rfl rfl ?_
      refine s_iconst (v := 2) dL_law_879 (by decide) ?_
      refine s_iadd dL_law_880 ?_
      refine l_sld hX hbl hbA dL_law_881 ?_
      refine s_aload_n dL_law_882 0 rfl rfl ?_
      refine s_iload_n dL_law_883 3 rfl rfl ?_
      refine s_iconst (v := 3) dL_law_884 (by decide) ?_
      refine s_iadd dL_law_885 ?_
      refine l_sld hX hbl hbA dL_law_886 ?_
      refine s_callVwI (As := [.int (xs (x6 + (1 : Int32)).toNatClampNeg), .int (xs (x6 + (2 : Int32)).toNatClampNeg), .int (xs (x6 + (3 : Int32)).toNatClampNeg)]) mf_X10_clear vf_X10_clear ml_L_97 (c_X10_clear _ (fullE E4) hF s84 (xs (x6 + (1 : Int32)).toNatClampNeg) (xs (x6 + (2 : Int32)).toNatClampNeg) (xs (x6 + (3 : Int32)).toNatClampNeg)) (m100 hF) (show kd 100 = 10 from rfl) (by decide) rfl rfl rfl rfl (Nat.le_of_ble_eq_true rfl) rfl dL_law_887 (fun r85 s86 => ?_)
      refine s_icmp_eq 1155 dL_law_890 (by decide) ?_ ?_
      · skip
        refine s_iinc [(3, .int (x6 + 5)), (0, .ref b), (1, rV (fullE E4) 0), (2, rV (fullE E4) 100)] dL_law_1155 3 rfl rfl (by decide) rfl ?_
        refine s_goto 18 dL_law_1158 (by decide) ?_
        refine s_sub [1, 2, 3, 0] rfl ?_
        exact ih8 s86 (x6 + 5)
      · skip
        refine s_iconst (v := 0) dL_law_893 (by decide) ?_
        exact s_no
    · skip
      refine s_aload_n dL_law_895 1 rfl rfl ?_
      refine s_aload_n dL_law_896 0 rfl rfl ?_
      refine s_iload_n dL_law_897 3 rfl rfl ?_
      refine s_iconst (v := 1) dL_law_898 (by decide) ?_
      refine s_iadd dL_law_899 ?_
      refine l_sld hX hbl hbA dL_law_900 ?_
      refine s_aload_n dL_law_901 0 rfl rfl ?_
      refine s_iload_n dL_law_902 3 rfl rfl ?_
      refine s_iconst (v := 2) dL_law_903 (by decide) ?_
      refine s_iadd dL_law_904 ?_
      refine l_sld hX hbl hbA dL_law_905 ?_
      refine s_callVwI (As := [.int (xs (x6 + (1 : Int32)).toNatClampNeg), .int (xs (x6 + (2 : Int32)).toNatClampNeg)]) mf_X9_free vf_X9_free ml_L_98 (c_X9_free _ (fullE E4) hF s5 (xs (x6 + (1 : Int32)).toNatClampNeg) (xs (x6 + (2 : Int32)).toNatClampNeg)) (m0 hF) (show kd 0 = 9 from rfl) (by decide) rfl rfl rfl rfl (Nat.le_of_ble_eq_true rfl) rfl dL_law_906 (fun r87 s88 => ?_)
      refine s_aload_n dL_law_909 2 rfl rfl ?_
      refine s_aload_n dL_law_910 0 rfl rfl ?_
      refine s_iload_n dL_law_911 3 rfl rfl ?_
      refine s_iconst (v := 1) dL_law_912 (by decide) ?_
      refine s_iadd dL_law_913 ?_
      refine l_sld hX hbl hbA dL_law_914 ?_
      refine s_aload_n dL_law_915 0 rfl rfl ?_
      refine s_iload_n dL_law_916 3 rfl rfl ?_
      refine s_iconst (v := 2) dL_law_917 (by decide) ?_
      refine s_iadd dL_law_918 ?_
      refine l_sld hX hbl hbA dL_law_919 ?_
      refine s_callVwI (As := [.int (xs (x6 + (1 : Int32)).toNatClampNeg), .int (xs (x6 + (2 : Int32)).toNatClampNeg)]) mf_X10_free vf_X10_free ml_L_101 (c_X10_free _ (fullE E4) hF s88 (xs (x6 + (1 : Int32)).toNatClampNeg) (xs (x6 + (2 : Int32)).toNatClampNeg)) (m100 hF) (show kd 100 = 10 from rfl) (by decide) rfl rfl rfl rfl (Nat.le_of_ble_eq_true rfl) rfl dL_law_920 (fun r89 s90 => ?_)
      refine s_icmp_eq 1155 dL_law_923 (by decide) ?_ ?_
      · skip
        refine s_iinc [(3, .int (x6 + 5)), (0, .ref b), (1, rV (fullE E4) 0), (2, rV (fullE E4) 100)] dL_law_1155 3 rfl rfl (by decide) rfl ?_
        refine s_goto 18 dL_law_1158 (by decide) ?_
        refine s_sub [1, 2, 3, 0] rfl ?_
        exact ih8 s90 (x6 + 5)
      · skip
        refine s_iconst (v := 0) dL_law_926 (by decide) ?_
        exact s_no
    · skip
      refine s_aload_n dL_law_928 1 rfl rfl ?_
      refine s_aload_n dL_law_929 0 rfl rfl ?_
      refine s_iload_n dL_law_930 3 rfl rfl ?_
      refine s_iconst (v := 1) dL_law_931 (by decide) ?_
      refine s_iadd dL_law_932 ?_
      refine l_sld hX hbl hbA dL_law_933 ?_
      refine s_bd 942 (fun x91 => [(0, .ref b), (1, rV (fullE E4) 0), (2, rV (fullE E4) 100), (3, .int x6)]) (fun x91 => [.int x91, rV (fullE E4) 0]) (fun jk92 => (if (xs (x6 + (1 : Int32)).toNatClampNeg) = 0 then jk92 (0 : Int32) else jk92 (1 : Int32))) (fun jk92 => (j_ite rfl rfl)) ?_ ?_
      · intro x91
        refine s_aload_n dL_law_942 0 rfl rfl ?_
        refine s_iload_n dL_law_943 3 rfl rfl ?_
        refine s_iconst (v := 2) dL_law_944 (by decide) ?_
        refine s_iadd dL_law_945 ?_
        refine l_sld hX hbl hbA dL_law_946 ?_
        refine s_callVwI (As := [.int x91, .int (xs (x6 + (2 : Int32)).toNatClampNeg)]) mf_X9_flying vf_X9_flying ml_L_102 (c_X9_flying _ (fullE E4) hF s5 x91 (xs (x6 + (2 : Int32)).toNatClampNeg)) (m0 hF) (show kd 0 = 9 from rfl) (by decide) rfl rfl rfl rfl (Nat.le_of_ble_eq_true rfl) rfl dL_law_947 (fun r93 s94 => ?_)
        refine s_aload_n dL_law_950 2 rfl rfl ?_
        refine s_aload_n dL_law_951 0 rfl rfl ?_
        refine s_iload_n dL_law_952 3 rfl rfl ?_
        refine s_iconst (v := 1) dL_law_953 (by decide) ?_
        refine s_iadd dL_law_954 ?_
        refine l_sld hX hbl hbA dL_law_955 ?_
        refine s_bd 964 (fun x95 => [(0, .ref b), (1, rV (fullE E4) 0), (2, rV (fullE E4) 100), (3, .int x6)]) (fun x95 => [.int x95, rV (fullE E4) 100, .int r93]) (fun jk96 => (if (xs (x6 + (1 : Int32)).toNatClampNeg) = 0 then jk96 (0 : Int32) else jk96 (1 : Int32))) (fun jk96 => (j_ite rfl rfl)) ?_ ?_
        · intro x95
          refine s_aload_n dL_law_964 0 rfl rfl ?_
          refine s_iload_n dL_law_965 3 rfl rfl ?_
          refine s_iconst (v := 2) dL_law_966 (by decide) ?_
          refine s_iadd dL_law_967 ?_
          refine l_sld hX hbl hbA dL_law_968 ?_
          refine s_callVwI (As := [.int x95, .int (xs (x6 + (2 : Int32)).toNatClampNeg)]) mf_X10_flying vf_X10_flying ml_L_106 (c_X10_flying _ (fullE E4) hF s94 x95 (xs (x6 + (2 : Int32)).toNatClampNeg)) (m100 hF) (show kd 100 = 10 from rfl) (by decide) rfl rfl rfl rfl (Nat.le_of_ble_eq_true rfl) rfl dL_law_969 (fun r97 s98 => ?_)
          refine s_icmp_eq 1155 dL_law_972 (by decide) ?_ ?_
          · skip
            refine s_iinc [(3, .int (x6 + 5)), (0, .ref b), (1, rV (fullE E4) 0), (2, rV (fullE E4) 100)] dL_law_1155 3 rfl rfl (by decide) rfl ?_
            refine s_goto 18 dL_law_1158 (by decide) ?_
            refine s_sub [1, 2, 3, 0] rfl ?_
            exact ih8 s98 (x6 + 5)
          · skip
            refine s_iconst (v := 0) dL_law_975 (by decide) ?_
            exact s_no
        · intro jk96 hjk96
          refine s_if_eq 963 dL_law_956 (by decide) ?_ ?_
          · skip
            refine s_iconst (v := 0) dL_law_963 (by decide) ?_
            exact hjk96 (0 : Int32)
          · skip
            refine s_iconst (v := 1) dL_law_959 (by decide) ?_
            refine s_goto 964 dL_law_960 (by decide) ?_
            exact hjk96 (1 : Int32)
      · intro jk92 hjk92
        refine s_if_eq 941 dL_law_934 (by decide) ?_ ?_
        · skip
          refine s_iconst (v := 0) dL_law_941 (by decide) ?_
          exact hjk92 (0 : Int32)
        · skip
          refine s_iconst (v := 1) dL_law_937 (by decide) ?_
          refine s_goto 942 dL_law_938 (by decide) ?_
          exact hjk92 (1 : Int32)
    · skip
      refine s_aload_n dL_law_977 1 rfl rfl ?_
      refine s_aload_n dL_law_978 0 rfl rfl ?_
      refine s_iload_n dL_law_979 3 rfl rfl ?_
      refine s_iconst (v := 1) dL_law_980 (by decide) ?_
      refine s_iadd dL_law_981 ?_
      refine l_sld hX hbl hbA dL_law_982 ?_
      refine s_callVpI (As := [.int (xs (x6 + (1 : Int32)).toNatClampNeg)]) mf_X9_away vf_X9_away ml_L_107 (c_X9_away _ (fullE E4) hF s5 (xs (x6 + (1 : Int32)).toNatClampNeg)) (m0 hF) (show kd 0 = 9 from rfl) (by decide) rfl rfl rfl rfl (Nat.le_of_ble_eq_true rfl) rfl dL_law_983 (fun r99 => ?_)
      refine s_aload_n dL_law_986 2 rfl rfl ?_
      refine s_aload_n dL_law_987 0 rfl rfl ?_
      refine s_iload_n dL_law_988 3 rfl rfl ?_
      refine s_iconst (v := 1) dL_law_989 (by decide) ?_
      refine s_iadd dL_law_990 ?_
      refine l_sld hX hbl hbA dL_law_991 ?_
      refine s_callVwI (As := [.int (xs (x6 + (1 : Int32)).toNatClampNeg)]) mf_X10_away vf_X10_away ml_L_110 (c_X10_away _ (fullE E4) hF s5 (xs (x6 + (1 : Int32)).toNatClampNeg)) (m100 hF) (show kd 100 = 10 from rfl) (by decide) rfl rfl rfl rfl (Nat.le_of_ble_eq_true rfl) rfl dL_law_992 (fun r100 s101 => ?_)
      refine s_icmp_eq 1155 dL_law_995 (by decide) ?_ ?_
      · skip
        refine s_iinc [(3, .int (x6 + 5)), (0, .ref b), (1, rV (fullE E4) 0), (2, rV (fullE E4) 100)] dL_law_1155 3 rfl rfl (by decide) rfl ?_
        refine s_goto 18 dL_law_1158 (by decide) ?_
        refine s_sub [1, 2, 3, 0] rfl ?_
        exact ih8 s101 (x6 + 5)
      · skip
        refine s_iconst (v := 0) dL_law_998 (by decide) ?_
        exact s_no
    · skip
      refine s_aload_n dL_law_1000 1 rfl rfl ?_
      refine s_aload_n dL_law_1001 0 rfl rfl ?_
      refine s_iload_n dL_law_1002 3 rfl rfl ?_
      refine s_iconst (v := 1) dL_law_1003 (by decide) ?_
      refine s_iadd dL_law_1004 ?_
      refine l_sld hX hbl hbA dL_law_1005 ?_
      refine s_callVpI (As := [.int (xs (x6 + (1 : Int32)).toNatClampNeg)]) mf_X9_least vf_X9_least ml_L_111 (c_X9_least _ (fullE E4) hF s5 (xs (x6 + (1 : Int32)).toNatClampNeg)) (m0 hF) (show kd 0 = 9 from rfl) (by decide) rfl rfl rfl rfl (Nat.le_of_ble_eq_true rfl) rfl dL_law_1006 (fun r102 => ?_)
      refine s_aload_n dL_law_1009 2 rfl rfl ?_
      refine s_aload_n dL_law_1010 0 rfl rfl ?_
      refine s_iload_n dL_law_1011 3 rfl rfl ?_
      refine s_iconst (v := 1) dL_law_1012 (by decide) ?_
      refine s_iadd dL_law_1013 ?_
      refine l_sld hX hbl hbA dL_law_1014 ?_
      refine s_callVpI (As := [.int (xs (x6 + (1 : Int32)).toNatClampNeg)]) mf_X10_least vf_X10_least ml_L_114 (c_X10_least _ (fullE E4) hF s5 (xs (x6 + (1 : Int32)).toNatClampNeg)) (m100 hF) (show kd 100 = 10 from rfl) (by decide) rfl rfl rfl rfl (Nat.le_of_ble_eq_true rfl) rfl dL_law_1015 (fun r103 => ?_)
      refine s_icmp_eq 1155 dL_law_1018 (by decide) ?_ ?_
      · skip
        refine s_iinc [(3, .int (x6 + 5)), (0, .ref b), (1, rV (fullE E4) 0), (2, rV (fullE E4) 100)] dL_law_1155 3 rfl rfl (by decide) rfl ?_
        refine s_goto 18 dL_law_1158 (by decide) ?_
        refine s_sub [1, 2, 3, 0] rfl ?_
        exact ih8 s5 (x6 + 5)
      · skip
        refine s_iconst (v := 0) dL_law_1021 (by decide) ?_
        exact s_no
    · skip
      refine s_aload_n dL_law_1023 1 rfl rfl ?_
      refine s_aload_n dL_law_1024 0 rfl rfl ?_
      refine s_iload_n dL_law_1025 3 rfl rfl ?_
      refine s_iconst (v := 1) dL_law_1026 (by decide) ?_
      refine s_iadd dL_law_1027 ?_
      refine l_sld hX hbl hbA dL_law_1028 ?_
      refine s_aload_n dL_law_1029 0 rfl rfl ?_
      refine s_iload_n dL_law_1030 3 rfl rfl ?_
      refine s_iconst (v := 2) dL_law_1031 (by decide) ?_
      refine s_iadd dL_law_1032 ?_
      refine l_sld hX hbl hbA dL_law_1033 ?_
      refine s_callVwI (As := [.int (xs (x6 + (1 : Int32)).toNatClampNeg), .int (xs (x6 + (2 : Int32)).toNatClampNeg)]) mf_X9_safe vf_X9_safe ml_L_115 (c_X9_safe _ (fullE E4) hF s5 (xs (x6 + (1 : Int32)).toNatClampNeg) (xs (x6 + (2 : Int32)).toNatClampNeg)) (m0 hF) (show kd 0 = 9 from rfl) (by decide) rfl rfl rfl rfl (Nat.le_of_ble_eq_true rfl) rfl dL_law_1034 (fun r104 s105 => ?_)
      refine s_aload_n dL_law_1037 2 rfl rfl ?_
      refine s_aload_n dL_law_1038 0 rfl rfl ?_
      refine s_iload_n dL_law_1039 3 rfl rfl ?_
      refine s_iconst (v := 1) dL_law_1040 (by decide) ?_
      refine s_iadd dL_law_1041 ?_
      refine l_sld hX hbl hbA dL_law_1042 ?_
      refine s_aload_n dL_law_1043 0 rfl rfl ?_
      refine s_iload_n dL_law_1044 3 rfl rfl ?_
      refine s_iconst (v := 2) dL_law_1045 (by decide) ?_
      refine s_iadd dL_law_1046 ?_
      refine l_sld hX hbl hbA dL_law_1047 ?_
      refine s_callVwI (As := [.int (xs (x6 + (1 : Int32)).toNatClampNeg), .int (xs (x6 + (2 : Int32)).toNatClampNeg)]) mf_X10_safe vf_X10_safe ml_L_118 (c_X10_safe _ (fullE E4) hF s105 (xs (x6 + (1 : Int32)).toNatClampNeg) (xs (x6 + (2 : Int32)).toNatClampNeg)) (m100 hF) (show kd 100 = 10 from rfl) (by decide) rfl rfl rfl rfl (Nat.le_of_ble_eq_true rfl) rfl dL_law_1048 (fun r106 s107 => ?_)
      refine s_icmp_eq 1155 dL_law_1051 (by decide) ?_ ?_
      · skip
        refine s_iinc [(3, .int (x6 + 5)), (0, .ref b), (1, rV (fullE E4) 0), (2, rV (fullE E4) 100)] dL_law_1155 3 rfl rfl (by decide) rfl ?_
        refine s_goto 18 dL_law_1158 (by decide) ?_
        refine s_sub [1, 2, 3, 0] rfl ?_
        exact ih8 s107 (x6 + 5)
      · skip
        refine s_iconst (v := 0) dL_law_1054 (by decide) ?_
        exact s_no
    · skip
      refine s_aload_n dL_law_1056 1 rfl rfl ?_
      refine s_aload_n dL_law_1057 0 rfl rfl ?_
      refine s_iload_n dL_law_1058 3 rfl rfl ?_
      refine s_iconst (v := 1) dL_law_1059 (by decide) ?_
      refine s_iadd dL_law_1060 ?_
      refine l_sld hX hbl hbA dL_law_1061 ?_
      refine s_aload_n dL_law_1062 0 rfl rfl ?_
      refine s_iload_n dL_law_1063 3 rfl rfl ?_
      refine s_iconst (v := 2) dL_law_1064 (by decide) ?_
      refine s_iadd dL_law_1065 ?_
      refine l_sld hX hbl hbA dL_law_1066 ?_
      refine s_callVwI (As := [.int (xs (x6 + (1 : Int32)).toNatClampNeg), .int (xs (x6 + (2 : Int32)).toNatClampNeg)]) mf_X9_guards vf_X9_guards ml_L_119 (c_X9_guards _ (fullE E4) hF s5 (xs (x6 + (1 : Int32)).toNatClampNeg) (xs (x6 + (2 : Int32)).toNatClampNeg)) (m0 hF) (show kd 0 = 9 from rfl) (by decide) rfl rfl rfl rfl (Nat.le_of_ble_eq_true rfl) rfl dL_law_1067 (fun r108 s109 => ?_)
      refine s_aload_n dL_law_1070 2 rfl rfl ?_
      refine s_aload_n dL_law_1071 0 rfl rfl ?_
      refine s_iload_n dL_law_1072 3 rfl rfl ?_
      refine s_iconst (v := 1) dL_law_1073 (by decide) ?_
      refine s_iadd dL_law_1074 ?_
      refine l_sld hX hbl hbA dL_law_1075 ?_
      refine s_aload_n dL_law_1076 0 rfl rfl ?_
      refine s_iload_n dL_law_1077 3 rfl rfl ?_
      refine s_iconst (v := 2) dL_law_1078 (by decide) ?_
      refine s_iadd dL_law_1079 ?_
      refine l_sld hX hbl hbA dL_law_1080 ?_
      refine s_callVwI (As := [.int (xs (x6 + (1 : Int32)).toNatClampNeg), .int (xs (x6 + (2 : Int32)).toNatClampNeg)]) mf_X10_guards vf_X10_guards ml_L_122 (c_X10_guards _ (fullE E4) hF s109 (xs (x6 + (1 : Int32)).toNatClampNeg) (xs (x6 + (2 : Int32)).toNatClampNeg)) (m100 hF) (show kd 100 = 10 from rfl) (by decide) rfl rfl rfl rfl (Nat.le_of_ble_eq_true rfl) rfl dL_law_1081 (fun r110 s111 => ?_)
      refine s_icmp_eq 1155 dL_law_1084 (by decide) ?_ ?_
      · skip
        refine s_iinc [(3, .int (x6 + 5)), (0, .ref b), (1, rV (fullE E4) 0), (2, rV (fullE E4) 100)] dL_law_1155 3 rfl rfl (by decide) rfl ?_
        refine s_goto 18 dL_law_1158 (by decide) ?_
        refine s_sub [1, 2, 3, 0] rfl ?_
        exact ih8 s111 (x6 + 5)
      · skip
        refine s_iconst (v := 0) dL_law_1087 (by decide) ?_
        exact s_no
    · skip
      refine s_aload_n dL_law_1089 1 rfl rfl ?_
      refine s_aload_n dL_law_1090 0 rfl rfl ?_
      refine s_iload_n dL_law_1091 3 rfl rfl ?_
      refine s_iconst (v := 1) dL_law_1092 (by decide) ?_
      refine s_iadd dL_law_1093 ?_
      refine l_sld hX hbl hbA dL_law_1094 ?_
      refine s_aload_n dL_law_1095 0 rfl rfl ?_
      refine s_iload_n dL_law_1096 3 rfl rfl ?_
      refine s_iconst (v := 2) dL_law_1097 (by decide) ?_
      refine s_iadd dL_law_1098 ?_
      refine l_sld hX hbl hbA dL_law_1099 ?_
      refine s_aload_n dL_law_1100 0 rfl rfl ?_
      refine s_iload_n dL_law_1101 3 rfl rfl ?_
      refine s_iconst (v := 3) dL_law_1102 (by decide) ?_
      refine s_iadd dL_law_1103 ?_
      refine l_sld hX hbl hbA dL_law_1104 ?_
      refine s_callVwI (As := [.int (xs (x6 + (1 : Int32)).toNatClampNeg), .int (xs (x6 + (2 : Int32)).toNatClampNeg), .int (xs (x6 + (3 : Int32)).toNatClampNeg)]) mf_X9_answer vf_X9_answer ml_L_123 (c_X9_answer _ (fullE E4) hF s5 (xs (x6 + (1 : Int32)).toNatClampNeg) (xs (x6 + (2 : Int32)).toNatClampNeg) (xs (x6 + (3 : Int32)).toNatClampNeg)) (m0 hF) (show kd 0 = 9 from rfl) (by decide) rfl rfl rfl rfl (Nat.le_of_ble_eq_true rfl) rfl dL_law_1105 (fun r112 s113 => ?_)
      refine s_aload_n dL_law_1108 2 rfl rfl ?_
      refine s_aload_n dL_law_1109 0 rfl rfl ?_
      refine s_iload_n dL_law_1110 3 rfl rfl ?_
      refine s_iconst (v := 1) dL_law_1111 (by decide) ?_
      refine s_iadd dL_law_1112 ?_
      refine l_sld hX hbl hbA dL_law_1113 ?_
      refine s_aload_n dL_law_1114 0 rfl rfl ?_
      refine s_iload_n dL_law_1115 3 rfl rfl ?_
      refine s_iconst (v := 2) dL_law_1116 (by decide) ?_
      refine s_iadd dL_law_1117 ?_
      refine l_sld hX hbl hbA dL_law_1118 ?_
      refine s_aload_n dL_law_1119 0 rfl rfl ?_
      refine s_iload_n dL_law_1120 3 rfl rfl ?_
      refine s_iconst (v := 3) dL_law_1121 (by decide) ?_
      refine s_iadd dL_law_1122 ?_
      refine l_sld hX hbl hbA dL_law_1123 ?_
      refine s_callVwI (As := [.int (xs (x6 + (1 : Int32)).toNatClampNeg), .int (xs (x6 + (2 : Int32)).toNatClampNeg), .int (xs (x6 + (3 : Int32)).toNatClampNeg)]) mf_X10_answer vf_X10_answer ml_L_126 (c_X10_answer _ (fullE E4) hF s113 (xs (x6 + (1 : Int32)).toNatClampNeg) (xs (x6 + (2 : Int32)).toNatClampNeg) (xs (x6 + (3 : Int32)).toNatClampNeg)) (m100 hF) (show kd 100 = 10 from rfl) (by decide) rfl rfl rfl rfl (Nat.le_of_ble_eq_true rfl) rfl dL_law_1124 (fun r114 s115 => ?_)
      refine s_icmp_eq 1155 dL_law_1127 (by decide) ?_ ?_
      · skip
        refine s_iinc [(3, .int (x6 + 5)), (0, .ref b), (1, rV (fullE E4) 0), (2, rV (fullE E4) 100)] dL_law_1155 3 rfl rfl (by decide) rfl ?_
        refine s_goto 18 dL_law_1158 (by decide) ?_
        refine s_sub [1, 2, 3, 0] rfl ?_
        exact ih8 s115 (x6 + 5)
      · skip
        refine s_iconst (v := 0) dL_law_1130 (by decide) ?_
        exact s_no
    · skip
      refine s_aload_n dL_law_1132 1 rfl rfl ?_
      refine s_aload_n dL_law_1133 0 rfl rfl ?_
      refine s_iload_n dL_law_1134 3 rfl rfl ?_
      refine s_iconst (v := 1) dL_law_1135 (by decide) ?_
      refine s_iadd dL_law_1136 ?_
      refine l_sld hX hbl hbA dL_law_1137 ?_
      refine s_callVpI (As := [.int (xs (x6 + (1 : Int32)).toNatClampNeg)]) mf_X9_count vf_X9_count ml_L_127 (c_X9_count _ (fullE E4) hF s5 (xs (x6 + (1 : Int32)).toNatClampNeg)) (m0 hF) (show kd 0 = 9 from rfl) (by decide) rfl rfl rfl rfl (Nat.le_of_ble_eq_true rfl) rfl dL_law_1138 (fun r116 => ?_)
      refine s_aload_n dL_law_1141 2 rfl rfl ?_
      refine s_aload_n dL_law_1142 0 rfl rfl ?_
      refine s_iload_n dL_law_1143 3 rfl rfl ?_
      refine s_iconst (v := 1) dL_law_1144 (by decide) ?_
      refine s_iadd dL_law_1145 ?_
      refine l_sld hX hbl hbA dL_law_1146 ?_
      refine s_callVpI (As := [.int (xs (x6 + (1 : Int32)).toNatClampNeg)]) mf_X10_count vf_X10_count ml_L_130 (c_X10_count _ (fullE E4) hF s5 (xs (x6 + (1 : Int32)).toNatClampNeg)) (m100 hF) (show kd 100 = 10 from rfl) (by decide) rfl rfl rfl rfl (Nat.le_of_ble_eq_true rfl) rfl dL_law_1147 (fun r117 => ?_)
      refine s_icmp_eq 1155 dL_law_1150 (by decide) ?_ ?_
      · skip
        refine s_iinc [(3, .int (x6 + 5)), (0, .ref b), (1, rV (fullE E4) 0), (2, rV (fullE E4) 100)] dL_law_1155 3 rfl rfl (by decide) rfl ?_
        refine s_goto 18 dL_law_1158 (by decide) ?_
        refine s_sub [1, 2, 3, 0] rfl ?_
        exact ih8 s5 (x6 + 5)
      · skip
        refine s_iconst (v := 0) dL_law_1153 (by decide) ?_
        exact s_no
