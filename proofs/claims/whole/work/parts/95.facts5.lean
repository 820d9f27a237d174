/-! Facts of the law. -/
theorem kw_671166710 : Cond.classLink RL 8 RX10 ∈ vg_T := vg_tn (i := 34) (by decide +kernel) (by decide +kernel)
theorem kw_126079074 : Cond.instantiable RX10 5 ∈ vg_T := vg_tn (i := 35) (by decide +kernel) (by decide +kernel)
theorem fN_L_8 : vg_N RL 8 13 5 [.null, .null, .null, .null, .int 0] := ⟨RX10, TX10, tyX10, vcl_13, kw_671166710, kw_126079074, kw_630383447, by decide +kernel⟩
theorem kw_271612480 : Cond.methodLink RL 34 yX10_init ∈ vg_T := vg_tn (i := 36) (by decide +kernel) (by decide +kernel)
theorem kw_508203142 : Cond.code yX10_init cX10_init 1 none ∈ vg_T := vg_tn (i := 38) (by decide +kernel) (by decide +kernel)
theorem kw_275070982 : Cond.instanceMethod yX10_init ∈ vg_T := vg_tn (i := 37) (by decide +kernel) (by decide +kernel)
theorem fCI_L_34 : vg_CI RL 34 yX10_init cX10_init 1 0 := ⟨kw_271612480, kw_275070982, kw_630383447, kw_508203142, rfl, ⟨by decide +kernel, by decide +kernel, by decide +kernel⟩, by decide⟩
theorem kw_788755848 : Cond.classLink RL 35 RX11 ∈ vg_T := vg_tn (i := 1186) (by decide +kernel) (by decide +kernel)
theorem kw_518606468 : Cond.instantiable RX11 39 ∈ vg_T := vg_tn (i := 1187) (by decide +kernel) (by decide +kernel)
theorem fN_L_35 : vg_N RL 35 14 39 [.int 0, .null, .int 0, .int 0, .null, .null, .null, .null, .null, .null, .null, .null, .null, .int 0, .int 0, .int 0, .null, .null, .null, .null, .null, .null, .null, .null, .null, .int 0, .int 0, .int 0, .null, .null, .int 0, .null, .null, .null, .null, .null, .int 0, .null, .null] := ⟨RX11, TX11, tyX11, vcl_14, kw_788755848, kw_518606468, kw_630383448, by decide +kernel⟩
theorem kw_782169695 : Cond.methodLink RL 37 yX11_init ∈ vg_T := vg_tn (i := 1188) (by decide +kernel) (by decide +kernel)
theorem kw_21759530 : Cond.code yX11_init cX11_init 1 none ∈ vg_T := vg_tn (i := 1190) (by decide +kernel) (by decide +kernel)
theorem kw_854560367 : Cond.instanceMethod yX11_init ∈ vg_T := vg_tn (i := 1189) (by decide +kernel) (by decide +kernel)
theorem fCI_L_37 : vg_CI RL 37 yX11_init cX11_init 1 0 := ⟨kw_782169695, kw_854560367, kw_630383448, kw_21759530, rfl, ⟨by decide +kernel, by decide +kernel, by decide +kernel⟩, by decide⟩
theorem kw_204621594 : Cond.methodLink RL 38 yX10_type ∈ vg_T := vg_tn (i := 209) (by decide +kernel) (by decide +kernel)
theorem kw_396756974 : Cond.code yX10_type cX10_type 2 (some .boolean) ∈ vg_T := vg_tn (i := 212) (by decide +kernel) (by decide +kernel)
theorem kw_299989656 : Cond.instanceMethod yX10_type ∈ vg_T := vg_tn (i := 210) (by decide +kernel) (by decide +kernel)
theorem kw_960747202 : Cond.selects RX10 yX10_type yX10_type ∈ vg_T := vg_tn (i := 211) (by decide +kernel) (by decide +kernel)
theorem fCV_L_38 : vg_CV RL 38 RX10 yX10_type cX10_type 2 (some .boolean) 1 := ⟨kw_204621594, kw_299989656, kw_960747202, kw_630383447, kw_396756974, ⟨rfl, by decide +kernel, by decide +kernel, by decide +kernel⟩, by decide⟩
theorem kw_911937250 : Cond.methodLink RL 42 yX11_type ∈ vg_T := vg_tn (i := 1315) (by decide +kernel) (by decide +kernel)
theorem kw_904441524 : Cond.code yX11_type cX11_type 2 (some .boolean) ∈ vg_T := vg_tn (i := 1318) (by decide +kernel) (by decide +kernel)
theorem kw_879479041 : Cond.instanceMethod yX11_type ∈ vg_T := vg_tn (i := 1316) (by decide +kernel) (by decide +kernel)
theorem kw_480953881 : Cond.selects RX11 yX11_type yX11_type ∈ vg_T := vg_tn (i := 1317) (by decide +kernel) (by decide +kernel)
theorem fCV_L_42 : vg_CV RL 42 RX11 yX11_type cX11_type 2 (some .boolean) 1 := ⟨kw_911937250, kw_879479041, kw_480953881, kw_630383448, kw_904441524, ⟨rfl, by decide +kernel, by decide +kernel, by decide +kernel⟩, by decide⟩
theorem kw_742324536 : Cond.methodLink RL 48 yX11_file ∈ vg_T := vg_tn (i := 1319) (by decide +kernel) (by decide +kernel)
theorem kw_390543582 : Cond.code yX11_file cX11_file 1 (some .int) ∈ vg_T := vg_tn (i := 1322) (by decide +kernel) (by decide +kernel)
theorem kw_847730667 : Cond.instanceMethod yX11_file ∈ vg_T := vg_tn (i := 1320) (by decide +kernel) (by decide +kernel)
theorem kw_215362902 : Cond.selects RX11 yX11_file yX11_file ∈ vg_T := vg_tn (i := 1321) (by decide +kernel) (by decide +kernel)
theorem fCV_L_48 : vg_CV RL 48 RX11 yX11_file cX11_file 1 (some .int) 0 := ⟨kw_742324536, kw_847730667, kw_215362902, kw_630383448, kw_390543582, ⟨rfl, by decide +kernel, by decide +kernel, by decide +kernel⟩, by decide⟩
theorem kw_548313366 : Cond.methodLink RL 49 yX11_thrown ∈ vg_T := vg_tn (i := 1311) (by decide +kernel) (by decide +kernel)
theorem kw_210156729 : Cond.code yX11_thrown cX11_thrown 1 (some .int) ∈ vg_T := vg_tn (i := 1314) (by decide +kernel) (by decide +kernel)
theorem kw_737901826 : Cond.instanceMethod yX11_thrown ∈ vg_T := vg_tn (i := 1312) (by decide +kernel) (by decide +kernel)
theorem kw_272315855 : Cond.selects RX11 yX11_thrown yX11_thrown ∈ vg_T := vg_tn (i := 1313) (by decide +kernel) (by decide +kernel)
theorem fCV_L_49 : vg_CV RL 49 RX11 yX11_thrown cX11_thrown 1 (some .int) 0 := ⟨kw_548313366, kw_737901826, kw_272315855, kw_630383448, kw_210156729, ⟨rfl, by decide +kernel, by decide +kernel, by decide +kernel⟩, by decide⟩
theorem kw_794916042 : Cond.methodLink RL 54 yX11_folder ∈ vg_T := vg_tn (i := 1362) (by decide +kernel) (by decide +kernel)
theorem kw_178339618 : Cond.code yX11_folder cX11_folder 1 (some .int) ∈ vg_T := vg_tn (i := 1365) (by decide +kernel) (by decide +kernel)
theorem kw_672870254 : Cond.instanceMethod yX11_folder ∈ vg_T := vg_tn (i := 1363) (by decide +kernel) (by decide +kernel)
theorem kw_914469880 : Cond.selects RX11 yX11_folder yX11_folder ∈ vg_T := vg_tn (i := 1364) (by decide +kernel) (by decide +kernel)
theorem fCV_L_54 : vg_CV RL 54 RX11 yX11_folder cX11_folder 1 (some .int) 0 := ⟨kw_794916042, kw_672870254, kw_914469880, kw_630383448, kw_178339618, ⟨rfl, by decide +kernel, by decide +kernel, by decide +kernel⟩, by decide⟩
theorem kw_861267411 : Cond.methodLink RL 57 yX11_remove ∈ vg_T := vg_tn (i := 1366) (by decide +kernel) (by decide +kernel)
theorem kw_257889415 : Cond.code yX11_remove cX11_remove 3 (some .int) ∈ vg_T := vg_tn (i := 1369) (by decide +kernel) (by decide +kernel)
theorem kw_684182712 : Cond.instanceMethod yX11_remove ∈ vg_T := vg_tn (i := 1367) (by decide +kernel) (by decide +kernel)
theorem kw_380680621 : Cond.selects RX11 yX11_remove yX11_remove ∈ vg_T := vg_tn (i := 1368) (by decide +kernel) (by decide +kernel)
theorem fCV_L_57 : vg_CV RL 57 RX11 yX11_remove cX11_remove 3 (some .int) 0 := ⟨kw_861267411, kw_684182712, kw_380680621, kw_630383448, kw_257889415, ⟨rfl, by decide +kernel, by decide +kernel, by decide +kernel⟩, by decide⟩
theorem kw_905432577 : Cond.methodLink RL 61 yX11_pack ∈ vg_T := vg_tn (i := 1374) (by decide +kernel) (by decide +kernel)
theorem kw_758154312 : Cond.code yX11_pack cX11_pack 3 none ∈ vg_T := vg_tn (i := 1377) (by decide +kernel) (by decide +kernel)
theorem kw_870073116 : Cond.instanceMethod yX11_pack ∈ vg_T := vg_tn (i := 1375) (by decide +kernel) (by decide +kernel)
theorem kw_77070838 : Cond.selects RX11 yX11_pack yX11_pack ∈ vg_T := vg_tn (i := 1376) (by decide +kernel) (by decide +kernel)
theorem fCV_L_61 : vg_CV RL 61 RX11 yX11_pack cX11_pack 3 none 1 := ⟨kw_905432577, kw_870073116, kw_77070838, kw_630383448, kw_758154312, ⟨rfl, by decide +kernel, by decide +kernel, by decide +kernel⟩, by decide⟩
theorem kw_921049655 : Cond.methodLink RL 64 yX11_query ∈ vg_T := vg_tn (i := 1378) (by decide +kernel) (by decide +kernel)
theorem kw_660825828 : Cond.code yX11_query cX11_query 3 (some .int) ∈ vg_T := vg_tn (i := 1381) (by decide +kernel) (by decide +kernel)
theorem kw_319074499 : Cond.instanceMethod yX11_query ∈ vg_T := vg_tn (i := 1379) (by decide +kernel) (by decide +kernel)
theorem kw_160821305 : Cond.selects RX11 yX11_query yX11_query ∈ vg_T := vg_tn (i := 1380) (by decide +kernel) (by decide +kernel)
theorem fCV_L_64 : vg_CV RL 64 RX11 yX11_query cX11_query 3 (some .int) 0 := ⟨kw_921049655, kw_319074499, kw_160821305, kw_630383448, kw_660825828, ⟨rfl, by decide +kernel, by decide +kernel, by decide +kernel⟩, by decide⟩
theorem kw_998585474 : Cond.methodLink RL 68 yX11_pattern ∈ vg_T := vg_tn (i := 1382) (by decide +kernel) (by decide +kernel)
theorem kw_371058140 : Cond.code yX11_pattern cX11_pattern 6 none ∈ vg_T := vg_tn (i := 1385) (by decide +kernel) (by decide +kernel)
theorem kw_556209281 : Cond.instanceMethod yX11_pattern ∈ vg_T := vg_tn (i := 1383) (by decide +kernel) (by decide +kernel)
theorem kw_448972869 : Cond.selects RX11 yX11_pattern yX11_pattern ∈ vg_T := vg_tn (i := 1384) (by decide +kernel) (by decide +kernel)
theorem fCV_L_68 : vg_CV RL 68 RX11 yX11_pattern cX11_pattern 6 none 2 := ⟨kw_998585474, kw_556209281, kw_448972869, kw_630383448, kw_371058140, ⟨rfl, by decide +kernel, by decide +kernel, by decide +kernel⟩, by decide⟩
theorem kw_642947038 : Cond.methodLink RL 69 yX10_place ∈ vg_T := vg_tn (i := 315) (by decide +kernel) (by decide +kernel)
theorem kw_524756886 : Cond.code yX10_place cX10_place 1 (some .int) ∈ vg_T := vg_tn (i := 318) (by decide +kernel) (by decide +kernel)
theorem kw_91162227 : Cond.instanceMethod yX10_place ∈ vg_T := vg_tn (i := 316) (by decide +kernel) (by decide +kernel)
theorem kw_200633788 : Cond.selects RX10 yX10_place yX10_place ∈ vg_T := vg_tn (i := 317) (by decide +kernel) (by decide +kernel)
theorem fCV_L_69 : vg_CV RL 69 RX10 yX10_place cX10_place 1 (some .int) 0 := ⟨kw_642947038, kw_91162227, kw_200633788, kw_630383447, kw_524756886, ⟨rfl, by decide +kernel, by decide +kernel, by decide +kernel⟩, by decide⟩
theorem kw_311335392 : Cond.methodLink RL 72 yX11_place ∈ vg_T := vg_tn (i := 1402) (by decide +kernel) (by decide +kernel)
theorem kw_702648446 : Cond.code yX11_place cX11_place 1 (some .int) ∈ vg_T := vg_tn (i := 1405) (by decide +kernel) (by decide +kernel)
theorem kw_4271130 : Cond.instanceMethod yX11_place ∈ vg_T := vg_tn (i := 1403) (by decide +kernel) (by decide +kernel)
theorem kw_763352278 : Cond.selects RX11 yX11_place yX11_place ∈ vg_T := vg_tn (i := 1404) (by decide +kernel) (by decide +kernel)
theorem fCV_L_72 : vg_CV RL 72 RX11 yX11_place cX11_place 1 (some .int) 0 := ⟨kw_311335392, kw_4271130, kw_763352278, kw_630383448, kw_702648446, ⟨rfl, by decide +kernel, by decide +kernel, by decide +kernel⟩, by decide⟩
theorem kw_612492667 : Cond.methodLink RL 73 yX10_ask ∈ vg_T := vg_tn (i := 319) (by decide +kernel) (by decide +kernel)
theorem kw_160125201 : Cond.code yX10_ask cX10_ask 4 (some .int) ∈ vg_T := vg_tn (i := 322) (by decide +kernel) (by decide +kernel)
theorem kw_78299025 : Cond.instanceMethod yX10_ask ∈ vg_T := vg_tn (i := 320) (by decide +kernel) (by decide +kernel)
theorem kw_999167550 : Cond.selects RX10 yX10_ask yX10_ask ∈ vg_T := vg_tn (i := 321) (by decide +kernel) (by decide +kernel)
theorem fCV_L_73 : vg_CV RL 73 RX10 yX10_ask cX10_ask 4 (some .int) 1 := ⟨kw_612492667, kw_78299025, kw_999167550, kw_630383447, kw_160125201, ⟨rfl, by decide +kernel, by decide +kernel, by decide +kernel⟩, by decide⟩
theorem kw_539878772 : Cond.methodLink RL 77 yX11_ask ∈ vg_T := vg_tn (i := 1406) (by decide +kernel) (by decide +kernel)
theorem kw_1902866 : Cond.code yX11_ask cX11_ask 5 (some .int) ∈ vg_T := vg_tn (i := 1409) (by decide +kernel) (by decide +kernel)
theorem kw_372798946 : Cond.instanceMethod yX11_ask ∈ vg_T := vg_tn (i := 1407) (by decide +kernel) (by decide +kernel)
theorem kw_590033687 : Cond.selects RX11 yX11_ask yX11_ask ∈ vg_T := vg_tn (i := 1408) (by decide +kernel) (by decide +kernel)
theorem fCV_L_77 : vg_CV RL 77 RX11 yX11_ask cX11_ask 5 (some .int) 1 := ⟨kw_539878772, kw_372798946, kw_590033687, kw_630383448, kw_1902866, ⟨rfl, by decide +kernel, by decide +kernel, by decide +kernel⟩, by decide⟩
theorem kw_874900416 : Cond.methodLink RL 78 yX10_looked ∈ vg_T := vg_tn (i := 771) (by decide +kernel) (by decide +kernel)
theorem kw_161490094 : Cond.code yX10_looked cX10_looked 1 (some .int) ∈ vg_T := vg_tn (i := 774) (by decide +kernel) (by decide +kernel)
theorem kw_539404552 : Cond.instanceMethod yX10_looked ∈ vg_T := vg_tn (i := 772) (by decide +kernel) (by decide +kernel)
theorem kw_199849666 : Cond.selects RX10 yX10_looked yX10_looked ∈ vg_T := vg_tn (i := 773) (by decide +kernel) (by decide +kernel)
theorem fCV_L_78 : vg_CV RL 78 RX10 yX10_looked cX10_looked 1 (some .int) 0 := ⟨kw_874900416, kw_539404552, kw_199849666, kw_630383447, kw_161490094, ⟨rfl, by decide +kernel, by decide +kernel, by decide +kernel⟩, by decide⟩
theorem kw_433775091 : Cond.methodLink RL 81 yX11_looked ∈ vg_T := vg_tn (i := 1498) (by decide +kernel) (by decide +kernel)
theorem kw_754631837 : Cond.code yX11_looked cX11_looked 1 (some .int) ∈ vg_T := vg_tn (i := 1501) (by decide +kernel) (by decide +kernel)
theorem kw_156670922 : Cond.instanceMethod yX11_looked ∈ vg_T := vg_tn (i := 1499) (by decide +kernel) (by decide +kernel)
theorem kw_767160514 : Cond.selects RX11 yX11_looked yX11_looked ∈ vg_T := vg_tn (i := 1500) (by decide +kernel) (by decide +kernel)
theorem fCV_L_81 : vg_CV RL 81 RX11 yX11_looked cX11_looked 1 (some .int) 0 := ⟨kw_433775091, kw_156670922, kw_767160514, kw_630383448, kw_754631837, ⟨rfl, by decide +kernel, by decide +kernel, by decide +kernel⟩, by decide⟩
theorem kw_841836892 : Cond.methodLink RL 82 yX10_answer ∈ vg_T := vg_tn (i := 775) (by decide +kernel) (by decide +kernel)
theorem kw_524814054 : Cond.code yX10_answer cX10_answer 3 (some .int) ∈ vg_T := vg_tn (i := 778) (by decide +kernel) (by decide +kernel)
theorem kw_879719755 : Cond.instanceMethod yX10_answer ∈ vg_T := vg_tn (i := 776) (by decide +kernel) (by decide +kernel)
theorem kw_553081498 : Cond.selects RX10 yX10_answer yX10_answer ∈ vg_T := vg_tn (i := 777) (by decide +kernel) (by decide +kernel)
theorem fCV_L_82 : vg_CV RL 82 RX10 yX10_answer cX10_answer 3 (some .int) 2 := ⟨kw_841836892, kw_879719755, kw_553081498, kw_630383447, kw_524814054, ⟨rfl, by decide +kernel, by decide +kernel, by decide +kernel⟩, by decide⟩
theorem kw_199155141 : Cond.methodLink RL 86 yX11_answer ∈ vg_T := vg_tn (i := 1502) (by decide +kernel) (by decide +kernel)
theorem kw_117955790 : Cond.code yX11_answer cX11_answer 3 (some .int) ∈ vg_T := vg_tn (i := 1505) (by decide +kernel) (by decide +kernel)
theorem kw_496986125 : Cond.instanceMethod yX11_answer ∈ vg_T := vg_tn (i := 1503) (by decide +kernel) (by decide +kernel)
theorem kw_120392339 : Cond.selects RX11 yX11_answer yX11_answer ∈ vg_T := vg_tn (i := 1504) (by decide +kernel) (by decide +kernel)
theorem fCV_L_86 : vg_CV RL 86 RX11 yX11_answer cX11_answer 3 (some .int) 2 := ⟨kw_199155141, kw_496986125, kw_120392339, kw_630383448, kw_117955790, ⟨rfl, by decide +kernel, by decide +kernel, by decide +kernel⟩, by decide⟩
theorem kw_361764617 : Cond.methodLink RL 7 yX10_file ∈ vg_T := vg_tn (i := 788) (by decide +kernel) (by decide +kernel)
theorem kw_282720318 : Cond.code yX10_file cX10_file 1 (some .int) ∈ vg_T := vg_tn (i := 791) (by decide +kernel) (by decide +kernel)
theorem kw_268241282 : Cond.instanceMethod yX10_file ∈ vg_T := vg_tn (i := 789) (by decide +kernel) (by decide +kernel)
theorem kw_695156223 : Cond.selects RX10 yX10_file yX10_file ∈ vg_T := vg_tn (i := 790) (by decide +kernel) (by decide +kernel)
theorem fCV_L_7 : vg_CV RL 7 RX10 yX10_file cX10_file 1 (some .int) 0 := ⟨kw_361764617, kw_268241282, kw_695156223, kw_630383447, kw_282720318, ⟨rfl, by decide +kernel, by decide +kernel, by decide +kernel⟩, by decide⟩
theorem kw_285892189 : Cond.methodLink RL 17 yX10_folder ∈ vg_T := vg_tn (i := 941) (by decide +kernel) (by decide +kernel)
theorem kw_585197882 : Cond.code yX10_folder cX10_folder 1 (some .int) ∈ vg_T := vg_tn (i := 944) (by decide +kernel) (by decide +kernel)
theorem kw_55603877 : Cond.instanceMethod yX10_folder ∈ vg_T := vg_tn (i := 942) (by decide +kernel) (by decide +kernel)
theorem kw_347159032 : Cond.selects RX10 yX10_folder yX10_folder ∈ vg_T := vg_tn (i := 943) (by decide +kernel) (by decide +kernel)
theorem fCV_L_17 : vg_CV RL 17 RX10 yX10_folder cX10_folder 1 (some .int) 0 := ⟨kw_285892189, kw_55603877, kw_347159032, kw_630383447, kw_585197882, ⟨rfl, by decide +kernel, by decide +kernel, by decide +kernel⟩, by decide⟩
theorem kw_238812952 : Cond.methodLink RL 20 yX10_remove ∈ vg_T := vg_tn (i := 948) (by decide +kernel) (by decide +kernel)
theorem kw_979734711 : Cond.code yX10_remove cX10_remove 2 (some .int) ∈ vg_T := vg_tn (i := 951) (by decide +kernel) (by decide +kernel)
theorem kw_66916335 : Cond.instanceMethod yX10_remove ∈ vg_T := vg_tn (i := 949) (by decide +kernel) (by decide +kernel)
theorem kw_813369780 : Cond.selects RX10 yX10_remove yX10_remove ∈ vg_T := vg_tn (i := 950) (by decide +kernel) (by decide +kernel)
theorem fCV_L_20 : vg_CV RL 20 RX10 yX10_remove cX10_remove 2 (some .int) 0 := ⟨kw_238812952, kw_66916335, kw_813369780, kw_630383447, kw_979734711, ⟨rfl, by decide +kernel, by decide +kernel, by decide +kernel⟩, by decide⟩
theorem kw_320140688 : Cond.methodLink RL 23 yX10_pack ∈ vg_T := vg_tn (i := 979) (by decide +kernel) (by decide +kernel)
theorem kw_244597917 : Cond.code yX10_pack cX10_pack 3 none ∈ vg_T := vg_tn (i := 982) (by decide +kernel) (by decide +kernel)
theorem kw_290583731 : Cond.instanceMethod yX10_pack ∈ vg_T := vg_tn (i := 980) (by decide +kernel) (by decide +kernel)
theorem kw_556864159 : Cond.selects RX10 yX10_pack yX10_pack ∈ vg_T := vg_tn (i := 981) (by decide +kernel) (by decide +kernel)
theorem fCV_L_23 : vg_CV RL 23 RX10 yX10_pack cX10_pack 3 none 1 := ⟨kw_320140688, kw_290583731, kw_556864159, kw_630383447, kw_244597917, ⟨rfl, by decide +kernel, by decide +kernel, by decide +kernel⟩, by decide⟩
theorem kw_237774659 : Cond.methodLink RL 27 yX10_query ∈ vg_T := vg_tn (i := 989) (by decide +kernel) (by decide +kernel)
theorem kw_167947236 : Cond.code yX10_query cX10_query 4 (some .int) ∈ vg_T := vg_tn (i := 992) (by decide +kernel) (by decide +kernel)
theorem kw_405965596 : Cond.instanceMethod yX10_query ∈ vg_T := vg_tn (i := 990) (by decide +kernel) (by decide +kernel)
theorem kw_598102822 : Cond.selects RX10 yX10_query yX10_query ∈ vg_T := vg_tn (i := 991) (by decide +kernel) (by decide +kernel)
theorem fCV_L_27 : vg_CV RL 27 RX10 yX10_query cX10_query 4 (some .int) 0 := ⟨kw_237774659, kw_405965596, kw_598102822, kw_630383447, kw_167947236, ⟨rfl, by decide +kernel, by decide +kernel, by decide +kernel⟩, by decide⟩
theorem kw_720352817 : Cond.methodLink RL 30 yX10_pattern ∈ vg_T := vg_tn (i := 1028) (by decide +kernel) (by decide +kernel)
theorem kw_78585924 : Cond.code yX10_pattern cX10_pattern 5 none ∈ vg_T := vg_tn (i := 1031) (by decide +kernel) (by decide +kernel)
theorem kw_694314461 : Cond.instanceMethod yX10_pattern ∈ vg_T := vg_tn (i := 1029) (by decide +kernel) (by decide +kernel)
theorem kw_873905219 : Cond.selects RX10 yX10_pattern yX10_pattern ∈ vg_T := vg_tn (i := 1030) (by decide +kernel) (by decide +kernel)
theorem fCV_L_30 : vg_CV RL 30 RX10 yX10_pattern cX10_pattern 5 none 2 := ⟨kw_720352817, kw_694314461, kw_873905219, kw_630383447, kw_78585924, ⟨rfl, by decide +kernel, by decide +kernel, by decide +kernel⟩, by decide⟩
theorem kL_13 : Cond.classLink RL 13 "java/lang/IllegalArgumentException" ∈ vg_T := vg_tn (i := 786) (by decide +kernel) (by decide +kernel)
theorem kL_15 : Cond.classLink RL 15 "java/lang/IllegalStateException" ∈ vg_T := vg_tn (i := 787) (by decide +kernel) (by decide +kernel)
abbrev hL_file : List (Nat × Nat × Nat × Nat) := [(0, 8, 11, 13), (0, 8, 14, 15)]
theorem kLc_file : Cond.codeWith yL_file cL_file 3 (some .int) hL_file ∈ vg_T := vg_tn (i := 785) (by decide +kernel) (by decide +kernel)
theorem kLm_file : Cond.methodLink RL 43 yL_file ∈ vg_T := vg_tn (i := 783) (by decide +kernel) (by decide +kernel)
theorem kLs_file : Cond.static yL_file ∈ vg_T := vg_tn (i := 784) (by decide +kernel) (by decide +kernel)
abbrev hL_folder : List (Nat × Nat × Nat × Nat) := [(0, 8, 11, 13), (0, 8, 14, 15)]
theorem kLc_folder : Cond.codeWith yL_folder cL_folder 3 (some .int) hL_folder ∈ vg_T := vg_tn (i := 940) (by decide +kernel) (by decide +kernel)
theorem kLm_folder : Cond.methodLink RL 52 yL_folder ∈ vg_T := vg_tn (i := 938) (by decide +kernel) (by decide +kernel)
theorem kLs_folder : Cond.static yL_folder ∈ vg_T := vg_tn (i := 939) (by decide +kernel) (by decide +kernel)
abbrev hL_remove : List (Nat × Nat × Nat × Nat) := [(0, 8, 11, 13), (0, 8, 14, 15)]
theorem kLc_remove : Cond.codeWith yL_remove cL_remove 3 (some .int) hL_remove ∈ vg_T := vg_tn (i := 947) (by decide +kernel) (by decide +kernel)
theorem kLm_remove : Cond.methodLink RL 55 yL_remove ∈ vg_T := vg_tn (i := 945) (by decide +kernel) (by decide +kernel)
theorem kLs_remove : Cond.static yL_remove ∈ vg_T := vg_tn (i := 946) (by decide +kernel) (by decide +kernel)
abbrev hL_pack : List (Nat × Nat × Nat × Nat) := [(0, 5, 8, 13), (0, 5, 11, 15)]
theorem kLc_pack : Cond.codeWith yL_pack cL_pack 3 (some .int) hL_pack ∈ vg_T := vg_tn (i := 978) (by decide +kernel) (by decide +kernel)
theorem kLm_pack : Cond.methodLink RL 58 yL_pack ∈ vg_T := vg_tn (i := 976) (by decide +kernel) (by decide +kernel)
theorem kLs_pack : Cond.static yL_pack ∈ vg_T := vg_tn (i := 977) (by decide +kernel) (by decide +kernel)
abbrev hL_query : List (Nat × Nat × Nat × Nat) := [(0, 8, 11, 13), (0, 8, 14, 15)]
theorem kLc_query : Cond.codeWith yL_query cL_query 3 (some .int) hL_query ∈ vg_T := vg_tn (i := 988) (by decide +kernel) (by decide +kernel)
theorem kLm_query : Cond.methodLink RL 62 yL_query ∈ vg_T := vg_tn (i := 986) (by decide +kernel) (by decide +kernel)
theorem kLs_query : Cond.static yL_query ∈ vg_T := vg_tn (i := 987) (by decide +kernel) (by decide +kernel)
abbrev hL_pattern : List (Nat × Nat × Nat × Nat) := [(0, 6, 9, 13), (0, 6, 12, 15)]
theorem kLc_pattern : Cond.codeWith yL_pattern cL_pattern 4 (some .int) hL_pattern ∈ vg_T := vg_tn (i := 1027) (by decide +kernel) (by decide +kernel)
theorem kLm_pattern : Cond.methodLink RL 65 yL_pattern ∈ vg_T := vg_tn (i := 1025) (by decide +kernel) (by decide +kernel)
theorem kLs_pattern : Cond.static yL_pattern ∈ vg_T := vg_tn (i := 1026) (by decide +kernel) (by decide +kernel)
theorem kLi : Cond.initialized RL ∈ vg_T := vg_tn (i := 0) (by decide +kernel) (by decide +kernel)
theorem kLa : Cond.arrayClass .long ∈ vg_T := vg_tn (i := 1506) (by decide +kernel) (by decide +kernel)
