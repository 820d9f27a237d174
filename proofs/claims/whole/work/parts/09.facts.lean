theorem vg_ws {C : String} {T : u_T} {N : Nat} (is : List Nat) (h : (u_ws C T N) = is.filterMap (fun i => tables_1[i]?)) (g : (u_ws C T N).all goodWord = true) : ∀ w ∈ u_ws C T N, w ∈ vg_T := by
  intro w hw
  have g1 := List.all_eq_true.mp g w hw
  rw [h] at hw
  obtain ⟨i, -, hi⟩ := List.mem_filterMap.mp hw
  exact vg_tn hi g1
theorem vcl_14 : vg_Cl 14 RX11 TX11 39 tyX11 := ⟨rfl, fun w hw => vg_ws [1231, 1233, 1235, 1237, 1239, 1241, 1243, 1245, 1247, 1249, 1251, 1253, 1255, 1257, 1259, 1261, 1263, 1265, 1267, 1269, 1271, 1273, 1275, 1277, 1279, 1281, 1283, 1285, 1287, 1289, 1291, 1293, 1295, 1297, 1299, 1301, 1303, 1305, 1307] (by decide +kernel) (by decide +kernel) w hw, tyX11_ok, nmX11⟩
theorem kw_161561530 : Cond.fieldLink RX11 127 "GlobRowsModel" "changes" "I" ∈ vg_T := vg_tn (i := 1206) (by decide +kernel) (by decide +kernel)
theorem fF_X11_127 : vg_F RX11 127 14 14 .int false := ⟨"GlobRowsModel", RX11, TX11, 39, tyX11, vcl_14, by decide, kw_161561530, Or.inl rfl, rfl, (fun h => nomatch h), by decide +kernel⟩
theorem kw_337744270 : Cond.fieldLink RX11 29 "GlobRowsModel" "touched" "[I" ∈ vg_T := vg_tn (i := 1201) (by decide +kernel) (by decide +kernel)
theorem fF_X11_29 : vg_F RX11 29 14 9 (.array .int) true := ⟨"GlobRowsModel", RX11, TX11, 39, tyX11, vcl_14, by decide, kw_337744270, Or.inl rfl, rfl, (fun _ => rfl), by decide +kernel⟩
theorem kw_132039426 : Cond.fieldLink RX11 20 "GlobRowsModel" "kind" "[I" ∈ vg_T := vg_tn (i := 1198) (by decide +kernel) (by decide +kernel)
theorem fF_X11_20 : vg_F RX11 20 14 6 (.array .int) true := ⟨"GlobRowsModel", RX11, TX11, 39, tyX11, vcl_14, by decide, kw_132039426, Or.inl rfl, rfl, (fun _ => rfl), by decide +kernel⟩
theorem kw_956051517 : Cond.fieldLink RX11 23 "GlobRowsModel" "around" "[I" ∈ vg_T := vg_tn (i := 1199) (by decide +kernel) (by decide +kernel)
theorem fF_X11_23 : vg_F RX11 23 14 7 (.array .int) true := ⟨"GlobRowsModel", RX11, TX11, 39, tyX11, vcl_14, by decide, kw_956051517, Or.inl rfl, rfl, (fun _ => rfl), by decide +kernel⟩
theorem kw_806261516 : Cond.fieldLink RX11 26 "GlobRowsModel" "nameSize" "[I" ∈ vg_T := vg_tn (i := 1200) (by decide +kernel) (by decide +kernel)
theorem fF_X11_26 : vg_F RX11 26 14 8 (.array .int) true := ⟨"GlobRowsModel", RX11, TX11, 39, tyX11, vcl_14, by decide, kw_806261516, Or.inl rfl, rfl, (fun _ => rfl), by decide +kernel⟩
theorem kw_710174473 : Cond.fieldLink RX11 17 "GlobRowsModel" "wordSize" "[I" ∈ vg_T := vg_tn (i := 1197) (by decide +kernel) (by decide +kernel)
theorem fF_X11_17 : vg_F RX11 17 14 5 (.array .int) true := ⟨"GlobRowsModel", RX11, TX11, 39, tyX11, vcl_14, by decide, kw_710174473, Or.inl rfl, rfl, (fun _ => rfl), by decide +kernel⟩
theorem kw_335374301 : Cond.fieldLink RX11 100 "GlobRowsModel" "made" "I" ∈ vg_T := vg_tn (i := 1205) (by decide +kernel) (by decide +kernel)
theorem fF_X11_100 : vg_F RX11 100 14 13 .int false := ⟨"GlobRowsModel", RX11, TX11, 39, tyX11, vcl_14, by decide, kw_335374301, Or.inl rfl, rfl, (fun h => nomatch h), by decide +kernel⟩
theorem kw_926374873 : Cond.fieldLink RX11 32 "GlobRowsModel" "own" "[I" ∈ vg_T := vg_tn (i := 1202) (by decide +kernel) (by decide +kernel)
theorem fF_X11_32 : vg_F RX11 32 14 10 (.array .int) true := ⟨"GlobRowsModel", RX11, TX11, 39, tyX11, vcl_14, by decide, kw_926374873, Or.inl rfl, rfl, (fun _ => rfl), by decide +kernel⟩
theorem kw_208131607 : Cond.fieldLink RX11 35 "GlobRowsModel" "packed" "[Z" ∈ vg_T := vg_tn (i := 1203) (by decide +kernel) (by decide +kernel)
theorem fF_X11_35 : vg_F RX11 35 14 11 (.array .boolean) true := ⟨"GlobRowsModel", RX11, TX11, 39, tyX11, vcl_14, by decide, kw_208131607, Or.inl rfl, rfl, (fun _ => rfl), by decide +kernel⟩
theorem kw_238031917 : Cond.methodLink RX11 130 yX11_touch ∈ vg_T := vg_tn (i := 1358) (by decide +kernel) (by decide +kernel)
theorem kw_1168178 : Cond.code yX11_touch cX11_touch 2 none ∈ vg_T := vg_tn (i := 1361) (by decide +kernel) (by decide +kernel)
theorem kw_189358303 : Cond.instanceMethod yX11_touch ∈ vg_T := vg_tn (i := 1360) (by decide +kernel) (by decide +kernel)
theorem kw_147855933 : Cond.selects RX11 yX11_touch yX11_touch ∈ vg_T := vg_in (List.mem_append_left _ (List.mem_of_getElem? (i := 30) (by decide +kernel))) (by decide +kernel)
theorem kw_630383448 : Cond.initialized RX11 ∈ vg_T := vg_tn (i := 13) (by decide +kernel) (by decide +kernel)
theorem fCV_X11_130 : vg_CV RX11 130 RX11 yX11_touch cX11_touch 2 none 1 := ⟨kw_238031917, kw_189358303, kw_147855933, kw_630383448, kw_1168178, ⟨rfl, by decide +kernel, by decide +kernel, by decide +kernel⟩, by decide⟩
theorem kw_26854296 : Cond.fieldLink RX11 39 "GlobRowsModel" "name" "[B" ∈ vg_T := vg_tn (i := 1204) (by decide +kernel) (by decide +kernel)
theorem fF_X11_39 : vg_F RX11 39 14 12 (.array .byte) true := ⟨"GlobRowsModel", RX11, TX11, 39, tyX11, vcl_14, by decide, kw_26854296, Or.inl rfl, rfl, (fun _ => rfl), by decide +kernel⟩
theorem kw_99937504 : Cond.fieldLink RX11 7 "GlobRowsModel" "text" "[B" ∈ vg_T := vg_tn (i := 1193) (by decide +kernel) (by decide +kernel)
theorem fF_X11_7 : vg_F RX11 7 14 1 (.array .byte) true := ⟨"GlobRowsModel", RX11, TX11, 39, tyX11, vcl_14, by decide, kw_99937504, Or.inl rfl, rfl, (fun _ => rfl), by decide +kernel⟩
theorem kw_978979359 : Cond.fieldLink RX11 13 "GlobRowsModel" "wordAt" "[I" ∈ vg_T := vg_tn (i := 1196) (by decide +kernel) (by decide +kernel)
theorem fF_X11_13 : vg_F RX11 13 14 4 (.array .int) true := ⟨"GlobRowsModel", RX11, TX11, 39, tyX11, vcl_14, by decide, kw_978979359, Or.inl rfl, rfl, (fun _ => rfl), by decide +kernel⟩
theorem kw_890795910 : Cond.fieldLink RX11 103 "GlobRowsModel" "thrown" "I" ∈ vg_T := vg_tn (i := 1192) (by decide +kernel) (by decide +kernel)
theorem fF_X11_103 : vg_F RX11 103 14 0 .int false := ⟨"GlobRowsModel", RX11, TX11, 39, tyX11, vcl_14, by decide, kw_890795910, Or.inl rfl, rfl, (fun h => nomatch h), by decide +kernel⟩
theorem kw_88133420 : Cond.fieldLink RX11 219 "GlobRowsModel" "answers" "I" ∈ vg_T := vg_tn (i := 1219) (by decide +kernel) (by decide +kernel)
theorem fF_X11_219 : vg_F RX11 219 14 27 .int false := ⟨"GlobRowsModel", RX11, TX11, 39, tyX11, vcl_14, by decide, kw_88133420, Or.inl rfl, rfl, (fun h => nomatch h), by decide +kernel⟩
theorem kw_904274410 : Cond.fieldLink RX11 73 "GlobRowsModel" "answerSize" "[I" ∈ vg_T := vg_tn (i := 1220) (by decide +kernel) (by decide +kernel)
theorem fF_X11_73 : vg_F RX11 73 14 28 (.array .int) true := ⟨"GlobRowsModel", RX11, TX11, 39, tyX11, vcl_14, by decide, kw_904274410, Or.inl rfl, rfl, (fun _ => rfl), by decide +kernel⟩
theorem kw_939251864 : Cond.fieldLink RX11 76 "GlobRowsModel" "answerPath" "[B" ∈ vg_T := vg_tn (i := 1221) (by decide +kernel) (by decide +kernel)
theorem fF_X11_76 : vg_F RX11 76 14 29 (.array .byte) true := ⟨"GlobRowsModel", RX11, TX11, 39, tyX11, vcl_14, by decide, kw_939251864, Or.inl rfl, rfl, (fun _ => rfl), by decide +kernel⟩
theorem kw_54595951 : Cond.methodLink RX11 116 yX11_isNamed ∈ vg_T := vg_tn (i := 1346) (by decide +kernel) (by decide +kernel)
theorem kw_22015614 : Cond.code yX11_isNamed cX11_isNamed 4 (some .boolean) ∈ vg_T := vg_tn (i := 1349) (by decide +kernel) (by decide +kernel)
theorem kw_361680738 : Cond.instanceMethod yX11_isNamed ∈ vg_T := vg_tn (i := 1348) (by decide +kernel) (by decide +kernel)
theorem kw_316138954 : Cond.selects RX11 yX11_isNamed yX11_isNamed ∈ vg_T := vg_in (List.mem_append_left _ (List.mem_of_getElem? (i := 27) (by decide +kernel))) (by decide +kernel)
theorem fCV_X11_116 : vg_CV RX11 116 RX11 yX11_isNamed cX11_isNamed 4 (some .boolean) 2 := ⟨kw_54595951, kw_361680738, kw_316138954, kw_630383448, kw_22015614, ⟨rfl, by decide +kernel, by decide +kernel, by decide +kernel⟩, by decide⟩
theorem kw_376387446 : Cond.fieldLink RX11 120 "GlobRowsModel" "gone" "I" ∈ vg_T := vg_tn (i := 1228) (by decide +kernel) (by decide +kernel)
theorem fF_X11_120 : vg_F RX11 120 14 36 .int false := ⟨"GlobRowsModel", RX11, TX11, 39, tyX11, vcl_14, by decide, kw_376387446, Or.inl rfl, rfl, (fun h => nomatch h), by decide +kernel⟩
theorem kw_898168583 : Cond.fieldLink RX11 109 "GlobRowsModel" "names" "I" ∈ vg_T := vg_tn (i := 1195) (by decide +kernel) (by decide +kernel)
theorem fF_X11_109 : vg_F RX11 109 14 3 .int false := ⟨"GlobRowsModel", RX11, TX11, 39, tyX11, vcl_14, by decide, kw_898168583, Or.inl rfl, rfl, (fun h => nomatch h), by decide +kernel⟩
theorem kw_500464726 : Cond.methodLink RX11 123 yX11_child ∈ vg_T := vg_tn (i := 1342) (by decide +kernel) (by decide +kernel)
theorem kw_401046279 : Cond.code yX11_child cX11_child 4 (some .int) ∈ vg_T := vg_tn (i := 1345) (by decide +kernel) (by decide +kernel)
theorem kw_166918287 : Cond.instanceMethod yX11_child ∈ vg_T := vg_tn (i := 1344) (by decide +kernel) (by decide +kernel)
theorem kw_552808243 : Cond.selects RX11 yX11_child yX11_child ∈ vg_T := vg_in (List.mem_append_left _ (List.mem_of_getElem? (i := 26) (by decide +kernel))) (by decide +kernel)
theorem fCV_X11_123 : vg_CV RX11 123 RX11 yX11_child cX11_child 4 (some .int) 2 := ⟨kw_500464726, kw_166918287, kw_552808243, kw_630383448, kw_401046279, ⟨rfl, by decide +kernel, by decide +kernel, by decide +kernel⟩, by decide⟩
theorem kw_704630904 : Cond.fieldLink RX11 106 "GlobRowsModel" "textSize" "I" ∈ vg_T := vg_tn (i := 1194) (by decide +kernel) (by decide +kernel)
theorem fF_X11_106 : vg_F RX11 106 14 2 .int false := ⟨"GlobRowsModel", RX11, TX11, 39, tyX11, vcl_14, by decide, kw_704630904, Or.inl rfl, rfl, (fun h => nomatch h), by decide +kernel⟩
theorem kw_806092998 : Cond.methodLink RX11 112 yX11_isSign ∈ vg_T := vg_tn (i := 1335) (by decide +kernel) (by decide +kernel)
theorem kw_172290136 : Cond.code yX11_isSign cX11_isSign 1 (some .boolean) ∈ vg_T := vg_tn (i := 1337) (by decide +kernel) (by decide +kernel)
theorem kw_400913187 : Cond.static yX11_isSign ∈ vg_T := vg_tn (i := 1336) (by decide +kernel) (by decide +kernel)
theorem fCS_X11_112 : vg_CS RX11 112 yX11_isSign cX11_isSign 1 (some .boolean) 1 := ⟨kw_806092998, kw_400913187, kw_630383448, kw_172290136, ⟨by decide +kernel, by decide +kernel, by decide +kernel⟩, by decide⟩
theorem kw_642637267 : Cond.methodLink RX11 134 yX11_isPath ∈ vg_T := vg_tn (i := 1331) (by decide +kernel) (by decide +kernel)
theorem kw_221470264 : Cond.code yX11_isPath cX11_isPath 7 (some .boolean) ∈ vg_T := vg_tn (i := 1334) (by decide +kernel) (by decide +kernel)
theorem kw_526341996 : Cond.instanceMethod yX11_isPath ∈ vg_T := vg_tn (i := 1333) (by decide +kernel) (by decide +kernel)
theorem kw_536410371 : Cond.selects RX11 yX11_isPath yX11_isPath ∈ vg_T := vg_in (List.mem_append_left _ (List.mem_of_getElem? (i := 24) (by decide +kernel))) (by decide +kernel)
theorem fCV_X11_134 : vg_CV RX11 134 RX11 yX11_isPath cX11_isPath 7 (some .boolean) 0 := ⟨kw_642637267, kw_526341996, kw_536410371, kw_630383448, kw_221470264, ⟨rfl, by decide +kernel, by decide +kernel, by decide +kernel⟩, by decide⟩
theorem kw_832728344 : Cond.methodLink RX11 141 yX11_go ∈ vg_T := vg_tn (i := 1338) (by decide +kernel) (by decide +kernel)
theorem kw_926417057 : Cond.code yX11_go cX11_go 4 (some .int) ∈ vg_T := vg_tn (i := 1341) (by decide +kernel) (by decide +kernel)
theorem kw_605900014 : Cond.instanceMethod yX11_go ∈ vg_T := vg_tn (i := 1340) (by decide +kernel) (by decide +kernel)
theorem kw_680484703 : Cond.selects RX11 yX11_go yX11_go ∈ vg_T := vg_in (List.mem_append_left _ (List.mem_of_getElem? (i := 25) (by decide +kernel))) (by decide +kernel)
theorem fCV_X11_141 : vg_CV RX11 141 RX11 yX11_go cX11_go 4 (some .int) 0 := ⟨kw_832728344, kw_605900014, kw_680484703, kw_630383448, kw_926417057, ⟨rfl, by decide +kernel, by decide +kernel, by decide +kernel⟩, by decide⟩
theorem kw_71503921 : Cond.fieldLink RX11 57 "GlobRowsModel" "packagePath" "[B" ∈ vg_T := vg_tn (i := 1213) (by decide +kernel) (by decide +kernel)
theorem fF_X11_57 : vg_F RX11 57 14 21 (.array .byte) true := ⟨"GlobRowsModel", RX11, TX11, 39, tyX11, vcl_14, by decide, kw_71503921, Or.inl rfl, rfl, (fun _ => rfl), by decide +kernel⟩
theorem kw_853461269 : Cond.fieldLink RX11 42 "GlobRowsModel" "packageSize" "[I" ∈ vg_T := vg_tn (i := 1208) (by decide +kernel) (by decide +kernel)
theorem fF_X11_42 : vg_F RX11 42 14 16 (.array .int) true := ⟨"GlobRowsModel", RX11, TX11, 39, tyX11, vcl_14, by decide, kw_853461269, Or.inl rfl, rfl, (fun _ => rfl), by decide +kernel⟩
theorem kw_931364629 : Cond.fieldLink RX11 198 "GlobRowsModel" "level" "I" ∈ vg_T := vg_tn (i := 1222) (by decide +kernel) (by decide +kernel)
theorem fF_X11_198 : vg_F RX11 198 14 30 .int false := ⟨"GlobRowsModel", RX11, TX11, 39, tyX11, vcl_14, by decide, kw_931364629, Or.inl rfl, rfl, (fun h => nomatch h), by decide +kernel⟩
theorem kw_541906598 : Cond.fieldLink RX11 79 "GlobRowsModel" "folder" "[I" ∈ vg_T := vg_tn (i := 1223) (by decide +kernel) (by decide +kernel)
theorem fF_X11_79 : vg_F RX11 79 14 31 (.array .int) true := ⟨"GlobRowsModel", RX11, TX11, 39, tyX11, vcl_14, by decide, kw_541906598, Or.inl rfl, rfl, (fun _ => rfl), by decide +kernel⟩
theorem kw_553698654 : Cond.fieldLink RX11 88 "GlobRowsModel" "trail" "[I" ∈ vg_T := vg_tn (i := 1226) (by decide +kernel) (by decide +kernel)
theorem fF_X11_88 : vg_F RX11 88 14 34 (.array .int) true := ⟨"GlobRowsModel", RX11, TX11, 39, tyX11, vcl_14, by decide, kw_553698654, Or.inl rfl, rfl, (fun _ => rfl), by decide +kernel⟩
theorem kw_29320593 : Cond.fieldLink RX11 82 "GlobRowsModel" "last" "[I" ∈ vg_T := vg_tn (i := 1224) (by decide +kernel) (by decide +kernel)
theorem fF_X11_82 : vg_F RX11 82 14 32 (.array .int) true := ⟨"GlobRowsModel", RX11, TX11, 39, tyX11, vcl_14, by decide, kw_29320593, Or.inl rfl, rfl, (fun _ => rfl), by decide +kernel⟩
theorem kw_844781337 : Cond.fieldLink RX11 85 "GlobRowsModel" "pathEnd" "[I" ∈ vg_T := vg_tn (i := 1225) (by decide +kernel) (by decide +kernel)
theorem fF_X11_85 : vg_F RX11 85 14 33 (.array .int) true := ⟨"GlobRowsModel", RX11, TX11, 39, tyX11, vcl_14, by decide, kw_844781337, Or.inl rfl, rfl, (fun _ => rfl), by decide +kernel⟩
theorem kw_704103268 : Cond.methodLink RX11 213 yX11_compare ∈ vg_T := vg_tn (i := 1474) (by decide +kernel) (by decide +kernel)
theorem kw_685224712 : Cond.code yX11_compare cX11_compare 6 (some .int) ∈ vg_T := vg_tn (i := 1477) (by decide +kernel) (by decide +kernel)
theorem kw_728084419 : Cond.instanceMethod yX11_compare ∈ vg_T := vg_tn (i := 1476) (by decide +kernel) (by decide +kernel)
theorem kw_555232270 : Cond.selects RX11 yX11_compare yX11_compare ∈ vg_T := vg_in (List.mem_append_left _ (List.mem_of_getElem? (i := 52) (by decide +kernel))) (by decide +kernel)
theorem fCV_X11_213 : vg_CV RX11 213 RX11 yX11_compare cX11_compare 6 (some .int) 2 := ⟨kw_704103268, kw_728084419, kw_555232270, kw_630383448, kw_685224712, ⟨rfl, by decide +kernel, by decide +kernel, by decide +kernel⟩, by decide⟩
theorem kw_239040147 : Cond.fieldLink RX11 54 "GlobRowsModel" "patternSize" "[I" ∈ vg_T := vg_tn (i := 1212) (by decide +kernel) (by decide +kernel)
theorem fF_X11_54 : vg_F RX11 54 14 20 (.array .int) true := ⟨"GlobRowsModel", RX11, TX11, 39, tyX11, vcl_14, by decide, kw_239040147, Or.inl rfl, rfl, (fun _ => rfl), by decide +kernel⟩
theorem kw_145193378 : Cond.fieldLink RX11 60 "GlobRowsModel" "patterns" "[B" ∈ vg_T := vg_tn (i := 1214) (by decide +kernel) (by decide +kernel)
theorem fF_X11_60 : vg_F RX11 60 14 22 (.array .byte) true := ⟨"GlobRowsModel", RX11, TX11, 39, tyX11, vcl_14, by decide, kw_145193378, Or.inl rfl, rfl, (fun _ => rfl), by decide +kernel⟩
theorem kw_66015538 : Cond.methodLink RX11 175 yX11_byteOf ∈ vg_T := vg_tn (i := 1442) (by decide +kernel) (by decide +kernel)
theorem kw_320469812 : Cond.code yX11_byteOf cX11_byteOf 3 (some .int) ∈ vg_T := vg_tn (i := 1445) (by decide +kernel) (by decide +kernel)
theorem kw_317910912 : Cond.instanceMethod yX11_byteOf ∈ vg_T := vg_tn (i := 1444) (by decide +kernel) (by decide +kernel)
theorem kw_394110359 : Cond.selects RX11 yX11_byteOf yX11_byteOf ∈ vg_T := vg_in (List.mem_append_left _ (List.mem_of_getElem? (i := 44) (by decide +kernel))) (by decide +kernel)
theorem fCV_X11_175 : vg_CV RX11 175 RX11 yX11_byteOf cX11_byteOf 3 (some .int) 2 := ⟨kw_66015538, kw_317910912, kw_394110359, kw_630383448, kw_320469812, ⟨rfl, by decide +kernel, by decide +kernel, by decide +kernel⟩, by decide⟩
theorem kw_114775563 : Cond.methodLink RX11 182 yX11_pieces ∈ vg_T := vg_tn (i := 1438) (by decide +kernel) (by decide +kernel)
theorem kw_758606442 : Cond.code yX11_pieces cX11_pieces 4 (some .int) ∈ vg_T := vg_tn (i := 1441) (by decide +kernel) (by decide +kernel)
theorem kw_685010753 : Cond.instanceMethod yX11_pieces ∈ vg_T := vg_tn (i := 1440) (by decide +kernel) (by decide +kernel)
theorem kw_206370104 : Cond.selects RX11 yX11_pieces yX11_pieces ∈ vg_T := vg_in (List.mem_append_left _ (List.mem_of_getElem? (i := 43) (by decide +kernel))) (by decide +kernel)
theorem fCV_X11_182 : vg_CV RX11 182 RX11 yX11_pieces cX11_pieces 4 (some .int) 1 := ⟨kw_114775563, kw_685010753, kw_206370104, kw_630383448, kw_758606442, ⟨rfl, by decide +kernel, by decide +kernel, by decide +kernel⟩, by decide⟩
theorem kw_185393020 : Cond.methodLink RX11 185 yX11_pieceEnd ∈ vg_T := vg_tn (i := 1446) (by decide +kernel) (by decide +kernel)
theorem kw_220908841 : Cond.code yX11_pieceEnd cX11_pieceEnd 4 (some .int) ∈ vg_T := vg_tn (i := 1449) (by decide +kernel) (by decide +kernel)
theorem kw_468675052 : Cond.instanceMethod yX11_pieceEnd ∈ vg_T := vg_tn (i := 1448) (by decide +kernel) (by decide +kernel)
theorem kw_360209964 : Cond.selects RX11 yX11_pieceEnd yX11_pieceEnd ∈ vg_T := vg_in (List.mem_append_left _ (List.mem_of_getElem? (i := 45) (by decide +kernel))) (by decide +kernel)
theorem fCV_X11_185 : vg_CV RX11 185 RX11 yX11_pieceEnd cX11_pieceEnd 4 (some .int) 2 := ⟨kw_185393020, kw_468675052, kw_360209964, kw_630383448, kw_220908841, ⟨rfl, by decide +kernel, by decide +kernel, by decide +kernel⟩, by decide⟩
theorem kw_596075063 : Cond.methodLink RX11 188 yX11_isStars ∈ vg_T := vg_tn (i := 1450) (by decide +kernel) (by decide +kernel)
theorem kw_751947408 : Cond.code yX11_isStars cX11_isStars 4 (some .boolean) ∈ vg_T := vg_tn (i := 1453) (by decide +kernel) (by decide +kernel)
theorem kw_876689851 : Cond.instanceMethod yX11_isStars ∈ vg_T := vg_tn (i := 1452) (by decide +kernel) (by decide +kernel)
theorem kw_244217350 : Cond.selects RX11 yX11_isStars yX11_isStars ∈ vg_T := vg_in (List.mem_append_left _ (List.mem_of_getElem? (i := 46) (by decide +kernel))) (by decide +kernel)
theorem fCV_X11_188 : vg_CV RX11 188 RX11 yX11_isStars cX11_isStars 4 (some .boolean) 3 := ⟨kw_596075063, kw_876689851, kw_244217350, kw_630383448, kw_751947408, ⟨rfl, by decide +kernel, by decide +kernel, by decide +kernel⟩, by decide⟩
theorem kw_666621825 : Cond.methodLink RX11 178 yX11_isOne ∈ vg_T := vg_tn (i := 1462) (by decide +kernel) (by decide +kernel)
theorem kw_976419092 : Cond.code yX11_isOne cX11_isOne 7 (some .boolean) ∈ vg_T := vg_tn (i := 1465) (by decide +kernel) (by decide +kernel)
theorem kw_958200884 : Cond.instanceMethod yX11_isOne ∈ vg_T := vg_tn (i := 1464) (by decide +kernel) (by decide +kernel)
theorem kw_92506283 : Cond.selects RX11 yX11_isOne yX11_isOne ∈ vg_T := vg_in (List.mem_append_left _ (List.mem_of_getElem? (i := 49) (by decide +kernel))) (by decide +kernel)
theorem fCV_X11_178 : vg_CV RX11 178 RX11 yX11_isOne cX11_isOne 7 (some .boolean) 4 := ⟨kw_666621825, kw_958200884, kw_92506283, kw_630383448, kw_976419092, ⟨rfl, by decide +kernel, by decide +kernel, by decide +kernel⟩, by decide⟩
theorem kw_279406847 : Cond.methodLink RX11 195 yX11_closed ∈ vg_T := vg_tn (i := 1434) (by decide +kernel) (by decide +kernel)
theorem kw_365623222 : Cond.code yX11_closed cX11_closed 7 (some .int) ∈ vg_T := vg_tn (i := 1437) (by decide +kernel) (by decide +kernel)
theorem kw_57904024 : Cond.instanceMethod yX11_closed ∈ vg_T := vg_tn (i := 1436) (by decide +kernel) (by decide +kernel)
theorem kw_511488308 : Cond.selects RX11 yX11_closed yX11_closed ∈ vg_T := vg_in (List.mem_append_left _ (List.mem_of_getElem? (i := 42) (by decide +kernel))) (by decide +kernel)
theorem fCV_X11_195 : vg_CV RX11 195 RX11 yX11_closed cX11_closed 7 (some .int) 2 := ⟨kw_279406847, kw_57904024, kw_511488308, kw_630383448, kw_365623222, ⟨rfl, by decide +kernel, by decide +kernel, by decide +kernel⟩, by decide⟩
theorem kw_336298862 : Cond.methodLink RX11 192 yX11_fitsName ∈ vg_T := vg_tn (i := 1458) (by decide +kernel) (by decide +kernel)
theorem kw_34847729 : Cond.code yX11_fitsName cX11_fitsName 14 (some .boolean) ∈ vg_T := vg_tn (i := 1461) (by decide +kernel) (by decide +kernel)
theorem kw_649125029 : Cond.instanceMethod yX11_fitsName ∈ vg_T := vg_tn (i := 1460) (by decide +kernel) (by decide +kernel)
theorem kw_185629343 : Cond.selects RX11 yX11_fitsName yX11_fitsName ∈ vg_T := vg_in (List.mem_append_left _ (List.mem_of_getElem? (i := 48) (by decide +kernel))) (by decide +kernel)
theorem fCV_X11_192 : vg_CV RX11 192 RX11 yX11_fitsName cX11_fitsName 14 (some .boolean) 4 := ⟨kw_336298862, kw_649125029, kw_185629343, kw_630383448, kw_34847729, ⟨rfl, by decide +kernel, by decide +kernel, by decide +kernel⟩, by decide⟩
theorem kw_176865810 : Cond.methodLink RX11 201 yX11_on ∈ vg_T := vg_tn (i := 1454) (by decide +kernel) (by decide +kernel)
theorem kw_274469610 : Cond.code yX11_on cX11_on 9 (some .int) ∈ vg_T := vg_tn (i := 1457) (by decide +kernel) (by decide +kernel)
theorem kw_605901061 : Cond.instanceMethod yX11_on ∈ vg_T := vg_tn (i := 1456) (by decide +kernel) (by decide +kernel)
theorem kw_84363298 : Cond.selects RX11 yX11_on yX11_on ∈ vg_T := vg_in (List.mem_append_left _ (List.mem_of_getElem? (i := 47) (by decide +kernel))) (by decide +kernel)
theorem fCV_X11_201 : vg_CV RX11 201 RX11 yX11_on cX11_on 9 (some .int) 3 := ⟨kw_176865810, kw_605901061, kw_84363298, kw_630383448, kw_274469610, ⟨rfl, by decide +kernel, by decide +kernel, by decide +kernel⟩, by decide⟩
theorem kw_74971038 : Cond.methodLink RX11 207 yX11_bitsOf ∈ vg_T := vg_tn (i := 1430) (by decide +kernel) (by decide +kernel)
theorem kw_505966375 : Cond.code yX11_bitsOf cX11_bitsOf 5 (some .int) ∈ vg_T := vg_tn (i := 1433) (by decide +kernel) (by decide +kernel)
theorem kw_606152465 : Cond.instanceMethod yX11_bitsOf ∈ vg_T := vg_tn (i := 1432) (by decide +kernel) (by decide +kernel)
theorem kw_39357666 : Cond.selects RX11 yX11_bitsOf yX11_bitsOf ∈ vg_T := vg_in (List.mem_append_left _ (List.mem_of_getElem? (i := 41) (by decide +kernel))) (by decide +kernel)
theorem fCV_X11_207 : vg_CV RX11 207 RX11 yX11_bitsOf cX11_bitsOf 5 (some .int) 2 := ⟨kw_74971038, kw_606152465, kw_39357666, kw_630383448, kw_505966375, ⟨rfl, by decide +kernel, by decide +kernel, by decide +kernel⟩, by decide⟩
theorem kw_846447414 : Cond.methodLink RX11 204 yX11_isForFolders ∈ vg_T := vg_tn (i := 1486) (by decide +kernel) (by decide +kernel)
theorem kw_653364881 : Cond.code yX11_isForFolders cX11_isForFolders 2 (some .boolean) ∈ vg_T := vg_tn (i := 1489) (by decide +kernel) (by decide +kernel)
theorem kw_950477924 : Cond.instanceMethod yX11_isForFolders ∈ vg_T := vg_tn (i := 1488) (by decide +kernel) (by decide +kernel)
theorem kw_512500700 : Cond.selects RX11 yX11_isForFolders yX11_isForFolders ∈ vg_T := vg_in (List.mem_append_left _ (List.mem_of_getElem? (i := 55) (by decide +kernel))) (by decide +kernel)
theorem fCV_X11_204 : vg_CV RX11 204 RX11 yX11_isForFolders cX11_isForFolders 2 (some .boolean) 1 := ⟨kw_846447414, kw_950477924, kw_512500700, kw_630383448, kw_653364881, ⟨rfl, by decide +kernel, by decide +kernel, by decide +kernel⟩, by decide⟩
theorem kw_289764785 : Cond.fieldLink RX11 45 "GlobRowsModel" "takesIn" "[I" ∈ vg_T := vg_tn (i := 1209) (by decide +kernel) (by decide +kernel)
theorem fF_X11_45 : vg_F RX11 45 14 17 (.array .int) true := ⟨"GlobRowsModel", RX11, TX11, 39, tyX11, vcl_14, by decide, kw_289764785, Or.inl rfl, rfl, (fun _ => rfl), by decide +kernel⟩
theorem kw_186780173 : Cond.methodLink RX11 210 yX11_fits ∈ vg_T := vg_tn (i := 1482) (by decide +kernel) (by decide +kernel)
theorem kw_889494665 : Cond.code yX11_fits cX11_fits 3 (some .boolean) ∈ vg_T := vg_tn (i := 1485) (by decide +kernel) (by decide +kernel)
theorem kw_847731729 : Cond.instanceMethod yX11_fits ∈ vg_T := vg_tn (i := 1484) (by decide +kernel) (by decide +kernel)
theorem kw_813375959 : Cond.selects RX11 yX11_fits yX11_fits ∈ vg_T := vg_in (List.mem_append_left _ (List.mem_of_getElem? (i := 54) (by decide +kernel))) (by decide +kernel)
theorem fCV_X11_210 : vg_CV RX11 210 RX11 yX11_fits cX11_fits 3 (some .boolean) 2 := ⟨kw_186780173, kw_847731729, kw_813375959, kw_630383448, kw_889494665, ⟨rfl, by decide +kernel, by decide +kernel, by decide +kernel⟩, by decide⟩
theorem kw_644618521 : Cond.fieldLink RX11 48 "GlobRowsModel" "leavesOut" "[I" ∈ vg_T := vg_tn (i := 1210) (by decide +kernel) (by decide +kernel)
theorem fF_X11_48 : vg_F RX11 48 14 18 (.array .int) true := ⟨"GlobRowsModel", RX11, TX11, 39, tyX11, vcl_14, by decide, kw_644618521, Or.inl rfl, rfl, (fun _ => rfl), by decide +kernel⟩
theorem kw_978037871 : Cond.fieldLink RX11 63 "GlobRowsModel" "anew" "[Z" ∈ vg_T := vg_tn (i := 1215) (by decide +kernel) (by decide +kernel)
theorem fF_X11_63 : vg_F RX11 63 14 23 (.array .boolean) true := ⟨"GlobRowsModel", RX11, TX11, 39, tyX11, vcl_14, by decide, kw_978037871, Or.inl rfl, rfl, (fun _ => rfl), by decide +kernel⟩
theorem kw_10335681 : Cond.fieldLink RX11 66 "GlobRowsModel" "seen" "[I" ∈ vg_T := vg_tn (i := 1216) (by decide +kernel) (by decide +kernel)
theorem fF_X11_66 : vg_F RX11 66 14 24 (.array .int) true := ⟨"GlobRowsModel", RX11, TX11, 39, tyX11, vcl_14, by decide, kw_10335681, Or.inl rfl, rfl, (fun _ => rfl), by decide +kernel⟩
theorem kw_463581337 : Cond.fieldLink RX11 51 "GlobRowsModel" "askedAt" "[I" ∈ vg_T := vg_tn (i := 1211) (by decide +kernel) (by decide +kernel)
theorem fF_X11_51 : vg_F RX11 51 14 19 (.array .int) true := ⟨"GlobRowsModel", RX11, TX11, 39, tyX11, vcl_14, by decide, kw_463581337, Or.inl rfl, rfl, (fun _ => rfl), by decide +kernel⟩
theorem kw_215803086 : Cond.fieldLink RX11 225 "GlobRowsModel" "lookedMany" "I" ∈ vg_T := vg_tn (i := 1218) (by decide +kernel) (by decide +kernel)
theorem fF_X11_225 : vg_F RX11 225 14 26 .int false := ⟨"GlobRowsModel", RX11, TX11, 39, tyX11, vcl_14, by decide, kw_215803086, Or.inl rfl, rfl, (fun h => nomatch h), by decide +kernel⟩
theorem kw_648508511 : Cond.fieldLink RX11 97 "GlobRowsModel" "now" "[I" ∈ vg_T := vg_tn (i := 1230) (by decide +kernel) (by decide +kernel)
theorem fF_X11_97 : vg_F RX11 97 14 38 (.array .int) true := ⟨"GlobRowsModel", RX11, TX11, 39, tyX11, vcl_14, by decide, kw_648508511, Or.inl rfl, rfl, (fun _ => rfl), by decide +kernel⟩
theorem kw_686085237 : Cond.methodLink RX11 232 yX11_isLooked ∈ vg_T := vg_tn (i := 1426) (by decide +kernel) (by decide +kernel)
theorem kw_824038327 : Cond.code yX11_isLooked cX11_isLooked 5 (some .boolean) ∈ vg_T := vg_tn (i := 1429) (by decide +kernel) (by decide +kernel)
theorem kw_348795831 : Cond.instanceMethod yX11_isLooked ∈ vg_T := vg_tn (i := 1428) (by decide +kernel) (by decide +kernel)
theorem kw_75206732 : Cond.selects RX11 yX11_isLooked yX11_isLooked ∈ vg_T := vg_in (List.mem_append_left _ (List.mem_of_getElem? (i := 40) (by decide +kernel))) (by decide +kernel)
theorem fCV_X11_232 : vg_CV RX11 232 RX11 yX11_isLooked cX11_isLooked 5 (some .boolean) 1 := ⟨kw_686085237, kw_348795831, kw_75206732, kw_630383448, kw_824038327, ⟨rfl, by decide +kernel, by decide +kernel, by decide +kernel⟩, by decide⟩
theorem kw_263698430 : Cond.methodLink RX11 235 yX11_counts ∈ vg_T := vg_tn (i := 1466) (by decide +kernel) (by decide +kernel)
theorem kw_745504971 : Cond.code yX11_counts cX11_counts 3 (some .boolean) ∈ vg_T := vg_tn (i := 1469) (by decide +kernel) (by decide +kernel)
theorem kw_954808508 : Cond.instanceMethod yX11_counts ∈ vg_T := vg_tn (i := 1468) (by decide +kernel) (by decide +kernel)
theorem kw_983334257 : Cond.selects RX11 yX11_counts yX11_counts ∈ vg_T := vg_in (List.mem_append_left _ (List.mem_of_getElem? (i := 50) (by decide +kernel))) (by decide +kernel)
theorem fCV_X11_235 : vg_CV RX11 235 RX11 yX11_counts cX11_counts 3 (some .boolean) 2 := ⟨kw_263698430, kw_954808508, kw_983334257, kw_630383448, kw_745504971, ⟨rfl, by decide +kernel, by decide +kernel, by decide +kernel⟩, by decide⟩
theorem kw_893813498 : Cond.fieldLink RX11 91 "GlobRowsModel" "path" "[B" ∈ vg_T := vg_tn (i := 1227) (by decide +kernel) (by decide +kernel)
theorem fF_X11_91 : vg_F RX11 91 14 35 (.array .byte) true := ⟨"GlobRowsModel", RX11, TX11, 39, tyX11, vcl_14, by decide, kw_893813498, Or.inl rfl, rfl, (fun _ => rfl), by decide +kernel⟩
theorem kw_251951439 : Cond.methodLink RX11 216 yX11_spell ∈ vg_T := vg_tn (i := 1494) (by decide +kernel) (by decide +kernel)
theorem kw_646838660 : Cond.code yX11_spell cX11_spell 4 (some .int) ∈ vg_T := vg_tn (i := 1497) (by decide +kernel) (by decide +kernel)
theorem kw_896833087 : Cond.instanceMethod yX11_spell ∈ vg_T := vg_tn (i := 1496) (by decide +kernel) (by decide +kernel)
theorem kw_207490381 : Cond.selects RX11 yX11_spell yX11_spell ∈ vg_T := vg_in (List.mem_append_left _ (List.mem_of_getElem? (i := 57) (by decide +kernel))) (by decide +kernel)
theorem fCV_X11_216 : vg_CV RX11 216 RX11 yX11_spell cX11_spell 4 (some .int) 1 := ⟨kw_251951439, kw_896833087, kw_207490381, kw_630383448, kw_646838660, ⟨rfl, by decide +kernel, by decide +kernel, by decide +kernel⟩, by decide⟩
theorem kw_926202357 : Cond.methodLink RX11 244 yX11_following ∈ vg_T := vg_tn (i := 1470) (by decide +kernel) (by decide +kernel)
theorem kw_589399843 : Cond.code yX11_following cX11_following 4 (some .int) ∈ vg_T := vg_tn (i := 1473) (by decide +kernel) (by decide +kernel)
theorem kw_145567510 : Cond.instanceMethod yX11_following ∈ vg_T := vg_tn (i := 1472) (by decide +kernel) (by decide +kernel)
theorem kw_414841791 : Cond.selects RX11 yX11_following yX11_following ∈ vg_T := vg_in (List.mem_append_left _ (List.mem_of_getElem? (i := 51) (by decide +kernel))) (by decide +kernel)
theorem fCV_X11_244 : vg_CV RX11 244 RX11 yX11_following cX11_following 4 (some .int) 0 := ⟨kw_926202357, kw_145567510, kw_414841791, kw_630383448, kw_589399843, ⟨rfl, by decide +kernel, by decide +kernel, by decide +kernel⟩, by decide⟩
theorem kw_57509790 : Cond.methodLink RX11 247 yX11_isAnswer ∈ vg_T := vg_tn (i := 1478) (by decide +kernel) (by decide +kernel)
theorem kw_389284006 : Cond.code yX11_isAnswer cX11_isAnswer 6 (some .boolean) ∈ vg_T := vg_tn (i := 1481) (by decide +kernel) (by decide +kernel)
theorem kw_689111034 : Cond.instanceMethod yX11_isAnswer ∈ vg_T := vg_tn (i := 1480) (by decide +kernel) (by decide +kernel)
theorem kw_77790650 : Cond.selects RX11 yX11_isAnswer yX11_isAnswer ∈ vg_T := vg_in (List.mem_append_left _ (List.mem_of_getElem? (i := 53) (by decide +kernel))) (by decide +kernel)
theorem fCV_X11_247 : vg_CV RX11 247 RX11 yX11_isAnswer cX11_isAnswer 6 (some .boolean) 2 := ⟨kw_57509790, kw_689111034, kw_77790650, kw_630383448, kw_389284006, ⟨rfl, by decide +kernel, by decide +kernel, by decide +kernel⟩, by decide⟩
theorem kw_178031472 : Cond.methodLink RX11 250 yX11_tell ∈ vg_T := vg_tn (i := 1490) (by decide +kernel) (by decide +kernel)
theorem kw_166648882 : Cond.code yX11_tell cX11_tell 4 none ∈ vg_T := vg_tn (i := 1493) (by decide +kernel) (by decide +kernel)
theorem kw_879135304 : Cond.instanceMethod yX11_tell ∈ vg_T := vg_tn (i := 1492) (by decide +kernel) (by decide +kernel)
theorem kw_659661288 : Cond.selects RX11 yX11_tell yX11_tell ∈ vg_T := vg_in (List.mem_append_left _ (List.mem_of_getElem? (i := 56) (by decide +kernel))) (by decide +kernel)
theorem fCV_X11_250 : vg_CV RX11 250 RX11 yX11_tell cX11_tell 4 none 1 := ⟨kw_178031472, kw_879135304, kw_659661288, kw_630383448, kw_166648882, ⟨rfl, by decide +kernel, by decide +kernel, by decide +kernel⟩, by decide⟩
theorem kw_474662700 : Cond.methodLink RX11 238 yX11_enter ∈ vg_T := vg_tn (i := 1418) (by decide +kernel) (by decide +kernel)
theorem kw_471582494 : Cond.code yX11_enter cX11_enter 3 none ∈ vg_T := vg_tn (i := 1421) (by decide +kernel) (by decide +kernel)
theorem kw_769594543 : Cond.instanceMethod yX11_enter ∈ vg_T := vg_tn (i := 1420) (by decide +kernel) (by decide +kernel)
theorem kw_355442770 : Cond.selects RX11 yX11_enter yX11_enter ∈ vg_T := vg_in (List.mem_append_left _ (List.mem_of_getElem? (i := 38) (by decide +kernel))) (by decide +kernel)
theorem fCV_X11_238 : vg_CV RX11 238 RX11 yX11_enter cX11_enter 3 none 2 := ⟨kw_474662700, kw_769594543, kw_355442770, kw_630383448, kw_471582494, ⟨rfl, by decide +kernel, by decide +kernel, by decide +kernel⟩, by decide⟩
theorem kw_147279425 : Cond.methodLink RX11 241 yX11_look ∈ vg_T := vg_tn (i := 1422) (by decide +kernel) (by decide +kernel)
theorem kw_263348921 : Cond.code yX11_look cX11_look 3 none ∈ vg_T := vg_tn (i := 1425) (by decide +kernel) (by decide +kernel)
theorem kw_861322578 : Cond.instanceMethod yX11_look ∈ vg_T := vg_tn (i := 1424) (by decide +kernel) (by decide +kernel)
theorem kw_591248672 : Cond.selects RX11 yX11_look yX11_look ∈ vg_T := vg_in (List.mem_append_left _ (List.mem_of_getElem? (i := 39) (by decide +kernel))) (by decide +kernel)
theorem fCV_X11_241 : vg_CV RX11 241 RX11 yX11_look cX11_look 3 none 1 := ⟨kw_147279425, kw_861322578, kw_591248672, kw_630383448, kw_263348921, ⟨rfl, by decide +kernel, by decide +kernel, by decide +kernel⟩, by decide⟩
theorem kw_741866727 : Cond.methodLink RX11 222 yX11_packageOf ∈ vg_T := vg_tn (i := 1410) (by decide +kernel) (by decide +kernel)
theorem kw_920818404 : Cond.code yX11_packageOf cX11_packageOf 4 (some .int) ∈ vg_T := vg_tn (i := 1413) (by decide +kernel) (by decide +kernel)
theorem kw_166275962 : Cond.instanceMethod yX11_packageOf ∈ vg_T := vg_tn (i := 1412) (by decide +kernel) (by decide +kernel)
theorem kw_107899703 : Cond.selects RX11 yX11_packageOf yX11_packageOf ∈ vg_T := vg_in (List.mem_append_left _ (List.mem_of_getElem? (i := 36) (by decide +kernel))) (by decide +kernel)
theorem fCV_X11_222 : vg_CV RX11 222 RX11 yX11_packageOf cX11_packageOf 4 (some .int) 1 := ⟨kw_741866727, kw_166275962, kw_107899703, kw_630383448, kw_920818404, ⟨rfl, by decide +kernel, by decide +kernel, by decide +kernel⟩, by decide⟩
theorem kw_577345233 : Cond.fieldLink RX11 94 "GlobRowsModel" "typed" "[B" ∈ vg_T := vg_tn (i := 1229) (by decide +kernel) (by decide +kernel)
theorem fF_X11_94 : vg_F RX11 94 14 37 (.array .byte) true := ⟨"GlobRowsModel", RX11, TX11, 39, tyX11, vcl_14, by decide, kw_577345233, Or.inl rfl, rfl, (fun _ => rfl), by decide +kernel⟩
theorem kw_31002187 : Cond.methodLink RX11 228 yX11_walk ∈ vg_T := vg_tn (i := 1414) (by decide +kernel) (by decide +kernel)
theorem kw_682963488 : Cond.code yX11_walk cX11_walk 5 none ∈ vg_T := vg_tn (i := 1417) (by decide +kernel) (by decide +kernel)
theorem kw_885810932 : Cond.instanceMethod yX11_walk ∈ vg_T := vg_tn (i := 1416) (by decide +kernel) (by decide +kernel)
theorem kw_159359712 : Cond.selects RX11 yX11_walk yX11_walk ∈ vg_T := vg_in (List.mem_append_left _ (List.mem_of_getElem? (i := 37) (by decide +kernel))) (by decide +kernel)
theorem fCV_X11_228 : vg_CV RX11 228 RX11 yX11_walk cX11_walk 5 none 2 := ⟨kw_31002187, kw_885810932, kw_159359712, kw_630383448, kw_682963488, ⟨rfl, by decide +kernel, by decide +kernel, by decide +kernel⟩, by decide⟩
theorem kw_583108478 : Cond.fieldLink RX11 159 "GlobRowsModel" "queries" "I" ∈ vg_T := vg_tn (i := 1207) (by decide +kernel) (by decide +kernel)
theorem fF_X11_159 : vg_F RX11 159 14 15 .int false := ⟨"GlobRowsModel", RX11, TX11, 39, tyX11, vcl_14, by decide, kw_583108478, Or.inl rfl, rfl, (fun h => nomatch h), by decide +kernel⟩
theorem kw_372364617 : Cond.methodLink RX11 145 yX11_many ∈ vg_T := vg_tn (i := 1350) (by decide +kernel) (by decide +kernel)
theorem kw_932605682 : Cond.code yX11_many cX11_many 3 (some .int) ∈ vg_T := vg_tn (i := 1353) (by decide +kernel) (by decide +kernel)
theorem kw_863330298 : Cond.instanceMethod yX11_many ∈ vg_T := vg_tn (i := 1352) (by decide +kernel) (by decide +kernel)
theorem kw_428128516 : Cond.selects RX11 yX11_many yX11_many ∈ vg_T := vg_in (List.mem_append_left _ (List.mem_of_getElem? (i := 28) (by decide +kernel))) (by decide +kernel)
theorem fCV_X11_145 : vg_CV RX11 145 RX11 yX11_many cX11_many 3 (some .int) 0 := ⟨kw_372364617, kw_863330298, kw_428128516, kw_630383448, kw_932605682, ⟨rfl, by decide +kernel, by decide +kernel, by decide +kernel⟩, by decide⟩
theorem kw_444858823 : Cond.methodLink RX11 148 yX11_add ∈ vg_T := vg_tn (i := 1354) (by decide +kernel) (by decide +kernel)
theorem kw_456744677 : Cond.code yX11_add cX11_add 6 (some .int) ∈ vg_T := vg_tn (i := 1357) (by decide +kernel) (by decide +kernel)
theorem kw_372796974 : Cond.instanceMethod yX11_add ∈ vg_T := vg_tn (i := 1356) (by decide +kernel) (by decide +kernel)
theorem kw_577141736 : Cond.selects RX11 yX11_add yX11_add ∈ vg_T := vg_in (List.mem_append_left _ (List.mem_of_getElem? (i := 29) (by decide +kernel))) (by decide +kernel)
theorem fCV_X11_148 : vg_CV RX11 148 RX11 yX11_add cX11_add 6 (some .int) 3 := ⟨kw_444858823, kw_372796974, kw_577141736, kw_630383448, kw_456744677, ⟨rfl, by decide +kernel, by decide +kernel, by decide +kernel⟩, by decide⟩
theorem kw_126082754 : Cond.methodLink RX11 138 yX11_takes ∈ vg_T := vg_tn (i := 1327) (by decide +kernel) (by decide +kernel)
theorem kw_572438779 : Cond.code yX11_takes cX11_takes 1 (some .boolean) ∈ vg_T := vg_tn (i := 1330) (by decide +kernel) (by decide +kernel)
theorem kw_157713692 : Cond.instanceMethod yX11_takes ∈ vg_T := vg_tn (i := 1329) (by decide +kernel) (by decide +kernel)
theorem kw_902683931 : Cond.selects RX11 yX11_takes yX11_takes ∈ vg_T := vg_in (List.mem_append_left _ (List.mem_of_getElem? (i := 23) (by decide +kernel))) (by decide +kernel)
theorem fCV_X11_138 : vg_CV RX11 138 RX11 yX11_takes cX11_takes 1 (some .boolean) 0 := ⟨kw_126082754, kw_157713692, kw_902683931, kw_630383448, kw_572438779, ⟨rfl, by decide +kernel, by decide +kernel, by decide +kernel⟩, by decide⟩
theorem kw_972811815 : Cond.methodLink RX11 152 yX11_put ∈ vg_T := vg_tn (i := 1323) (by decide +kernel) (by decide +kernel)
theorem kw_940993213 : Cond.code yX11_put cX11_put 5 (some .int) ∈ vg_T := vg_tn (i := 1326) (by decide +kernel) (by decide +kernel)
theorem kw_373056632 : Cond.instanceMethod yX11_put ∈ vg_T := vg_tn (i := 1325) (by decide +kernel) (by decide +kernel)
theorem kw_567759479 : Cond.selects RX11 yX11_put yX11_put ∈ vg_T := vg_in (List.mem_append_left _ (List.mem_of_getElem? (i := 22) (by decide +kernel))) (by decide +kernel)
theorem fCV_X11_152 : vg_CV RX11 152 RX11 yX11_put cX11_put 5 (some .int) 1 := ⟨kw_972811815, kw_373056632, kw_567759479, kw_630383448, kw_940993213, ⟨rfl, by decide +kernel, by decide +kernel, by decide +kernel⟩, by decide⟩
theorem kw_511065475 : Cond.methodLink RX11 162 yX11_at ∈ vg_T := vg_tn (i := 1394) (by decide +kernel) (by decide +kernel)
theorem kw_42682038 : Cond.code yX11_at cX11_at 2 (some .int) ∈ vg_T := vg_tn (i := 1397) (by decide +kernel) (by decide +kernel)
theorem kw_605899233 : Cond.instanceMethod yX11_at ∈ vg_T := vg_tn (i := 1396) (by decide +kernel) (by decide +kernel)
theorem kw_540628746 : Cond.selects RX11 yX11_at yX11_at ∈ vg_T := vg_in (List.mem_append_left _ (List.mem_of_getElem? (i := 34) (by decide +kernel))) (by decide +kernel)
theorem fCV_X11_162 : vg_CV RX11 162 RX11 yX11_at cX11_at 2 (some .int) 1 := ⟨kw_511065475, kw_605899233, kw_540628746, kw_630383448, kw_42682038, ⟨rfl, by decide +kernel, by decide +kernel, by decide +kernel⟩, by decide⟩
theorem kw_359033271 : Cond.methodLink RX11 165 yX11_part ∈ vg_T := vg_tn (i := 1398) (by decide +kernel) (by decide +kernel)
theorem kw_171986509 : Cond.code yX11_part cX11_part 4 (some .int) ∈ vg_T := vg_tn (i := 1401) (by decide +kernel) (by decide +kernel)
theorem kw_870075090 : Cond.instanceMethod yX11_part ∈ vg_T := vg_tn (i := 1400) (by decide +kernel) (by decide +kernel)
theorem kw_719705274 : Cond.selects RX11 yX11_part yX11_part ∈ vg_T := vg_in (List.mem_append_left _ (List.mem_of_getElem? (i := 35) (by decide +kernel))) (by decide +kernel)
theorem fCV_X11_165 : vg_CV RX11 165 RX11 yX11_part cX11_part 4 (some .int) 1 := ⟨kw_359033271, kw_870075090, kw_719705274, kw_630383448, kw_171986509, ⟨rfl, by decide +kernel, by decide +kernel, by decide +kernel⟩, by decide⟩
theorem kw_21003474 : Cond.methodLink RX11 168 yX11_piece ∈ vg_T := vg_tn (i := 1390) (by decide +kernel) (by decide +kernel)
theorem kw_830843839 : Cond.code yX11_piece cX11_piece 6 (some .int) ∈ vg_T := vg_tn (i := 1393) (by decide +kernel) (by decide +kernel)
theorem kw_997595508 : Cond.instanceMethod yX11_piece ∈ vg_T := vg_tn (i := 1392) (by decide +kernel) (by decide +kernel)
theorem kw_180727973 : Cond.selects RX11 yX11_piece yX11_piece ∈ vg_T := vg_in (List.mem_append_left _ (List.mem_of_getElem? (i := 33) (by decide +kernel))) (by decide +kernel)
theorem fCV_X11_168 : vg_CV RX11 168 RX11 yX11_piece cX11_piece 6 (some .int) 2 := ⟨kw_21003474, kw_997595508, kw_180727973, kw_630383448, kw_830843839, ⟨rfl, by decide +kernel, by decide +kernel, by decide +kernel⟩, by decide⟩
theorem kw_9799401 : Cond.methodLink RX11 1 objectInit ∈ vg_T := vg_tn (i := 1191) (by decide +kernel) (by decide +kernel)
theorem kw_624348017 : Cond.instanceMethod objectInit ∈ vg_T := vg_tn (i := 40) (by decide +kernel) (by decide +kernel)
theorem kw_835052908 : Cond.code objectInit ⟨#[0xb1]⟩ 1 none ∈ vg_T := vg_tn (i := 41) (by decide +kernel) (by decide +kernel)
theorem kw_180627857 : Cond.arrayClass .byte ∈ vg_T := vg_tn (i := 74) (by decide +kernel) (by decide +kernel)
theorem kw_803024247 : Cond.arrayClass .int ∈ vg_T := vg_tn (i := 144) (by decide +kernel) (by decide +kernel)
theorem kw_606917827 : Cond.arrayClass .boolean ∈ vg_T := vg_tn (i := 1310) (by decide +kernel) (by decide +kernel)
theorem kw_874331091 : Cond.fieldLink RX11 69 "GlobRowsModel" "place" "I" ∈ vg_T := vg_tn (i := 1217) (by decide +kernel) (by decide +kernel)
theorem fF_X11_69 : vg_F RX11 69 14 25 .int false := ⟨"GlobRowsModel", RX11, TX11, 39, tyX11, vcl_14, by decide, kw_874331091, Or.inl rfl, rfl, (fun h => nomatch h), by decide +kernel⟩
theorem kw_926735721 : Cond.methodLink RX11 172 yX11_ill ∈ vg_T := vg_tn (i := 1386) (by decide +kernel) (by decide +kernel)
theorem kw_786764603 : Cond.code yX11_ill cX11_ill 6 (some .int) ∈ vg_T := vg_tn (i := 1389) (by decide +kernel) (by decide +kernel)
theorem kw_372935318 : Cond.instanceMethod yX11_ill ∈ vg_T := vg_tn (i := 1388) (by decide +kernel) (by decide +kernel)
theorem kw_578928783 : Cond.selects RX11 yX11_ill yX11_ill ∈ vg_T := vg_in (List.mem_append_left _ (List.mem_of_getElem? (i := 32) (by decide +kernel))) (by decide +kernel)
theorem fCV_X11_172 : vg_CV RX11 172 RX11 yX11_ill cX11_ill 6 (some .int) 0 := ⟨kw_926735721, kw_372935318, kw_578928783, kw_630383448, kw_786764603, ⟨rfl, by decide +kernel, by decide +kernel, by decide +kernel⟩, by decide⟩
theorem kw_12615880 : Cond.methodLink RX11 156 yX11_orphans ∈ vg_T := vg_tn (i := 1370) (by decide +kernel) (by decide +kernel)
theorem kw_790505017 : Cond.code yX11_orphans cX11_orphans 4 (some .int) ∈ vg_T := vg_tn (i := 1373) (by decide +kernel) (by decide +kernel)
theorem kw_289373921 : Cond.instanceMethod yX11_orphans ∈ vg_T := vg_tn (i := 1372) (by decide +kernel) (by decide +kernel)
theorem kw_464332372 : Cond.selects RX11 yX11_orphans yX11_orphans ∈ vg_T := vg_in (List.mem_append_left _ (List.mem_of_getElem? (i := 31) (by decide +kernel))) (by decide +kernel)
theorem fCV_X11_156 : vg_CV RX11 156 RX11 yX11_orphans cX11_orphans 4 (some .int) 0 := ⟨kw_12615880, kw_289373921, kw_464332372, kw_630383448, kw_790505017, ⟨rfl, by decide +kernel, by decide +kernel, by decide +kernel⟩, by decide⟩
