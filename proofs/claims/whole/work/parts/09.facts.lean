theorem vg_ws {C : String} {T : u_T} {N : Nat} (is : List Nat) (h : (u_ws C T N) = is.filterMap (fun i => tables_1[i]?)) (g : (u_ws C T N).all goodWord = true) : ∀ w ∈ u_ws C T N, w ∈ vg_T := by
  intro w hw
  have g1 := List.all_eq_true.mp g w hw
  rw [h] at hw
  obtain ⟨i, -, hi⟩ := List.mem_filterMap.mp hw
  exact vg_tn hi g1
theorem vcl_14 : vg_Cl 14 RX11 TX11 39 tyX11 := ⟨rfl, fun w hw => vg_ws [1231, 1233, 1235, 1237, 1239, 1241, 1243, 1245, 1247, 1249, 1251, 1253, 1255, 1257, 1259, 1261, 1263, 1265, 1267, 1269, 1271, 1273, 1275, 1277, 1279, 1281, 1283, 1285, 1287, 1289, 1291, 1293, 1295, 1297, 1299, 1301, 1303, 1305, 1307] (by decide +kernel) (by decide +kernel) w hw, tyX11_ok, nmX11⟩
theorem fF_X11_127 : vg_F RX11 127 14 14 .int false := ⟨"GlobRowsModel", RX11, TX11, 39, tyX11, vcl_14, by decide, kw_161561530, Or.inl rfl, rfl, (fun h => nomatch h), by decide +kernel⟩
theorem fF_X11_29 : vg_F RX11 29 14 9 (.array .int) true := ⟨"GlobRowsModel", RX11, TX11, 39, tyX11, vcl_14, by decide, kw_337744270, Or.inl rfl, rfl, (fun _ => rfl), by decide +kernel⟩
theorem fF_X11_20 : vg_F RX11 20 14 6 (.array .int) true := ⟨"GlobRowsModel", RX11, TX11, 39, tyX11, vcl_14, by decide, kw_132039426, Or.inl rfl, rfl, (fun _ => rfl), by decide +kernel⟩
theorem fF_X11_23 : vg_F RX11 23 14 7 (.array .int) true := ⟨"GlobRowsModel", RX11, TX11, 39, tyX11, vcl_14, by decide, kw_956051517, Or.inl rfl, rfl, (fun _ => rfl), by decide +kernel⟩
theorem fF_X11_26 : vg_F RX11 26 14 8 (.array .int) true := ⟨"GlobRowsModel", RX11, TX11, 39, tyX11, vcl_14, by decide, kw_806261516, Or.inl rfl, rfl, (fun _ => rfl), by decide +kernel⟩
theorem fF_X11_17 : vg_F RX11 17 14 5 (.array .int) true := ⟨"GlobRowsModel", RX11, TX11, 39, tyX11, vcl_14, by decide, kw_710174473, Or.inl rfl, rfl, (fun _ => rfl), by decide +kernel⟩
theorem fF_X11_100 : vg_F RX11 100 14 13 .int false := ⟨"GlobRowsModel", RX11, TX11, 39, tyX11, vcl_14, by decide, kw_335374301, Or.inl rfl, rfl, (fun h => nomatch h), by decide +kernel⟩
theorem fF_X11_32 : vg_F RX11 32 14 10 (.array .int) true := ⟨"GlobRowsModel", RX11, TX11, 39, tyX11, vcl_14, by decide, kw_926374873, Or.inl rfl, rfl, (fun _ => rfl), by decide +kernel⟩
theorem fF_X11_35 : vg_F RX11 35 14 11 (.array .boolean) true := ⟨"GlobRowsModel", RX11, TX11, 39, tyX11, vcl_14, by decide, kw_208131607, Or.inl rfl, rfl, (fun _ => rfl), by decide +kernel⟩
theorem fCV_X11_130 : vg_CV RX11 130 RX11 yX11_touch cX11_touch 2 none 1 := ⟨kw_238031917, kw_189358303, kw_147855933, kw_630383448, kw_1168178, ⟨rfl, by decide +kernel, by decide +kernel, by decide +kernel⟩, by decide⟩
theorem fF_X11_39 : vg_F RX11 39 14 12 (.array .byte) true := ⟨"GlobRowsModel", RX11, TX11, 39, tyX11, vcl_14, by decide, kw_26854296, Or.inl rfl, rfl, (fun _ => rfl), by decide +kernel⟩
theorem fF_X11_7 : vg_F RX11 7 14 1 (.array .byte) true := ⟨"GlobRowsModel", RX11, TX11, 39, tyX11, vcl_14, by decide, kw_99937504, Or.inl rfl, rfl, (fun _ => rfl), by decide +kernel⟩
theorem fF_X11_13 : vg_F RX11 13 14 4 (.array .int) true := ⟨"GlobRowsModel", RX11, TX11, 39, tyX11, vcl_14, by decide, kw_978979359, Or.inl rfl, rfl, (fun _ => rfl), by decide +kernel⟩
theorem fF_X11_103 : vg_F RX11 103 14 0 .int false := ⟨"GlobRowsModel", RX11, TX11, 39, tyX11, vcl_14, by decide, kw_890795910, Or.inl rfl, rfl, (fun h => nomatch h), by decide +kernel⟩
theorem fF_X11_219 : vg_F RX11 219 14 27 .int false := ⟨"GlobRowsModel", RX11, TX11, 39, tyX11, vcl_14, by decide, kw_88133420, Or.inl rfl, rfl, (fun h => nomatch h), by decide +kernel⟩
theorem fF_X11_73 : vg_F RX11 73 14 28 (.array .int) true := ⟨"GlobRowsModel", RX11, TX11, 39, tyX11, vcl_14, by decide, kw_904274410, Or.inl rfl, rfl, (fun _ => rfl), by decide +kernel⟩
theorem fF_X11_76 : vg_F RX11 76 14 29 (.array .byte) true := ⟨"GlobRowsModel", RX11, TX11, 39, tyX11, vcl_14, by decide, kw_939251864, Or.inl rfl, rfl, (fun _ => rfl), by decide +kernel⟩
theorem fCV_X11_116 : vg_CV RX11 116 RX11 yX11_isNamed cX11_isNamed 4 (some .boolean) 2 := ⟨kw_54595951, kw_361680738, kw_316138954, kw_630383448, kw_22015614, ⟨rfl, by decide +kernel, by decide +kernel, by decide +kernel⟩, by decide⟩
theorem fF_X11_120 : vg_F RX11 120 14 36 .int false := ⟨"GlobRowsModel", RX11, TX11, 39, tyX11, vcl_14, by decide, kw_376387446, Or.inl rfl, rfl, (fun h => nomatch h), by decide +kernel⟩
theorem fF_X11_109 : vg_F RX11 109 14 3 .int false := ⟨"GlobRowsModel", RX11, TX11, 39, tyX11, vcl_14, by decide, kw_898168583, Or.inl rfl, rfl, (fun h => nomatch h), by decide +kernel⟩
theorem fCV_X11_123 : vg_CV RX11 123 RX11 yX11_child cX11_child 4 (some .int) 2 := ⟨kw_500464726, kw_166918287, kw_552808243, kw_630383448, kw_401046279, ⟨rfl, by decide +kernel, by decide +kernel, by decide +kernel⟩, by decide⟩
theorem fF_X11_106 : vg_F RX11 106 14 2 .int false := ⟨"GlobRowsModel", RX11, TX11, 39, tyX11, vcl_14, by decide, kw_704630904, Or.inl rfl, rfl, (fun h => nomatch h), by decide +kernel⟩
theorem fCS_X11_112 : vg_CS RX11 112 yX11_isSign cX11_isSign 1 (some .boolean) 1 := ⟨kw_806092998, kw_400913187, kw_630383448, kw_172290136, ⟨by decide +kernel, by decide +kernel, by decide +kernel⟩, by decide⟩
theorem fCV_X11_134 : vg_CV RX11 134 RX11 yX11_isPath cX11_isPath 7 (some .boolean) 0 := ⟨kw_642637267, kw_526341996, kw_536410371, kw_630383448, kw_221470264, ⟨rfl, by decide +kernel, by decide +kernel, by decide +kernel⟩, by decide⟩
theorem fCV_X11_141 : vg_CV RX11 141 RX11 yX11_go cX11_go 4 (some .int) 0 := ⟨kw_832728344, kw_605900014, kw_680484703, kw_630383448, kw_926417057, ⟨rfl, by decide +kernel, by decide +kernel, by decide +kernel⟩, by decide⟩
theorem fF_X11_57 : vg_F RX11 57 14 21 (.array .byte) true := ⟨"GlobRowsModel", RX11, TX11, 39, tyX11, vcl_14, by decide, kw_71503921, Or.inl rfl, rfl, (fun _ => rfl), by decide +kernel⟩
theorem fF_X11_42 : vg_F RX11 42 14 16 (.array .int) true := ⟨"GlobRowsModel", RX11, TX11, 39, tyX11, vcl_14, by decide, kw_853461269, Or.inl rfl, rfl, (fun _ => rfl), by decide +kernel⟩
theorem fF_X11_198 : vg_F RX11 198 14 30 .int false := ⟨"GlobRowsModel", RX11, TX11, 39, tyX11, vcl_14, by decide, kw_931364629, Or.inl rfl, rfl, (fun h => nomatch h), by decide +kernel⟩
theorem fF_X11_79 : vg_F RX11 79 14 31 (.array .int) true := ⟨"GlobRowsModel", RX11, TX11, 39, tyX11, vcl_14, by decide, kw_541906598, Or.inl rfl, rfl, (fun _ => rfl), by decide +kernel⟩
theorem fF_X11_88 : vg_F RX11 88 14 34 (.array .int) true := ⟨"GlobRowsModel", RX11, TX11, 39, tyX11, vcl_14, by decide, kw_553698654, Or.inl rfl, rfl, (fun _ => rfl), by decide +kernel⟩
theorem fF_X11_82 : vg_F RX11 82 14 32 (.array .int) true := ⟨"GlobRowsModel", RX11, TX11, 39, tyX11, vcl_14, by decide, kw_29320593, Or.inl rfl, rfl, (fun _ => rfl), by decide +kernel⟩
theorem fF_X11_85 : vg_F RX11 85 14 33 (.array .int) true := ⟨"GlobRowsModel", RX11, TX11, 39, tyX11, vcl_14, by decide, kw_844781337, Or.inl rfl, rfl, (fun _ => rfl), by decide +kernel⟩
theorem fCV_X11_213 : vg_CV RX11 213 RX11 yX11_compare cX11_compare 6 (some .int) 2 := ⟨kw_704103268, kw_728084419, kw_555232270, kw_630383448, kw_685224712, ⟨rfl, by decide +kernel, by decide +kernel, by decide +kernel⟩, by decide⟩
theorem fF_X11_54 : vg_F RX11 54 14 20 (.array .int) true := ⟨"GlobRowsModel", RX11, TX11, 39, tyX11, vcl_14, by decide, kw_239040147, Or.inl rfl, rfl, (fun _ => rfl), by decide +kernel⟩
theorem fF_X11_60 : vg_F RX11 60 14 22 (.array .byte) true := ⟨"GlobRowsModel", RX11, TX11, 39, tyX11, vcl_14, by decide, kw_145193378, Or.inl rfl, rfl, (fun _ => rfl), by decide +kernel⟩
theorem fCV_X11_175 : vg_CV RX11 175 RX11 yX11_byteOf cX11_byteOf 3 (some .int) 2 := ⟨kw_66015538, kw_317910912, kw_394110359, kw_630383448, kw_320469812, ⟨rfl, by decide +kernel, by decide +kernel, by decide +kernel⟩, by decide⟩
theorem fCV_X11_182 : vg_CV RX11 182 RX11 yX11_pieces cX11_pieces 4 (some .int) 1 := ⟨kw_114775563, kw_685010753, kw_206370104, kw_630383448, kw_758606442, ⟨rfl, by decide +kernel, by decide +kernel, by decide +kernel⟩, by decide⟩
theorem fCV_X11_185 : vg_CV RX11 185 RX11 yX11_pieceEnd cX11_pieceEnd 4 (some .int) 2 := ⟨kw_185393020, kw_468675052, kw_360209964, kw_630383448, kw_220908841, ⟨rfl, by decide +kernel, by decide +kernel, by decide +kernel⟩, by decide⟩
theorem fCV_X11_188 : vg_CV RX11 188 RX11 yX11_isStars cX11_isStars 4 (some .boolean) 3 := ⟨kw_596075063, kw_876689851, kw_244217350, kw_630383448, kw_751947408, ⟨rfl, by decide +kernel, by decide +kernel, by decide +kernel⟩, by decide⟩
theorem fCV_X11_178 : vg_CV RX11 178 RX11 yX11_isOne cX11_isOne 7 (some .boolean) 4 := ⟨kw_666621825, kw_958200884, kw_92506283, kw_630383448, kw_976419092, ⟨rfl, by decide +kernel, by decide +kernel, by decide +kernel⟩, by decide⟩
theorem fCV_X11_195 : vg_CV RX11 195 RX11 yX11_closed cX11_closed 7 (some .int) 2 := ⟨kw_279406847, kw_57904024, kw_511488308, kw_630383448, kw_365623222, ⟨rfl, by decide +kernel, by decide +kernel, by decide +kernel⟩, by decide⟩
theorem fCV_X11_192 : vg_CV RX11 192 RX11 yX11_fitsName cX11_fitsName 14 (some .boolean) 4 := ⟨kw_336298862, kw_649125029, kw_185629343, kw_630383448, kw_34847729, ⟨rfl, by decide +kernel, by decide +kernel, by decide +kernel⟩, by decide⟩
theorem fCV_X11_201 : vg_CV RX11 201 RX11 yX11_on cX11_on 9 (some .int) 3 := ⟨kw_176865810, kw_605901061, kw_84363298, kw_630383448, kw_274469610, ⟨rfl, by decide +kernel, by decide +kernel, by decide +kernel⟩, by decide⟩
theorem fCV_X11_207 : vg_CV RX11 207 RX11 yX11_bitsOf cX11_bitsOf 5 (some .int) 2 := ⟨kw_74971038, kw_606152465, kw_39357666, kw_630383448, kw_505966375, ⟨rfl, by decide +kernel, by decide +kernel, by decide +kernel⟩, by decide⟩
theorem fCV_X11_204 : vg_CV RX11 204 RX11 yX11_isForFolders cX11_isForFolders 2 (some .boolean) 1 := ⟨kw_846447414, kw_950477924, kw_512500700, kw_630383448, kw_653364881, ⟨rfl, by decide +kernel, by decide +kernel, by decide +kernel⟩, by decide⟩
theorem fF_X11_45 : vg_F RX11 45 14 17 (.array .int) true := ⟨"GlobRowsModel", RX11, TX11, 39, tyX11, vcl_14, by decide, kw_289764785, Or.inl rfl, rfl, (fun _ => rfl), by decide +kernel⟩
theorem fCV_X11_210 : vg_CV RX11 210 RX11 yX11_fits cX11_fits 3 (some .boolean) 2 := ⟨kw_186780173, kw_847731729, kw_813375959, kw_630383448, kw_889494665, ⟨rfl, by decide +kernel, by decide +kernel, by decide +kernel⟩, by decide⟩
theorem fF_X11_48 : vg_F RX11 48 14 18 (.array .int) true := ⟨"GlobRowsModel", RX11, TX11, 39, tyX11, vcl_14, by decide, kw_644618521, Or.inl rfl, rfl, (fun _ => rfl), by decide +kernel⟩
theorem fF_X11_63 : vg_F RX11 63 14 23 (.array .boolean) true := ⟨"GlobRowsModel", RX11, TX11, 39, tyX11, vcl_14, by decide, kw_978037871, Or.inl rfl, rfl, (fun _ => rfl), by decide +kernel⟩
theorem fF_X11_66 : vg_F RX11 66 14 24 (.array .int) true := ⟨"GlobRowsModel", RX11, TX11, 39, tyX11, vcl_14, by decide, kw_10335681, Or.inl rfl, rfl, (fun _ => rfl), by decide +kernel⟩
theorem fF_X11_51 : vg_F RX11 51 14 19 (.array .int) true := ⟨"GlobRowsModel", RX11, TX11, 39, tyX11, vcl_14, by decide, kw_463581337, Or.inl rfl, rfl, (fun _ => rfl), by decide +kernel⟩
theorem fF_X11_225 : vg_F RX11 225 14 26 .int false := ⟨"GlobRowsModel", RX11, TX11, 39, tyX11, vcl_14, by decide, kw_215803086, Or.inl rfl, rfl, (fun h => nomatch h), by decide +kernel⟩
theorem fF_X11_97 : vg_F RX11 97 14 38 (.array .int) true := ⟨"GlobRowsModel", RX11, TX11, 39, tyX11, vcl_14, by decide, kw_648508511, Or.inl rfl, rfl, (fun _ => rfl), by decide +kernel⟩
theorem fCV_X11_232 : vg_CV RX11 232 RX11 yX11_isLooked cX11_isLooked 5 (some .boolean) 1 := ⟨kw_686085237, kw_348795831, kw_75206732, kw_630383448, kw_824038327, ⟨rfl, by decide +kernel, by decide +kernel, by decide +kernel⟩, by decide⟩
theorem fCV_X11_235 : vg_CV RX11 235 RX11 yX11_counts cX11_counts 3 (some .boolean) 2 := ⟨kw_263698430, kw_954808508, kw_983334257, kw_630383448, kw_745504971, ⟨rfl, by decide +kernel, by decide +kernel, by decide +kernel⟩, by decide⟩
theorem fF_X11_91 : vg_F RX11 91 14 35 (.array .byte) true := ⟨"GlobRowsModel", RX11, TX11, 39, tyX11, vcl_14, by decide, kw_893813498, Or.inl rfl, rfl, (fun _ => rfl), by decide +kernel⟩
theorem fCV_X11_216 : vg_CV RX11 216 RX11 yX11_spell cX11_spell 4 (some .int) 1 := ⟨kw_251951439, kw_896833087, kw_207490381, kw_630383448, kw_646838660, ⟨rfl, by decide +kernel, by decide +kernel, by decide +kernel⟩, by decide⟩
theorem fCV_X11_244 : vg_CV RX11 244 RX11 yX11_following cX11_following 4 (some .int) 0 := ⟨kw_926202357, kw_145567510, kw_414841791, kw_630383448, kw_589399843, ⟨rfl, by decide +kernel, by decide +kernel, by decide +kernel⟩, by decide⟩
theorem fCV_X11_247 : vg_CV RX11 247 RX11 yX11_isAnswer cX11_isAnswer 6 (some .boolean) 2 := ⟨kw_57509790, kw_689111034, kw_77790650, kw_630383448, kw_389284006, ⟨rfl, by decide +kernel, by decide +kernel, by decide +kernel⟩, by decide⟩
theorem fCV_X11_250 : vg_CV RX11 250 RX11 yX11_tell cX11_tell 4 none 1 := ⟨kw_178031472, kw_879135304, kw_659661288, kw_630383448, kw_166648882, ⟨rfl, by decide +kernel, by decide +kernel, by decide +kernel⟩, by decide⟩
theorem fCV_X11_238 : vg_CV RX11 238 RX11 yX11_enter cX11_enter 3 none 2 := ⟨kw_474662700, kw_769594543, kw_355442770, kw_630383448, kw_471582494, ⟨rfl, by decide +kernel, by decide +kernel, by decide +kernel⟩, by decide⟩
theorem fCV_X11_241 : vg_CV RX11 241 RX11 yX11_look cX11_look 3 none 1 := ⟨kw_147279425, kw_861322578, kw_591248672, kw_630383448, kw_263348921, ⟨rfl, by decide +kernel, by decide +kernel, by decide +kernel⟩, by decide⟩
theorem fCV_X11_222 : vg_CV RX11 222 RX11 yX11_packageOf cX11_packageOf 4 (some .int) 1 := ⟨kw_741866727, kw_166275962, kw_107899703, kw_630383448, kw_920818404, ⟨rfl, by decide +kernel, by decide +kernel, by decide +kernel⟩, by decide⟩
theorem fF_X11_94 : vg_F RX11 94 14 37 (.array .byte) true := ⟨"GlobRowsModel", RX11, TX11, 39, tyX11, vcl_14, by decide, kw_577345233, Or.inl rfl, rfl, (fun _ => rfl), by decide +kernel⟩
theorem fCV_X11_228 : vg_CV RX11 228 RX11 yX11_walk cX11_walk 5 none 2 := ⟨kw_31002187, kw_885810932, kw_159359712, kw_630383448, kw_682963488, ⟨rfl, by decide +kernel, by decide +kernel, by decide +kernel⟩, by decide⟩
theorem fF_X11_159 : vg_F RX11 159 14 15 .int false := ⟨"GlobRowsModel", RX11, TX11, 39, tyX11, vcl_14, by decide, kw_583108478, Or.inl rfl, rfl, (fun h => nomatch h), by decide +kernel⟩
theorem fCV_X11_145 : vg_CV RX11 145 RX11 yX11_many cX11_many 3 (some .int) 0 := ⟨kw_372364617, kw_863330298, kw_428128516, kw_630383448, kw_932605682, ⟨rfl, by decide +kernel, by decide +kernel, by decide +kernel⟩, by decide⟩
theorem fCV_X11_148 : vg_CV RX11 148 RX11 yX11_add cX11_add 6 (some .int) 3 := ⟨kw_444858823, kw_372796974, kw_577141736, kw_630383448, kw_456744677, ⟨rfl, by decide +kernel, by decide +kernel, by decide +kernel⟩, by decide⟩
theorem fCV_X11_138 : vg_CV RX11 138 RX11 yX11_takes cX11_takes 1 (some .boolean) 0 := ⟨kw_126082754, kw_157713692, kw_902683931, kw_630383448, kw_572438779, ⟨rfl, by decide +kernel, by decide +kernel, by decide +kernel⟩, by decide⟩
theorem fCV_X11_152 : vg_CV RX11 152 RX11 yX11_put cX11_put 5 (some .int) 1 := ⟨kw_972811815, kw_373056632, kw_567759479, kw_630383448, kw_940993213, ⟨rfl, by decide +kernel, by decide +kernel, by decide +kernel⟩, by decide⟩
theorem fCV_X11_162 : vg_CV RX11 162 RX11 yX11_at cX11_at 2 (some .int) 1 := ⟨kw_511065475, kw_605899233, kw_540628746, kw_630383448, kw_42682038, ⟨rfl, by decide +kernel, by decide +kernel, by decide +kernel⟩, by decide⟩
theorem fCV_X11_165 : vg_CV RX11 165 RX11 yX11_part cX11_part 4 (some .int) 1 := ⟨kw_359033271, kw_870075090, kw_719705274, kw_630383448, kw_171986509, ⟨rfl, by decide +kernel, by decide +kernel, by decide +kernel⟩, by decide⟩
theorem fCV_X11_168 : vg_CV RX11 168 RX11 yX11_piece cX11_piece 6 (some .int) 2 := ⟨kw_21003474, kw_997595508, kw_180727973, kw_630383448, kw_830843839, ⟨rfl, by decide +kernel, by decide +kernel, by decide +kernel⟩, by decide⟩
theorem fF_X11_69 : vg_F RX11 69 14 25 .int false := ⟨"GlobRowsModel", RX11, TX11, 39, tyX11, vcl_14, by decide, kw_874331091, Or.inl rfl, rfl, (fun h => nomatch h), by decide +kernel⟩
theorem fCV_X11_172 : vg_CV RX11 172 RX11 yX11_ill cX11_ill 6 (some .int) 0 := ⟨kw_926735721, kw_372935318, kw_578928783, kw_630383448, kw_786764603, ⟨rfl, by decide +kernel, by decide +kernel, by decide +kernel⟩, by decide⟩
theorem fCV_X11_156 : vg_CV RX11 156 RX11 yX11_orphans cX11_orphans 4 (some .int) 0 := ⟨kw_12615880, kw_289373921, kw_464332372, kw_630383448, kw_790505017, ⟨rfl, by decide +kernel, by decide +kernel, by decide +kernel⟩, by decide⟩
