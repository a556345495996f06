/-! THE LAW: its 52 calls -/
theorem cvL8_number : CV mLaw 13 mX8_number 1 := ⟨okX8_number, ⟨by decide +kernel, by decide, by decide⟩, wd_401, wd_402, wd_403⟩
theorem cvL9_number : CV mLaw 17 mX9_number 1 := ⟨okX9_number, ⟨by decide +kernel, by decide, by decide⟩, wd_1120, wd_1121, wd_1122⟩
theorem cvL8_name : CV mLaw 18 mX8_name 1 := ⟨okX8_name, ⟨by decide +kernel, by decide, by decide⟩, wd_458, wd_459, wd_460⟩
theorem cvL9_name : CV mLaw 21 mX9_name 1 := ⟨okX9_name, ⟨by decide +kernel, by decide, by decide⟩, wd_1163, wd_1164, wd_1165⟩
theorem cvL8_act : CV mLaw 22 mX8_act 3 := ⟨okX8_act, ⟨by decide +kernel, by decide, by decide⟩, wd_465, wd_466, wd_467⟩
theorem cvL9_act : CV mLaw 26 mX9_act 3 := ⟨okX9_act, ⟨by decide +kernel, by decide, by decide⟩, wd_1168, wd_1169, wd_1170⟩
theorem cvL8_join : CV mLaw 27 mX8_join 4 := ⟨okX8_join, ⟨by decide +kernel, by decide, by decide⟩, wd_469, wd_470, wd_471⟩
theorem cvL9_join : CV mLaw 31 mX9_join 4 := ⟨okX9_join, ⟨by decide +kernel, by decide, by decide⟩, wd_1177, wd_1178, wd_1179⟩
theorem cvL8_set : CV mLaw 32 mX8_set 2 := ⟨okX8_set, ⟨by decide +kernel, by decide, by decide⟩, wd_473, wd_474, wd_475⟩
theorem cvL9_set : CV mLaw 36 mX9_set 2 := ⟨okX9_set, ⟨by decide +kernel, by decide, by decide⟩, wd_1181, wd_1182, wd_1183⟩
theorem cvL8_call : CV mLaw 37 mX8_call 4 := ⟨okX8_call, ⟨by decide +kernel, by decide, by decide⟩, wd_477, wd_478, wd_479⟩
theorem cvL9_call : CV mLaw 40 mX9_call 4 := ⟨okX9_call, ⟨by decide +kernel, by decide, by decide⟩, wd_1185, wd_1186, wd_1187⟩
theorem cvL8_routine : CV mLaw 41 mX8_routine 1 := ⟨okX8_routine, ⟨by decide +kernel, by decide, by decide⟩, wd_489, wd_490, wd_491⟩
theorem cvL9_routine : CV mLaw 44 mX9_routine 1 := ⟨okX9_routine, ⟨by decide +kernel, by decide, by decide⟩, wd_1193, wd_1194, wd_1195⟩
theorem cvL8_body : CV mLaw 45 mX8_body 2 := ⟨okX8_body, ⟨by decide +kernel, by decide, by decide⟩, wd_497, wd_498, wd_499⟩
theorem cvL9_body : CV mLaw 48 mX9_body 2 := ⟨okX9_body, ⟨by decide +kernel, by decide, by decide⟩, wd_1198, wd_1199, wd_1200⟩
theorem cvL8_told : CV mLaw 49 mX8_told 2 := ⟨okX8_told, ⟨by decide +kernel, by decide, by decide⟩, wd_538, wd_539, wd_540⟩
theorem cvL9_told : CV mLaw 52 mX9_told 2 := ⟨okX9_told, ⟨by decide +kernel, by decide, by decide⟩, wd_1223, wd_1224, wd_1225⟩
theorem cvL8_about : CV mLaw 53 mX8_about 2 := ⟨okX8_about, ⟨by decide +kernel, by decide, by decide⟩, wd_568, wd_569, wd_570⟩
theorem cvL9_about : CV mLaw 56 mX9_about 2 := ⟨okX9_about, ⟨by decide +kernel, by decide, by decide⟩, wd_1233, wd_1234, wd_1235⟩
theorem cvL8_same : CV mLaw 57 mX8_same 2 := ⟨okX8_same, ⟨by decide +kernel, by decide, by decide⟩, wd_586, wd_587, wd_588⟩
theorem cvL9_same : CV mLaw 60 mX9_same 2 := ⟨okX9_same, ⟨by decide +kernel, by decide, by decide⟩, wd_1241, wd_1242, wd_1243⟩
theorem cvL8_run : CV mLaw 61 mX8_run 5 := ⟨okX8_run, ⟨by decide +kernel, by decide, by decide⟩, wd_594, wd_595, wd_596⟩
theorem cvL9_run : CV mLaw 65 mX9_run 5 := ⟨okX9_run, ⟨by decide +kernel, by decide, by decide⟩, wd_1245, wd_1246, wd_1247⟩
theorem cvL8_ran : CV mLaw 66 mX8_ran 1 := ⟨okX8_ran, ⟨by decide +kernel, by decide, by decide⟩, wd_715, wd_716, wd_717⟩
theorem cvL9_ran : CV mLaw 69 mX9_ran 1 := ⟨okX9_ran, ⟨by decide +kernel, by decide, by decide⟩, wd_1298, wd_1299, wd_1300⟩
theorem cvL8_row : CV mLaw 70 mX8_row 1 := ⟨okX8_row, ⟨by decide +kernel, by decide, by decide⟩, wd_723, wd_724, wd_725⟩
theorem cvL9_row : CV mLaw 73 mX9_row 1 := ⟨okX9_row, ⟨by decide +kernel, by decide, by decide⟩, wd_1302, wd_1303, wd_1304⟩
theorem cvL8_lay : CV mLaw 74 mX8_lay 2 := ⟨okX8_lay, ⟨by decide +kernel, by decide, by decide⟩, wd_728, wd_729, wd_730⟩
theorem cvL9_lay : CV mLaw 77 mX9_lay 2 := ⟨okX9_lay, ⟨by decide +kernel, by decide, by decide⟩, wd_1306, wd_1307, wd_1308⟩
theorem cvL8_clearCounts : CV mLaw 78 mX8_clearCounts 0 := ⟨okX8_clearCounts, ⟨by decide +kernel, by decide, by decide⟩, wd_733, wd_734, wd_735⟩
theorem cvL9_clearCounts : CV mLaw 82 mX9_clearCounts 0 := ⟨okX9_clearCounts, ⟨by decide +kernel, by decide, by decide⟩, wd_1310, wd_1311, wd_1312⟩
theorem cvL8_melt : CV mLaw 83 mX8_melt 1 := ⟨okX8_melt, ⟨by decide +kernel, by decide, by decide⟩, wd_744, wd_745, wd_746⟩
theorem cvL9_melt : CV mLaw 86 mX9_melt 1 := ⟨okX9_melt, ⟨by decide +kernel, by decide, by decide⟩, wd_1322, wd_1323, wd_1324⟩
theorem cvL8_gain : CV mLaw 87 mX8_gain 1 := ⟨okX8_gain, ⟨by decide +kernel, by decide, by decide⟩, wd_805, wd_806, wd_807⟩
theorem cvL9_gain : CV mLaw 90 mX9_gain 1 := ⟨okX9_gain, ⟨by decide +kernel, by decide, by decide⟩, wd_1350, wd_1351, wd_1352⟩
theorem cvL8_weight : CV mLaw 91 mX8_weight 1 := ⟨okX8_weight, ⟨by decide +kernel, by decide, by decide⟩, wd_814, wd_815, wd_816⟩
theorem cvL9_weight : CV mLaw 94 mX9_weight 1 := ⟨okX9_weight, ⟨by decide +kernel, by decide, by decide⟩, wd_1354, wd_1355, wd_1356⟩
theorem cvL8_ahead : CV mLaw 95 mX8_ahead 1 := ⟨okX8_ahead, ⟨by decide +kernel, by decide, by decide⟩, wd_819, wd_820, wd_821⟩
theorem cvL9_ahead : CV mLaw 98 mX9_ahead 1 := ⟨okX9_ahead, ⟨by decide +kernel, by decide, by decide⟩, wd_1358, wd_1359, wd_1360⟩
theorem cvL8_drop : CV mLaw 99 mX8_drop 0 := ⟨okX8_drop, ⟨by decide +kernel, by decide, by decide⟩, wd_883, wd_884, wd_885⟩
theorem cvL9_drop : CV mLaw 102 mX9_drop 0 := ⟨okX9_drop, ⟨by decide +kernel, by decide, by decide⟩, wd_1402, wd_1403, wd_1404⟩
theorem cvL8_undo : CV mLaw 103 mX8_undo 0 := ⟨okX8_undo, ⟨by decide +kernel, by decide, by decide⟩, wd_896, wd_897, wd_898⟩
theorem cvL9_undo : CV mLaw 106 mX9_undo 0 := ⟨okX9_undo, ⟨by decide +kernel, by decide, by decide⟩, wd_1314, wd_1315, wd_1316⟩
theorem cvL8_layout : CV mLaw 107 mX8_layout 2 := ⟨okX8_layout, ⟨by decide +kernel, by decide, by decide⟩, wd_906, wd_907, wd_908⟩
theorem cvL9_layout : CV mLaw 110 mX9_layout 2 := ⟨okX9_layout, ⟨by decide +kernel, by decide, by decide⟩, wd_1406, wd_1407, wd_1408⟩
theorem cvL8_laid : CV mLaw 111 mX8_laid 1 := ⟨okX8_laid, ⟨by decide +kernel, by decide, by decide⟩, wd_933, wd_934, wd_935⟩
theorem cvL9_laid : CV mLaw 114 mX9_laid 1 := ⟨okX9_laid, ⟨by decide +kernel, by decide, by decide⟩, wd_1418, wd_1419, wd_1420⟩
theorem cvL8_next : CV mLaw 115 mX8_next 2 := ⟨okX8_next, ⟨by decide +kernel, by decide, by decide⟩, wd_945, wd_946, wd_947⟩
theorem cvL9_next : CV mLaw 118 mX9_next 2 := ⟨okX9_next, ⟨by decide +kernel, by decide, by decide⟩, wd_1422, wd_1423, wd_1424⟩
theorem cvL8_count : CV mLaw 119 mX8_count 1 := ⟨okX8_count, ⟨by decide +kernel, by decide, by decide⟩, wd_957, wd_958, wd_959⟩
theorem cvL9_count : CV mLaw 122 mX9_count 1 := ⟨okX9_count, ⟨by decide +kernel, by decide, by decide⟩, wd_1426, wd_1427, wd_1428⟩
theorem pu_153 : PushAt 153 1 := (fun j hj => by
    rcases (show j = 0 from by omega) with rfl
    · exact ⟨dW_153, dW_154, dW_155, dW_156, dW_157⟩)
theorem pu_162 : PushAt 162 1 := (fun j hj => by
    rcases (show j = 0 from by omega) with rfl
    · exact ⟨dW_162, dW_163, dW_164, dW_165, dW_166⟩)
theorem pu_176 : PushAt 176 1 := (fun j hj => by
    rcases (show j = 0 from by omega) with rfl
    · exact ⟨dW_176, dW_177, dW_178, dW_179, dW_180⟩)
theorem pu_185 : PushAt 185 1 := (fun j hj => by
    rcases (show j = 0 from by omega) with rfl
    · exact ⟨dW_185, dW_186, dW_187, dW_188, dW_189⟩)
theorem pu_199 : PushAt 199 3 := (fun j hj => by
    rcases (show j = 0 ∨ j = 1 ∨ j = 2 from by omega) with rfl | rfl | rfl
    · exact ⟨dW_199, dW_200, dW_201, dW_202, dW_203⟩
    · exact ⟨dW_204, dW_205, dW_206, dW_207, dW_208⟩
    · exact ⟨dW_209, dW_210, dW_211, dW_212, dW_213⟩)
theorem pu_218 : PushAt 218 3 := (fun j hj => by
    rcases (show j = 0 ∨ j = 1 ∨ j = 2 from by omega) with rfl | rfl | rfl
    · exact ⟨dW_218, dW_219, dW_220, dW_221, dW_222⟩
    · exact ⟨dW_223, dW_224, dW_225, dW_226, dW_227⟩
    · exact ⟨dW_228, dW_229, dW_230, dW_231, dW_232⟩)
theorem pu_242 : PushAt 242 4 := (fun j hj => by
    rcases (show j = 0 ∨ j = 1 ∨ j = 2 ∨ j = 3 from by omega) with rfl | rfl | rfl | rfl
    · exact ⟨dW_242, dW_243, dW_244, dW_245, dW_246⟩
    · exact ⟨dW_247, dW_248, dW_249, dW_250, dW_251⟩
    · exact ⟨dW_252, dW_253, dW_254, dW_255, dW_256⟩
    · exact ⟨dW_257, dW_258, dW_259, dW_260, dW_261⟩)
theorem pu_266 : PushAt 266 4 := (fun j hj => by
    rcases (show j = 0 ∨ j = 1 ∨ j = 2 ∨ j = 3 from by omega) with rfl | rfl | rfl | rfl
    · exact ⟨dW_266, dW_267, dW_268, dW_269, dW_270⟩
    · exact ⟨dW_271, dW_272, dW_273, dW_274, dW_275⟩
    · exact ⟨dW_276, dW_277, dW_278, dW_279, dW_280⟩
    · exact ⟨dW_281, dW_282, dW_283, dW_284, dW_285⟩)
theorem pu_295 : PushAt 295 2 := (fun j hj => by
    rcases (show j = 0 ∨ j = 1 from by omega) with rfl | rfl
    · exact ⟨dW_295, dW_296, dW_297, dW_298, dW_299⟩
    · exact ⟨dW_300, dW_301, dW_302, dW_303, dW_304⟩)
theorem pu_309 : PushAt 309 2 := (fun j hj => by
    rcases (show j = 0 ∨ j = 1 from by omega) with rfl | rfl
    · exact ⟨dW_309, dW_310, dW_311, dW_312, dW_313⟩
    · exact ⟨dW_314, dW_315, dW_316, dW_317, dW_318⟩)
theorem pu_328 : PushAt 328 4 := (fun j hj => by
    rcases (show j = 0 ∨ j = 1 ∨ j = 2 ∨ j = 3 from by omega) with rfl | rfl | rfl | rfl
    · exact ⟨dW_328, dW_329, dW_330, dW_331, dW_332⟩
    · exact ⟨dW_333, dW_334, dW_335, dW_336, dW_337⟩
    · exact ⟨dW_338, dW_339, dW_340, dW_341, dW_342⟩
    · exact ⟨dW_343, dW_344, dW_345, dW_346, dW_347⟩)
theorem pu_352 : PushAt 352 4 := (fun j hj => by
    rcases (show j = 0 ∨ j = 1 ∨ j = 2 ∨ j = 3 from by omega) with rfl | rfl | rfl | rfl
    · exact ⟨dW_352, dW_353, dW_354, dW_355, dW_356⟩
    · exact ⟨dW_357, dW_358, dW_359, dW_360, dW_361⟩
    · exact ⟨dW_362, dW_363, dW_364, dW_365, dW_366⟩
    · exact ⟨dW_367, dW_368, dW_369, dW_370, dW_371⟩)
theorem pu_381 : PushAt 381 1 := (fun j hj => by
    rcases (show j = 0 from by omega) with rfl
    · exact ⟨dW_381, dW_382, dW_383, dW_384, dW_385⟩)
theorem pu_390 : PushAt 390 1 := (fun j hj => by
    rcases (show j = 0 from by omega) with rfl
    · exact ⟨dW_390, dW_391, dW_392, dW_393, dW_394⟩)
theorem pu_404 : PushAt 404 2 := (fun j hj => by
    rcases (show j = 0 ∨ j = 1 from by omega) with rfl | rfl
    · exact ⟨dW_404, dW_405, dW_406, dW_407, dW_408⟩
    · exact ⟨dW_409, dW_410, dW_411, dW_412, dW_413⟩)
theorem pu_418 : PushAt 418 2 := (fun j hj => by
    rcases (show j = 0 ∨ j = 1 from by omega) with rfl | rfl
    · exact ⟨dW_418, dW_419, dW_420, dW_421, dW_422⟩
    · exact ⟨dW_423, dW_424, dW_425, dW_426, dW_427⟩)
theorem pu_437 : PushAt 437 2 := (fun j hj => by
    rcases (show j = 0 ∨ j = 1 from by omega) with rfl | rfl
    · exact ⟨dW_437, dW_438, dW_439, dW_440, dW_441⟩
    · exact ⟨dW_442, dW_443, dW_444, dW_445, dW_446⟩)
theorem pu_451 : PushAt 451 2 := (fun j hj => by
    rcases (show j = 0 ∨ j = 1 from by omega) with rfl | rfl
    · exact ⟨dW_451, dW_452, dW_453, dW_454, dW_455⟩
    · exact ⟨dW_456, dW_457, dW_458, dW_459, dW_460⟩)
theorem pu_470 : PushAt 470 2 := (fun j hj => by
    rcases (show j = 0 ∨ j = 1 from by omega) with rfl | rfl
    · exact ⟨dW_470, dW_471, dW_472, dW_473, dW_474⟩
    · exact ⟨dW_475, dW_476, dW_477, dW_478, dW_479⟩)
theorem pu_484 : PushAt 484 2 := (fun j hj => by
    rcases (show j = 0 ∨ j = 1 from by omega) with rfl | rfl
    · exact ⟨dW_484, dW_485, dW_486, dW_487, dW_488⟩
    · exact ⟨dW_489, dW_490, dW_491, dW_492, dW_493⟩)
theorem pu_503 : PushAt 503 2 := (fun j hj => by
    rcases (show j = 0 ∨ j = 1 from by omega) with rfl | rfl
    · exact ⟨dW_503, dW_504, dW_505, dW_506, dW_507⟩
    · exact ⟨dW_508, dW_509, dW_510, dW_511, dW_512⟩)
theorem pu_517 : PushAt 517 2 := (fun j hj => by
    rcases (show j = 0 ∨ j = 1 from by omega) with rfl | rfl
    · exact ⟨dW_517, dW_518, dW_519, dW_520, dW_521⟩
    · exact ⟨dW_522, dW_523, dW_524, dW_525, dW_526⟩)
theorem pu_536 : PushAt 536 5 := (fun j hj => by
    rcases (show j = 0 ∨ j = 1 ∨ j = 2 ∨ j = 3 ∨ j = 4 from by omega) with rfl | rfl | rfl | rfl | rfl
    · exact ⟨dW_536, dW_537, dW_538, dW_539, dW_540⟩
    · exact ⟨dW_541, dW_542, dW_543, dW_544, dW_545⟩
    · exact ⟨dW_546, dW_547, dW_548, dW_549, dW_550⟩
    · exact ⟨dW_551, dW_552, dW_553, dW_554, dW_555⟩
    · exact ⟨dW_556, dW_557, dW_558, dW_559, dW_560⟩)
theorem pu_565 : PushAt 565 5 := (fun j hj => by
    rcases (show j = 0 ∨ j = 1 ∨ j = 2 ∨ j = 3 ∨ j = 4 from by omega) with rfl | rfl | rfl | rfl | rfl
    · exact ⟨dW_565, dW_566, dW_567, dW_568, dW_569⟩
    · exact ⟨dW_570, dW_571, dW_572, dW_573, dW_574⟩
    · exact ⟨dW_575, dW_576, dW_577, dW_578, dW_579⟩
    · exact ⟨dW_580, dW_581, dW_582, dW_583, dW_584⟩
    · exact ⟨dW_585, dW_586, dW_587, dW_588, dW_589⟩)
theorem pu_599 : PushAt 599 1 := (fun j hj => by
    rcases (show j = 0 from by omega) with rfl
    · exact ⟨dW_599, dW_600, dW_601, dW_602, dW_603⟩)
theorem pu_608 : PushAt 608 1 := (fun j hj => by
    rcases (show j = 0 from by omega) with rfl
    · exact ⟨dW_608, dW_609, dW_610, dW_611, dW_612⟩)
theorem pu_622 : PushAt 622 1 := (fun j hj => by
    rcases (show j = 0 from by omega) with rfl
    · exact ⟨dW_622, dW_623, dW_624, dW_625, dW_626⟩)
theorem pu_631 : PushAt 631 1 := (fun j hj => by
    rcases (show j = 0 from by omega) with rfl
    · exact ⟨dW_631, dW_632, dW_633, dW_634, dW_635⟩)
theorem pu_645 : PushAt 645 2 := (fun j hj => by
    rcases (show j = 0 ∨ j = 1 from by omega) with rfl | rfl
    · exact ⟨dW_645, dW_646, dW_647, dW_648, dW_649⟩
    · exact ⟨dW_650, dW_651, dW_652, dW_653, dW_654⟩)
theorem pu_659 : PushAt 659 2 := (fun j hj => by
    rcases (show j = 0 ∨ j = 1 from by omega) with rfl | rfl
    · exact ⟨dW_659, dW_660, dW_661, dW_662, dW_663⟩
    · exact ⟨dW_664, dW_665, dW_666, dW_667, dW_668⟩)
theorem pu_678 : PushAt 678 0 := (fun j hj => absurd hj (Nat.not_lt_zero j))
theorem pu_682 : PushAt 682 0 := (fun j hj => absurd hj (Nat.not_lt_zero j))
theorem pu_691 : PushAt 691 1 := (fun j hj => by
    rcases (show j = 0 from by omega) with rfl
    · exact ⟨dW_691, dW_692, dW_693, dW_694, dW_695⟩)
theorem pu_700 : PushAt 700 1 := (fun j hj => by
    rcases (show j = 0 from by omega) with rfl
    · exact ⟨dW_700, dW_701, dW_702, dW_703, dW_704⟩)
theorem pu_714 : PushAt 714 1 := (fun j hj => by
    rcases (show j = 0 from by omega) with rfl
    · exact ⟨dW_714, dW_715, dW_716, dW_717, dW_718⟩)
theorem pu_723 : PushAt 723 1 := (fun j hj => by
    rcases (show j = 0 from by omega) with rfl
    · exact ⟨dW_723, dW_724, dW_725, dW_726, dW_727⟩)
theorem pu_737 : PushAt 737 1 := (fun j hj => by
    rcases (show j = 0 from by omega) with rfl
    · exact ⟨dW_737, dW_738, dW_739, dW_740, dW_741⟩)
theorem pu_746 : PushAt 746 1 := (fun j hj => by
    rcases (show j = 0 from by omega) with rfl
    · exact ⟨dW_746, dW_747, dW_748, dW_749, dW_750⟩)
theorem pu_760 : PushAt 760 1 := (fun j hj => by
    rcases (show j = 0 from by omega) with rfl
    · exact ⟨dW_760, dW_761, dW_762, dW_763, dW_764⟩)
theorem pu_769 : PushAt 769 1 := (fun j hj => by
    rcases (show j = 0 from by omega) with rfl
    · exact ⟨dW_769, dW_770, dW_771, dW_772, dW_773⟩)
theorem pu_783 : PushAt 783 0 := (fun j hj => absurd hj (Nat.not_lt_zero j))
theorem pu_787 : PushAt 787 0 := (fun j hj => absurd hj (Nat.not_lt_zero j))
theorem pu_796 : PushAt 796 0 := (fun j hj => absurd hj (Nat.not_lt_zero j))
theorem pu_800 : PushAt 800 0 := (fun j hj => absurd hj (Nat.not_lt_zero j))
theorem pu_809 : PushAt 809 2 := (fun j hj => by
    rcases (show j = 0 ∨ j = 1 from by omega) with rfl | rfl
    · exact ⟨dW_809, dW_810, dW_811, dW_812, dW_813⟩
    · exact ⟨dW_814, dW_815, dW_816, dW_817, dW_818⟩)
theorem pu_823 : PushAt 823 2 := (fun j hj => by
    rcases (show j = 0 ∨ j = 1 from by omega) with rfl | rfl
    · exact ⟨dW_823, dW_824, dW_825, dW_826, dW_827⟩
    · exact ⟨dW_828, dW_829, dW_830, dW_831, dW_832⟩)
theorem pu_842 : PushAt 842 1 := (fun j hj => by
    rcases (show j = 0 from by omega) with rfl
    · exact ⟨dW_842, dW_843, dW_844, dW_845, dW_846⟩)
theorem pu_851 : PushAt 851 1 := (fun j hj => by
    rcases (show j = 0 from by omega) with rfl
    · exact ⟨dW_851, dW_852, dW_853, dW_854, dW_855⟩)
theorem pu_865 : PushAt 865 2 := (fun j hj => by
    rcases (show j = 0 ∨ j = 1 from by omega) with rfl | rfl
    · exact ⟨dW_865, dW_866, dW_867, dW_868, dW_869⟩
    · exact ⟨dW_870, dW_871, dW_872, dW_873, dW_874⟩)
theorem pu_879 : PushAt 879 2 := (fun j hj => by
    rcases (show j = 0 ∨ j = 1 from by omega) with rfl | rfl
    · exact ⟨dW_879, dW_880, dW_881, dW_882, dW_883⟩
    · exact ⟨dW_884, dW_885, dW_886, dW_887, dW_888⟩)
theorem pu_898 : PushAt 898 1 := (fun j hj => by
    rcases (show j = 0 from by omega) with rfl
    · exact ⟨dW_898, dW_899, dW_900, dW_901, dW_902⟩)
theorem pu_907 : PushAt 907 1 := (fun j hj => by
    rcases (show j = 0 from by omega) with rfl
    · exact ⟨dW_907, dW_908, dW_909, dW_910, dW_911⟩)
