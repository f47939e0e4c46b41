theorem inX7 : ∀ w ∈ u_ws RX7 TX7 30, w ∈ TB := by decide +kernel
theorem inX6 : ∀ w ∈ u_ws RX6 TX6 5, w ∈ TB := by decide +kernel
theorem inX5 : ∀ w ∈ u_ws RX5 TX5 6, w ∈ TB := by decide +kernel
theorem inX4 : ∀ w ∈ u_ws RX4 TX4 4, w ∈ TB := by decide +kernel
theorem inX3 : ∀ w ∈ u_ws RX3 TX3 2, w ∈ TB := by decide +kernel
theorem inX2 : ∀ w ∈ u_ws RX2 TX2 12, w ∈ TB := by decide +kernel
theorem inX1 : ∀ w ∈ u_ws RX1 TX1 3, w ∈ TB := by decide +kernel
theorem inX0 : ∀ w ∈ u_ws RX0 TX0 2, w ∈ TB := by decide +kernel
theorem eX4_shorten : XE yX4_shorten cX4_shorten 2 none 1 := ⟨q_266, q_264, q_265, q_3, by decide +kernel⟩
theorem eX4_length : XE yX4_length cX4_length 1 (some .int) 0 := ⟨q_217, q_215, q_216, q_3, by decide +kernel⟩
theorem eX4_at : XE yX4_at cX4_at 3 (some .int) 2 := ⟨q_282, q_280, q_281, q_3, by decide +kernel⟩
theorem eX3_keyOf : XE yX3_keyOf cX3_keyOf 2 (some .int) 1 := ⟨q_292, q_290, q_291, q_2, by decide +kernel⟩
theorem eX3_valueOf : XE yX3_valueOf cX3_valueOf 2 (some .int) 1 := ⟨q_296, q_294, q_295, q_2, by decide +kernel⟩
theorem eX3_setting : XE yX3_setting cX3_setting 2 (some .int) 1 := ⟨q_278, q_276, q_277, q_2, by decide +kernel⟩
theorem eX3_hashOf : XE yX3_hashOf cX3_hashOf 2 (some .int) 1 := ⟨q_300, q_298, q_299, q_2, by decide +kernel⟩
theorem eX4_placeOf : XE yX4_placeOf cX4_placeOf 4 (some .int) 1 := ⟨q_332, q_330, q_331, q_3, by decide +kernel⟩
theorem eJ7_rangeCheck_23922 : XEs yJ7_rangeCheck_23922 cJ7_rangeCheck_23922 3 none 3 := ⟨q_58, q_57, q_5, by decide +kernel⟩
theorem eJ7_fill_fda19 : XEs yJ7_fill_fda19 cJ7_fill_fda19 5 none 4 := ⟨q_55, q_54, q_5, by decide +kernel⟩
theorem eX4_insert : XE yX4_insert cX4_insert 4 none 2 := ⟨q_337, q_335, q_336, q_3, by decide +kernel⟩
theorem eX4_put : XE yX4_put cX4_put 4 none 3 := ⟨q_249, q_247, q_248, q_3, by decide +kernel⟩
theorem eX4_raise : XE yX4_raise cX4_raise 4 none 3 := ⟨q_342, q_340, q_341, q_3, by decide +kernel⟩
theorem eX0_addRow : XE yX0_addRow cX0_addRow 5 none 3 := ⟨q_328, q_327, List.mem_filter.mpr ⟨List.mem_append_left _ (List.mem_of_getElem? (i := 4) (by decide +kernel)), rfl⟩, q_8, by decide +kernel⟩
theorem eX4_append : XE yX4_append cX4_append 3 (some .int) 1 := ⟨q_52, q_50, q_51, q_3, by decide +kernel⟩
theorem eX0_gather : XE yX0_gather cX0_gather 3 none 1 := ⟨q_319, q_317, q_318, q_8, by decide +kernel⟩
theorem eX1_length : XE yX1_length cX1_length 1 (some .int) 0 := ⟨q_498, q_496, q_497, q_6, by decide +kernel⟩
theorem eX1_stateAt : XE yX1_stateAt cX1_stateAt 3 (some (.object "SpilledGroups$State")) 1 := ⟨q_230, q_229, List.mem_filter.mpr ⟨List.mem_append_left _ (List.mem_of_getElem? (i := 1) (by decide +kernel)), rfl⟩, q_6, by decide +kernel⟩
theorem eX4_copyFrom : XE yX4_copyFrom cX4_copyFrom 2 none 1 := ⟨q_238, q_236, q_237, q_3, by decide +kernel⟩
theorem eX3_copyFrom : XE yX3_copyFrom cX3_copyFrom 2 none 1 := ⟨q_234, q_232, q_233, q_2, by decide +kernel⟩
theorem eX1_keep : XE yX1_keep cX1_keep 3 none 1 := ⟨q_226, q_224, q_225, q_6, by decide +kernel⟩
theorem eX1_restore : XE yX1_restore cX1_restore 3 none 1 := ⟨q_506, q_504, q_505, q_6, by decide +kernel⟩
theorem eX2_forget : XE yX2_forget cX2_forget 1 none 0 := ⟨q_351, q_349, q_350, q_7, by decide +kernel⟩
theorem eX4_reset : XE yX4_reset cX4_reset 2 none 1 := ⟨q_366, q_364, q_365, q_3, by decide +kernel⟩
theorem eX2_prefixOf : XE yX2_prefixOf cX2_prefixOf 3 (some .int) 2 := ⟨q_379, q_378, List.mem_filter.mpr ⟨List.mem_append_left _ (List.mem_of_getElem? (i := 7) (by decide +kernel)), rfl⟩, q_7, by decide +kernel⟩
theorem eX2_partOf : XE yX2_partOf cX2_partOf 4 (some .int) 2 := ⟨q_387, q_386, List.mem_filter.mpr ⟨List.mem_append_left _ (List.mem_of_getElem? (i := 9) (by decide +kernel)), rfl⟩, q_7, by decide +kernel⟩
theorem eX2_isSpilled : XE yX2_isSpilled cX2_isSpilled 3 (some .boolean) 2 := ⟨q_391, q_390, List.mem_filter.mpr ⟨List.mem_append_left _ (List.mem_of_getElem? (i := 10) (by decide +kernel)), rfl⟩, q_7, by decide +kernel⟩
theorem eX2_isHeld : XE yX2_isHeld cX2_isHeld 3 (some .boolean) 1 := ⟨q_395, q_394, List.mem_filter.mpr ⟨List.mem_append_left _ (List.mem_of_getElem? (i := 11) (by decide +kernel)), rfl⟩, q_7, by decide +kernel⟩
theorem eX2_needsSpill : XE yX2_needsSpill cX2_needsSpill 4 (some .boolean) 3 := ⟨q_383, q_382, List.mem_filter.mpr ⟨List.mem_append_left _ (List.mem_of_getElem? (i := 8) (by decide +kernel)), rfl⟩, q_7, by decide +kernel⟩
theorem eX2_fullestPart : XE yX2_fullestPart cX2_fullestPart 3 (some .int) 0 := ⟨q_400, q_399, List.mem_filter.mpr ⟨List.mem_append_left _ (List.mem_of_getElem? (i := 12) (by decide +kernel)), rfl⟩, q_7, by decide +kernel⟩
theorem eX2_spillPart : XE yX2_spillPart cX2_spillPart 7 none 2 := ⟨q_404, q_403, List.mem_filter.mpr ⟨List.mem_append_left _ (List.mem_of_getElem? (i := 13) (by decide +kernel)), rfl⟩, q_7, by decide +kernel⟩
theorem eX2_layGroup : XE yX2_layGroup cX2_layGroup 4 none 3 := ⟨q_413, q_412, List.mem_filter.mpr ⟨List.mem_append_left _ (List.mem_of_getElem? (i := 15) (by decide +kernel)), rfl⟩, q_7, by decide +kernel⟩
theorem eX2_takeItem : XE yX2_takeItem cX2_takeItem 5 none 3 := ⟨q_409, q_408, List.mem_filter.mpr ⟨List.mem_append_left _ (List.mem_of_getElem? (i := 14) (by decide +kernel)), rfl⟩, q_7, by decide +kernel⟩
theorem eX2_finishMemory : XE yX2_finishMemory cX2_finishMemory 6 none 3 := ⟨q_419, q_418, List.mem_filter.mpr ⟨List.mem_append_left _ (List.mem_of_getElem? (i := 16) (by decide +kernel)), rfl⟩, q_7, by decide +kernel⟩
theorem eX2_runFiles : XE yX2_runFiles cX2_runFiles 6 none 4 := ⟨q_423, q_422, List.mem_filter.mpr ⟨List.mem_append_left _ (List.mem_of_getElem? (i := 17) (by decide +kernel)), rfl⟩, q_7, by decide +kernel⟩
theorem eX2_runPass : XE yX2_runPass cX2_runPass 8 none 3 := ⟨q_372, q_371, List.mem_filter.mpr ⟨List.mem_append_left _ (List.mem_of_getElem? (i := 6) (by decide +kernel)), rfl⟩, q_7, by decide +kernel⟩
theorem eX2_run : XE yX2_run cX2_run 3 none 2 := ⟨q_360, q_358, q_359, q_7, by decide +kernel⟩
theorem eX2_find : XE yX2_find cX2_find 4 (some .int) 2 := ⟨q_435, q_433, q_434, q_7, by decide +kernel⟩
theorem eX4_sumOf : XE yX4_sumOf cX4_sumOf 4 (some .int) 1 := ⟨q_451, q_449, q_450, q_3, by decide +kernel⟩
theorem eX2_itemsFiled : XE yX2_itemsFiled cX2_itemsFiled 1 (some .int) 0 := ⟨q_447, q_445, q_446, q_7, by decide +kernel⟩
theorem eX2_itemsRead : XE yX2_itemsRead cX2_itemsRead 1 (some .int) 0 := ⟨q_456, q_454, q_455, q_7, by decide +kernel⟩
theorem eX3_addRow : XE yX3_addRow cX3_addRow 3 none 2 := ⟨q_245, q_243, q_244, q_2, by decide +kernel⟩
theorem eX4_remove : XE yX4_remove cX4_remove 3 none 1 := ⟨q_258, q_256, q_257, q_3, by decide +kernel⟩
theorem eX4_greatestOf : XE yX4_greatestOf cX4_greatestOf 4 (some .int) 1 := ⟨q_460, q_458, q_459, q_3, by decide +kernel⟩
theorem eX6_isOutside : XEs yX6_isOutside cX6_isOutside 3 (some .boolean) 3 := ⟨q_212, q_211, q_1, by decide +kernel⟩
theorem eX5_readNumber : XE yX5_readNumber cX5_readNumber 5 (some .int) 1 := ⟨q_533, q_532, List.mem_filter.mpr ⟨List.mem_append_left _ (List.mem_of_getElem? (i := 22) (by decide +kernel)), rfl⟩, q_9, by decide +kernel⟩
theorem eX5_readSign : XE yX5_readSign cX5_readSign 2 (some .boolean) 1 := ⟨q_540, q_539, List.mem_filter.mpr ⟨List.mem_append_left _ (List.mem_of_getElem? (i := 23) (by decide +kernel)), rfl⟩, q_9, by decide +kernel⟩
theorem eX5_readRow : XE yX5_readRow cX5_readRow 4 (some .boolean) 0 := ⟨q_529, q_528, List.mem_filter.mpr ⟨List.mem_append_left _ (List.mem_of_getElem? (i := 21) (by decide +kernel)), rfl⟩, q_9, by decide +kernel⟩
theorem eX5_read : XE yX5_read cX5_read 3 none 1 := ⟨q_523, q_521, q_522, q_9, by decide +kernel⟩
theorem eX6_beginChange : XE yX6_beginChange cX6_beginChange 1 none 0 := ⟨q_222, q_221, List.mem_filter.mpr ⟨List.mem_append_left _ (List.mem_of_getElem? (i := 0) (by decide +kernel)), rfl⟩, q_1, by decide +kernel⟩
theorem eX6_row : XE yX6_row cX6_row 3 (some .int) 2 := ⟨q_209, q_207, q_208, q_1, by decide +kernel⟩
theorem eX6_drop : XE yX6_drop cX6_drop 2 (some .int) 1 := ⟨q_253, q_251, q_252, q_1, by decide +kernel⟩
theorem eX6_clear : XE yX6_clear cX6_clear 2 (some .int) 0 := ⟨q_262, q_260, q_261, q_1, by decide +kernel⟩
theorem eX6_isSettingValue : XEs yX6_isSettingValue cX6_isSettingValue 2 (some .boolean) 2 := ⟨q_273, q_272, q_1, by decide +kernel⟩
theorem eX6_set : XE yX6_set cX6_set 4 (some .int) 2 := ⟨q_270, q_268, q_269, q_1, by decide +kernel⟩
theorem eX6_firstPart : XE yX6_firstPart cX6_firstPart 2 (some .int) 1 := ⟨q_307, q_306, List.mem_filter.mpr ⟨List.mem_append_left _ (List.mem_of_getElem? (i := 2) (by decide +kernel)), rfl⟩, q_1, by decide +kernel⟩
theorem eX6_rowOf : XE yX6_rowOf cX6_rowOf 3 (some .int) 2 := ⟨q_287, q_285, q_286, q_1, by decide +kernel⟩
theorem eX6_groupsNow : XE yX6_groupsNow cX6_groupsNow 1 (some (.object "SpilledGroups$Groups")) 0 := ⟨q_315, q_314, List.mem_filter.mpr ⟨List.mem_append_left _ (List.mem_of_getElem? (i := 3) (by decide +kernel)), rfl⟩, q_1, by decide +kernel⟩
theorem eX6_passesNow : XE yX6_passesNow cX6_passesNow 1 (some (.object "SpilledGroups$Passes")) 0 := ⟨q_356, q_355, List.mem_filter.mpr ⟨List.mem_append_left _ (List.mem_of_getElem? (i := 5) (by decide +kernel)), rfl⟩, q_1, by decide +kernel⟩
theorem eX6_groupOf : XE yX6_groupOf cX6_groupOf 4 (some .int) 2 := ⟨q_311, q_309, q_310, q_1, by decide +kernel⟩
theorem eX6_finished : XE yX6_finished cX6_finished 3 (some .int) 1 := ⟨q_427, q_425, q_426, q_1, by decide +kernel⟩
theorem eX6_passOf : XE yX6_passOf cX6_passOf 5 (some .int) 3 := ⟨q_431, q_429, q_430, q_1, by decide +kernel⟩
theorem eX6_spillOf : XE yX6_spillOf cX6_spillOf 4 (some .int) 2 := ⟨q_439, q_437, q_438, q_1, by decide +kernel⟩
theorem eX6_total : XE yX6_total cX6_total 3 (some .int) 1 := ⟨q_443, q_441, q_442, q_1, by decide +kernel⟩
theorem eX6_passesBy : XE yX6_passesBy cX6_passesBy 3 (some (.object "SpilledGroups$Passes")) 2 := ⟨q_468, q_467, List.mem_filter.mpr ⟨List.mem_append_left _ (List.mem_of_getElem? (i := 18) (by decide +kernel)), rfl⟩, q_1, by decide +kernel⟩
theorem eX6_written : XE yX6_written cX6_written 3 (some .int) 2 := ⟨q_464, q_462, q_463, q_1, by decide +kernel⟩
theorem eX6_bestBits : XE yX6_bestBits cX6_bestBits 7 (some .int) 2 := ⟨q_472, q_470, q_471, q_1, by decide +kernel⟩
theorem eX6_enough : XE yX6_enough cX6_enough 2 (some .int) 0 := ⟨q_476, q_474, q_475, q_1, by decide +kernel⟩
theorem eX6_rowsInPart : XE yX6_rowsInPart cX6_rowsInPart 4 (some .int) 1 := ⟨q_485, q_484, List.mem_filter.mpr ⟨List.mem_append_left _ (List.mem_of_getElem? (i := 19) (by decide +kernel)), rfl⟩, q_1, by decide +kernel⟩
theorem eX6_groupsInPart : XE yX6_groupsInPart cX6_groupsInPart 5 (some .int) 1 := ⟨q_489, q_488, List.mem_filter.mpr ⟨List.mem_append_left _ (List.mem_of_getElem? (i := 20) (by decide +kernel)), rfl⟩, q_1, by decide +kernel⟩
theorem eX6_skewed : XE yX6_skewed cX6_skewed 6 (some .int) 1 := ⟨q_481, q_479, q_480, q_1, by decide +kernel⟩
theorem eX6_count : XE yX6_count cX6_count 2 (some .int) 1 := ⟨q_493, q_491, q_492, q_1, by decide +kernel⟩
theorem eX6_undo : XE yX6_undo cX6_undo 1 (some .int) 0 := ⟨q_502, q_500, q_501, q_1, by decide +kernel⟩
theorem eX6_type : XE yX6_type cX6_type 2 (some .int) 1 := ⟨q_510, q_508, q_509, q_1, by decide +kernel⟩
theorem eX6_clearText : XE yX6_clearText cX6_clearText 2 (some .int) 0 := ⟨q_515, q_513, q_514, q_1, by decide +kernel⟩
theorem eX6_fault : XE yX6_fault cX6_fault 2 (some .int) 1 := ⟨q_519, q_517, q_518, q_1, by decide +kernel⟩
theorem eX6_play : XE yX6_play cX6_play 2 (some .int) 0 := ⟨q_546, q_544, q_545, q_1, by decide +kernel⟩
theorem eX7_in : XEs yX7_in cX7_in 6 (some .boolean) 3 := ⟨q_655, q_654, q_10, by decide +kernel⟩
theorem eX7_record : XE yX7_record cX7_record 2 none 0 := ⟨q_663, q_662, List.mem_filter.mpr ⟨List.mem_append_left _ (List.mem_of_getElem? (i := 24) (by decide +kernel)), rfl⟩, q_10, by decide +kernel⟩
theorem eX7_isRow : XEs yX7_isRow cX7_isRow 2 (some .boolean) 2 := ⟨q_651, q_650, q_10, by decide +kernel⟩
theorem eX7_adds : XE yX7_adds cX7_adds 3 none 2 := ⟨q_667, q_666, List.mem_filter.mpr ⟨List.mem_append_left _ (List.mem_of_getElem? (i := 25) (by decide +kernel)), rfl⟩, q_10, by decide +kernel⟩
theorem eX7_row : XE yX7_row cX7_row 3 (some .int) 2 := ⟨q_648, q_646, q_647, q_10, by decide +kernel⟩
theorem eX7_drop : XE yX7_drop cX7_drop 3 (some .int) 1 := ⟨q_671, q_669, q_670, q_10, by decide +kernel⟩
theorem eX7_clear : XE yX7_clear cX7_clear 2 (some .int) 0 := ⟨q_676, q_674, q_675, q_10, by decide +kernel⟩
theorem eX7_set : XE yX7_set cX7_set 5 (some .int) 2 := ⟨q_680, q_678, q_679, q_10, by decide +kernel⟩
theorem eX7_hashOf : XE yX7_hashOf cX7_hashOf 2 (some .int) 1 := ⟨q_693, q_692, List.mem_filter.mpr ⟨List.mem_append_left _ (List.mem_of_getElem? (i := 26) (by decide +kernel)), rfl⟩, q_10, by decide +kernel⟩
theorem eX7_partOf : XE yX7_partOf cX7_partOf 4 (some .int) 3 := ⟨q_698, q_697, List.mem_filter.mpr ⟨List.mem_append_left _ (List.mem_of_getElem? (i := 27) (by decide +kernel)), rfl⟩, q_10, by decide +kernel⟩
theorem eX7_rowOf : XE yX7_rowOf cX7_rowOf 4 (some .int) 2 := ⟨q_687, q_685, q_686, q_10, by decide +kernel⟩
theorem eX7_makes : XE yX7_makes cX7_makes 7 (some .int) 5 := ⟨q_715, q_714, List.mem_filter.mpr ⟨List.mem_append_left _ (List.mem_of_getElem? (i := 30) (by decide +kernel)), rfl⟩, q_10, by decide +kernel⟩
theorem eX7_of : XE yX7_of cX7_of 3 (some .int) 2 := ⟨q_723, q_722, List.mem_filter.mpr ⟨List.mem_append_left _ (List.mem_of_getElem? (i := 32) (by decide +kernel)), rfl⟩, q_10, by decide +kernel⟩
theorem eX7_inMemory : XE yX7_inMemory cX7_inMemory 3 (some .int) 1 := ⟨q_743, q_742, List.mem_filter.mpr ⟨List.mem_append_left _ (List.mem_of_getElem? (i := 37) (by decide +kernel)), rfl⟩, q_10, by decide +kernel⟩
theorem eX7_addsTo : XE yX7_addsTo cX7_addsTo 3 none 2 := ⟨q_747, q_746, List.mem_filter.mpr ⟨List.mem_append_left _ (List.mem_of_getElem? (i := 38) (by decide +kernel)), rfl⟩, q_10, by decide +kernel⟩
theorem eX7_laysGroup : XE yX7_laysGroup cX7_laysGroup 4 none 1 := ⟨q_763, q_762, List.mem_filter.mpr ⟨List.mem_append_left _ (List.mem_of_getElem? (i := 42) (by decide +kernel)), rfl⟩, q_10, by decide +kernel⟩
theorem eX7_takesOut : XE yX7_takesOut cX7_takesOut 3 none 1 := ⟨q_759, q_758, List.mem_filter.mpr ⟨List.mem_append_left _ (List.mem_of_getElem? (i := 41) (by decide +kernel)), rfl⟩, q_10, by decide +kernel⟩
theorem eX7_last : XE yX7_last cX7_last 2 (some .int) 1 := ⟨q_735, q_734, List.mem_filter.mpr ⟨List.mem_append_left _ (List.mem_of_getElem? (i := 35) (by decide +kernel)), rfl⟩, q_10, by decide +kernel⟩
theorem eX7_counts : XE yX7_counts cX7_counts 2 none 1 := ⟨q_727, q_726, List.mem_filter.mpr ⟨List.mem_append_left _ (List.mem_of_getElem? (i := 33) (by decide +kernel)), rfl⟩, q_10, by decide +kernel⟩
theorem eX7_writes : XE yX7_writes cX7_writes 3 none 2 := ⟨q_739, q_738, List.mem_filter.mpr ⟨List.mem_append_left _ (List.mem_of_getElem? (i := 36) (by decide +kernel)), rfl⟩, q_10, by decide +kernel⟩
theorem eX7_manyOf : XE yX7_manyOf cX7_manyOf 4 (some .int) 1 := ⟨q_755, q_754, List.mem_filter.mpr ⟨List.mem_append_left _ (List.mem_of_getElem? (i := 40) (by decide +kernel)), rfl⟩, q_10, by decide +kernel⟩
theorem eX7_spillsOne : XE yX7_spillsOne cX7_spillsOne 4 none 0 := ⟨q_751, q_750, List.mem_filter.mpr ⟨List.mem_append_left _ (List.mem_of_getElem? (i := 39) (by decide +kernel)), rfl⟩, q_10, by decide +kernel⟩
theorem eX7_takes : XE yX7_takes cX7_takes 6 (some .boolean) 1 := ⟨q_731, q_730, List.mem_filter.mpr ⟨List.mem_append_left _ (List.mem_of_getElem? (i := 34) (by decide +kernel)), rfl⟩, q_10, by decide +kernel⟩
theorem eX7_finishes : XE yX7_finishes cX7_finishes 3 none 0 := ⟨q_767, q_766, List.mem_filter.mpr ⟨List.mem_append_left _ (List.mem_of_getElem? (i := 43) (by decide +kernel)), rfl⟩, q_10, by decide +kernel⟩
theorem eX7_leavesFiles : XE yX7_leavesFiles cX7_leavesFiles 3 none 1 := ⟨q_771, q_770, List.mem_filter.mpr ⟨List.mem_append_left _ (List.mem_of_getElem? (i := 44) (by decide +kernel)), rfl⟩, q_10, by decide +kernel⟩
theorem eX7_doPass : XE yX7_doPass cX7_doPass 8 none 3 := ⟨q_719, q_718, List.mem_filter.mpr ⟨List.mem_append_left _ (List.mem_of_getElem? (i := 31) (by decide +kernel)), rfl⟩, q_10, by decide +kernel⟩
theorem eX7_run : XE yX7_run cX7_run 5 none 2 := ⟨q_711, q_710, List.mem_filter.mpr ⟨List.mem_append_left _ (List.mem_of_getElem? (i := 29) (by decide +kernel)), rfl⟩, q_10, by decide +kernel⟩
theorem eX7_runNow : XE yX7_runNow cX7_runNow 1 none 0 := ⟨q_707, q_706, List.mem_filter.mpr ⟨List.mem_append_left _ (List.mem_of_getElem? (i := 28) (by decide +kernel)), rfl⟩, q_10, by decide +kernel⟩
theorem eX7_groupOf : XE yX7_groupOf cX7_groupOf 6 (some .int) 2 := ⟨q_702, q_700, q_701, q_10, by decide +kernel⟩
theorem eX7_finished : XE yX7_finished cX7_finished 2 (some .int) 1 := ⟨q_775, q_773, q_774, q_10, by decide +kernel⟩
theorem eX7_passOf : XE yX7_passOf cX7_passOf 5 (some .int) 3 := ⟨q_779, q_777, q_778, q_10, by decide +kernel⟩
theorem eX7_spillOf : XE yX7_spillOf cX7_spillOf 3 (some .int) 2 := ⟨q_785, q_783, q_784, q_10, by decide +kernel⟩
theorem eX7_writtenInAll : XE yX7_writtenInAll cX7_writtenInAll 3 (some .int) 0 := ⟨q_793, q_792, List.mem_filter.mpr ⟨List.mem_append_left _ (List.mem_of_getElem? (i := 45) (by decide +kernel)), rfl⟩, q_10, by decide +kernel⟩
theorem eX7_readAgain : XE yX7_readAgain cX7_readAgain 3 (some .int) 0 := ⟨q_797, q_796, List.mem_filter.mpr ⟨List.mem_append_left _ (List.mem_of_getElem? (i := 46) (by decide +kernel)), rfl⟩, q_10, by decide +kernel⟩
theorem eX7_greatest : XE yX7_greatest cX7_greatest 4 (some .int) 1 := ⟨q_801, q_800, List.mem_filter.mpr ⟨List.mem_append_left _ (List.mem_of_getElem? (i := 47) (by decide +kernel)), rfl⟩, q_10, by decide +kernel⟩
theorem eX7_total : XE yX7_total cX7_total 2 (some .int) 1 := ⟨q_789, q_787, q_788, q_10, by decide +kernel⟩
theorem eX7_writtenBy : XE yX7_writtenBy cX7_writtenBy 3 (some .int) 2 := ⟨q_809, q_808, List.mem_filter.mpr ⟨List.mem_append_left _ (List.mem_of_getElem? (i := 48) (by decide +kernel)), rfl⟩, q_10, by decide +kernel⟩
theorem eX7_written : XE yX7_written cX7_written 3 (some .int) 2 := ⟨q_805, q_803, q_804, q_10, by decide +kernel⟩
theorem eX7_bestBits : XE yX7_bestBits cX7_bestBits 7 (some .int) 2 := ⟨q_813, q_811, q_812, q_10, by decide +kernel⟩
theorem eX7_enough : XE yX7_enough cX7_enough 2 (some .int) 0 := ⟨q_817, q_815, q_816, q_10, by decide +kernel⟩
theorem eX7_rowsIn : XE yX7_rowsIn cX7_rowsIn 4 (some .int) 1 := ⟨q_826, q_825, List.mem_filter.mpr ⟨List.mem_append_left _ (List.mem_of_getElem? (i := 49) (by decide +kernel)), rfl⟩, q_10, by decide +kernel⟩
theorem eX7_isFirst : XE yX7_isFirst cX7_isFirst 4 (some .boolean) 1 := ⟨q_834, q_833, List.mem_filter.mpr ⟨List.mem_append_left _ (List.mem_of_getElem? (i := 51) (by decide +kernel)), rfl⟩, q_10, by decide +kernel⟩
theorem eX7_groupsIn : XE yX7_groupsIn cX7_groupsIn 4 (some .int) 1 := ⟨q_830, q_829, List.mem_filter.mpr ⟨List.mem_append_left _ (List.mem_of_getElem? (i := 50) (by decide +kernel)), rfl⟩, q_10, by decide +kernel⟩
theorem eX7_skewed : XE yX7_skewed cX7_skewed 4 (some .int) 1 := ⟨q_821, q_819, q_820, q_10, by decide +kernel⟩
theorem eX7_count : XE yX7_count cX7_count 5 (some .int) 1 := ⟨q_838, q_836, q_837, q_10, by decide +kernel⟩
theorem eX7_undo : XE yX7_undo cX7_undo 2 (some .int) 0 := ⟨q_844, q_842, q_843, q_10, by decide +kernel⟩
theorem eX7_type : XE yX7_type cX7_type 2 (some .int) 1 := ⟨q_848, q_846, q_847, q_10, by decide +kernel⟩
theorem eX7_clearText : XE yX7_clearText cX7_clearText 2 (some .int) 0 := ⟨q_854, q_852, q_853, q_10, by decide +kernel⟩
theorem eX7_takesOne : XE yX7_takesOne cX7_takesOne 3 (some .boolean) 1 := ⟨q_876, q_875, List.mem_filter.mpr ⟨List.mem_append_left _ (List.mem_of_getElem? (i := 55) (by decide +kernel)), rfl⟩, q_10, by decide +kernel⟩
theorem eX7_takesNumber : XE yX7_takesNumber cX7_takesNumber 3 (some .boolean) 1 := ⟨q_870, q_869, List.mem_filter.mpr ⟨List.mem_append_left _ (List.mem_of_getElem? (i := 54) (by decide +kernel)), rfl⟩, q_10, by decide +kernel⟩
theorem eX7_readsRow : XE yX7_readsRow cX7_readsRow 2 (some .boolean) 0 := ⟨q_866, q_865, List.mem_filter.mpr ⟨List.mem_append_left _ (List.mem_of_getElem? (i := 53) (by decide +kernel)), rfl⟩, q_10, by decide +kernel⟩
theorem eX7_hasFault : XE yX7_hasFault cX7_hasFault 2 (some .boolean) 0 := ⟨q_862, q_861, List.mem_filter.mpr ⟨List.mem_append_left _ (List.mem_of_getElem? (i := 52) (by decide +kernel)), rfl⟩, q_10, by decide +kernel⟩
theorem eX7_fault : XE yX7_fault cX7_fault 2 (some .int) 1 := ⟨q_858, q_856, q_857, q_10, by decide +kernel⟩
theorem eX7_play : XE yX7_play cX7_play 1 (some .int) 0 := ⟨q_880, q_878, q_879, q_10, by decide +kernel⟩
theorem X_some {κ : Kx} {S : Mem} {pc : Nat} {lv : List (Nat × Value)} {st : List Value} {o : Nat} (kk : XW κ S pc lv (.ref (xad (kG κ) o) :: st)) : XW κ S pc lv (va_re (xad (kG κ)) (some o) :: st) := kk
section XMore
variable {κ : Kx} {own : String} {cc : ByteArray} {nl F N : Nat} {S : Mem} {pc : Nat} {lv lv' : List (Nat × Value)} {st : List Value}
theorem X_null (C : XC κ own cc nl F N) (hdg : decode cc pc = .ok (.aconst_null, 1)) (kk : XW κ S (pc + 1) lv (.null :: st)) : XW κ S pc lv st := fun H locs ls hP hS h => lv_null C.1 C.2.1 hdg (kk H locs ls hP hS h)
theorem X_storenull (C : XC κ own cc nl F N) {k : Fin 4} (i : Nat) (lv' : List (Nat × Value)) (hdg : decode cc pc = .ok (.astore_n k, 1)) (hi : (k : Nat) = i) (hn : i < nl) (hl : (i, Value.null) :: lv.filter (fun q => !(q.1 == i) && !(q.1 + 1 == i && q.2.category == 2)) = lv') (kk : XW κ S (pc + 1) lv' st) : XW κ S pc lv (va_re (xad (kG κ)) none :: st) := fun H locs ls hP hS h => lv_astore_nN C.1 C.2.1 hdg hi h (by rw [C.g_nl]; exact hn) hl (fun ls' h' => kk H locs ls' hP hS h')
theorem X_loadnull (C : XC κ own cc nl F N) {k : Fin 4} (i : Nat) (q : Nat) (hdg : decode cc pc = .ok (.aload_n k, 1)) (hi : (k : Nat) = i) (hl : lv[q]? = some (i, .null)) (kk : XW κ S (pc + 1) lv (.null :: st)) : XW κ S pc lv st := fun H locs ls hP hS h => lv_aload_nN C.1 C.2.1 hdg hi (lv_at h q hl) (kk H locs ls hP hS h)
theorem X_ifnull0 (C : XC κ own cc nl F N) {off : Int} (tgt : Nat) (hdg : decode cc pc = .ok (.ifnull off, 3)) (ht : (pc : Int) + off = (tgt : Int)) (kk : XW κ S tgt lv st) : XW κ S pc lv (.null :: st) := fun H locs ls hP hS h => lv_ifnullN C.1 C.2.1 hdg ht (kk H locs ls hP hS h)
theorem X_alenO (C : XC κ own cc nl F N) (hF : XF (kG κ)) (hdg : decode cc pc = .ok (.arraylength, 1)) (kk : XW κ S (pc + 1) lv (.int 4 :: st)) : XW κ S pc lv (.ref (xad (kG κ) 7) :: st) := by
  intro H locs ls hP hS h
  obtain ⟨q0, -, hq0⟩ := wW_get (kG κ) S (hF 7 (by decide))
  exact va_alen (x := (4, .inr (.inr (.inr (.inr (fun j => some (xad (kG κ) (8 + 5 * j)))))))) (v := 4) C.1 C.2.1 C.g_K hP q0 1 (hq0.trans (by rw [wc_7])) rfl rfl hdg (kk H locs ls hP hS h)
theorem X_aald (C : XC κ own cc nl F N) (hF : XF (kG κ)) {x : Int32} (hin : vp_in x 4) (hdg : decode cc pc = .ok (.aaload, 1)) (kk : XW κ S (pc + 1) lv (.ref (xad (kG κ) (8 + 5 * Int32.toNatClampNeg x)) :: st)) : XW κ S pc lv (.int x :: .ref (xad (kG κ) 7) :: st) := by
  intro H locs ls hP hS h
  obtain ⟨q0, -, hq0⟩ := wW_get (kG κ) S (hF 7 (by decide))
  exact va_aldq (f := fun j => some (xad (kG κ) (8 + 5 * j))) C.1 C.2.1 C.g_K hP q0 1 (hq0.trans (by rw [wc_7])) rfl hin hdg (kk H locs ls hP hS h)
end XMore
theorem vp_bool_nar {v : Int32} (h : vp_bool v) : narrow .boolean (.int v) = .int v := by rcases h with rfl | rfl <;> rfl
