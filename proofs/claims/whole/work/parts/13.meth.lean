/-! METHODS: what a call needs of each; links of the fields; cells -/
def P_X0_init : PM := (RX0, yX0_init, cX0_init, 1, none)
theorem cf_X0_init : CF P_X0_init 0 := ⟨by decide +kernel, rfl, rfl, mw_381, mw_116, ⟨by decide +kernel, by decide +kernel, by decide +kernel⟩, by decide⟩
def P_X0_goes : PM := (RX0, yX0_goes, cX0_goes, 6, (some FieldType.int))
theorem cf_X0_goes : CF P_X0_goes 5 := ⟨by decide +kernel, rfl, rfl, mw_817, mw_116, ⟨by decide +kernel, by decide +kernel, by decide +kernel⟩, by decide⟩
def P_X0_urge : PM := (RX0, yX0_urge, cX0_urge, 4, (some FieldType.int))
theorem cf_X0_urge : CF P_X0_urge 3 := ⟨by decide +kernel, rfl, rfl, mw_848, mw_116, ⟨by decide +kernel, by decide +kernel, by decide +kernel⟩, by decide⟩
def P_X0_guess : PM := (RX0, yX0_guess, cX0_guess, 7, (some FieldType.int))
theorem cf_X0_guess : CF P_X0_guess 3 := ⟨by decide +kernel, rfl, rfl, mw_843, mw_116, ⟨by decide +kernel, by decide +kernel, by decide +kernel⟩, by decide⟩
def P_X0_name : PM := (RX0, yX0_name, cX0_name, 6, none)
theorem cf_X0_name : CF P_X0_name 4 := ⟨by decide +kernel, rfl, rfl, mw_821, mw_116, ⟨by decide +kernel, by decide +kernel, by decide +kernel⟩, by decide⟩
def P_X0_firstOf : PM := (RX0, yX0_firstOf, cX0_firstOf, 5, (some FieldType.int))
theorem cf_X0_firstOf : CF P_X0_firstOf 1 := ⟨by decide +kernel, rfl, rfl, mw_829, mw_116, ⟨by decide +kernel, by decide +kernel, by decide +kernel⟩, by decide⟩
def P_X0_valueOf : PM := (RX0, yX0_valueOf, cX0_valueOf, 10, (some FieldType.int))
theorem cf_X0_valueOf : CF P_X0_valueOf 3 := ⟨by decide +kernel, rfl, rfl, mw_833, mw_116, ⟨by decide +kernel, by decide +kernel, by decide +kernel⟩, by decide⟩
def P_X1_init : PM := (RX1, yX1_init, cX1_init, 1, none)
theorem cf_X1_init : CF P_X1_init 0 := ⟨by decide +kernel, rfl, rfl, mw_204, mw_112, ⟨by decide +kernel, by decide +kernel, by decide +kernel⟩, by decide⟩
def P_X1_clear : PM := (RX1, yX1_clear, cX1_clear, 1, none)
theorem cf_X1_clear : CF P_X1_clear 0 := ⟨by decide +kernel, rfl, rfl, mw_209, mw_112, ⟨by decide +kernel, by decide +kernel, by decide +kernel⟩, by decide⟩
def P_X1_addAny : PM := (RX1, yX1_addAny, cX1_addAny, 5, none)
theorem cf_X1_addAny : CF P_X1_addAny 2 := ⟨by decide +kernel, rfl, rfl, mw_712, mw_112, ⟨by decide +kernel, by decide +kernel, by decide +kernel⟩, by decide⟩
def P_X1_addShape : PM := (RX1, yX1_addShape, cX1_addShape, 5, none)
theorem cf_X1_addShape : CF P_X1_addShape 3 := ⟨by decide +kernel, rfl, rfl, mw_692, mw_112, ⟨by decide +kernel, by decide +kernel, by decide +kernel⟩, by decide⟩
def P_X1_isMet : PM := (RX1, yX1_isMet, cX1_isMet, 3, (some FieldType.boolean))
theorem cf_X1_isMet : CF P_X1_isMet 2 := ⟨by decide +kernel, rfl, rfl, mw_872, mw_112, ⟨by decide +kernel, by decide +kernel, by decide +kernel⟩, by decide⟩
def P_X1_breaksRow : PM := (RX1, yX1_breaksRow, cX1_breaksRow, 6, (some FieldType.boolean))
theorem cf_X1_breaksRow : CF P_X1_breaksRow 2 := ⟨by decide +kernel, rfl, rfl, mw_866, mw_112, ⟨by decide +kernel, by decide +kernel, by decide +kernel⟩, by decide⟩
def P_X1_copy : PM := (RX1, yX1_copy, cX1_copy, 2, none)
theorem cf_X1_copy : CF P_X1_copy 1 := ⟨by decide +kernel, rfl, rfl, mw_786, mw_112, ⟨by decide +kernel, by decide +kernel, by decide +kernel⟩, by decide⟩
def P_X2_init : PM := (RX2, yX2_init, cX2_init, 2, none)
theorem cf_X2_init : CF P_X2_init 1 := ⟨by decide +kernel, rfl, rfl, mw_455, mw_119, ⟨by decide +kernel, by decide +kernel, by decide +kernel⟩, by decide⟩
def P_X2_passDay : PM := (RX2, yX2_passDay, cX2_passDay, 5, none)
theorem cf_X2_passDay : CF P_X2_passDay 3 := ⟨by decide +kernel, rfl, rfl, mw_880, mw_119, ⟨by decide +kernel, by decide +kernel, by decide +kernel⟩, by decide⟩
def P_X2_wear : PM := (RX2, yX2_wear, cX2_wear, 3, none)
theorem cf_X2_wear : CF P_X2_wear 2 := ⟨by decide +kernel, rfl, rfl, mw_887, mw_119, ⟨by decide +kernel, by decide +kernel, by decide +kernel⟩, by decide⟩
def P_X2_come : PM := (RX2, yX2_come, cX2_come, 5, none)
theorem cf_X2_come : CF P_X2_come 2 := ⟨by decide +kernel, rfl, rfl, mw_898, mw_119, ⟨by decide +kernel, by decide +kernel, by decide +kernel⟩, by decide⟩
def P_X2_mostUrgent : PM := (RX2, yX2_mostUrgent, cX2_mostUrgent, 5, (some FieldType.int))
theorem cf_X2_mostUrgent : CF P_X2_mostUrgent 1 := ⟨by decide +kernel, rfl, rfl, mw_904, mw_119, ⟨by decide +kernel, by decide +kernel, by decide +kernel⟩, by decide⟩
def P_X2_change : PM := (RX2, yX2_change, cX2_change, 5, none)
theorem cf_X2_change : CF P_X2_change 2 := ⟨by decide +kernel, rfl, rfl, mw_907, mw_119, ⟨by decide +kernel, by decide +kernel, by decide +kernel⟩, by decide⟩
def P_X3_init : PM := (RX3, yX3_init, cX3_init, 2, none)
theorem cf_X3_init : CF P_X3_init 1 := ⟨by decide +kernel, rfl, rfl, mw_420, mw_118, ⟨by decide +kernel, by decide +kernel, by decide +kernel⟩, by decide⟩
def P_X3_begin : PM := (RX3, yX3_begin, cX3_begin, 4, none)
theorem cf_X3_begin : CF P_X3_begin 2 := ⟨by decide +kernel, rfl, rfl, mw_954, mw_118, ⟨by decide +kernel, by decide +kernel, by decide +kernel⟩, by decide⟩
def P_X3_passDay : PM := (RX3, yX3_passDay, cX3_passDay, 6, none)
theorem cf_X3_passDay : CF P_X3_passDay 3 := ⟨by decide +kernel, rfl, rfl, mw_962, mw_118, ⟨by decide +kernel, by decide +kernel, by decide +kernel⟩, by decide⟩
def P_X3_split : PM := (RX3, yX3_split, cX3_split, 5, none)
theorem cf_X3_split : CF P_X3_split 1 := ⟨by decide +kernel, rfl, rfl, mw_967, mw_118, ⟨by decide +kernel, by decide +kernel, by decide +kernel⟩, by decide⟩
def P_X3_splitBy : PM := (RX3, yX3_splitBy, cX3_splitBy, 8, (some FieldType.int))
theorem cf_X3_splitBy : CF P_X3_splitBy 3 := ⟨by decide +kernel, rfl, rfl, mw_973, mw_118, ⟨by decide +kernel, by decide +kernel, by decide +kernel⟩, by decide⟩
def P_X3_remaining : PM := (RX3, yX3_remaining, cX3_remaining, 4, (some FieldType.long))
theorem cf_X3_remaining : CF P_X3_remaining 0 := ⟨by decide +kernel, rfl, rfl, mw_978, mw_118, ⟨by decide +kernel, by decide +kernel, by decide +kernel⟩, by decide⟩
def P_X3_mostLikely : PM := (RX3, yX3_mostLikely, cX3_mostLikely, 5, (some FieldType.int))
theorem cf_X3_mostLikely : CF P_X3_mostLikely 0 := ⟨by decide +kernel, rfl, rfl, mw_992, mw_118, ⟨by decide +kernel, by decide +kernel, by decide +kernel⟩, by decide⟩
def P_X4_init : PM := (RX4, yX4_init, cX4_init, 1, none)
theorem cf_X4_init : CF P_X4_init 0 := ⟨by decide +kernel, rfl, rfl, mw_178, mw_111, ⟨by decide +kernel, by decide +kernel, by decide +kernel⟩, by decide⟩
def P_X4_clear : PM := (RX4, yX4_clear, cX4_clear, 1, none)
theorem cf_X4_clear : CF P_X4_clear 0 := ⟨by decide +kernel, rfl, rfl, mw_730, mw_111, ⟨by decide +kernel, by decide +kernel, by decide +kernel⟩, by decide⟩
def P_X4_put : PM := (RX4, yX4_put, cX4_put, 2, (some FieldType.boolean))
theorem cf_X4_put : CF P_X4_put 1 := ⟨by decide +kernel, rfl, rfl, mw_750, mw_111, ⟨by decide +kernel, by decide +kernel, by decide +kernel⟩, by decide⟩
def P_X4_beginWhen : PM := (RX4, yX4_beginWhen, cX4_beginWhen, 2, none)
theorem cf_X4_beginWhen : CF P_X4_beginWhen 1 := ⟨by decide +kernel, rfl, rfl, mw_762, mw_111, ⟨by decide +kernel, by decide +kernel, by decide +kernel⟩, by decide⟩
def P_X4_endLine : PM := (RX4, yX4_endLine, cX4_endLine, 2, none)
theorem cf_X4_endLine : CF P_X4_endLine 1 := ⟨by decide +kernel, rfl, rfl, mw_778, mw_111, ⟨by decide +kernel, by decide +kernel, by decide +kernel⟩, by decide⟩
def P_X4_copy : PM := (RX4, yX4_copy, cX4_copy, 2, none)
theorem cf_X4_copy : CF P_X4_copy 1 := ⟨by decide +kernel, rfl, rfl, mw_797, mw_111, ⟨by decide +kernel, by decide +kernel, by decide +kernel⟩, by decide⟩
def P_X5_init : PM := (RX5, yX5_init, cX5_init, 2, none)
theorem cf_X5_init : CF P_X5_init 1 := ⟨by decide +kernel, rfl, rfl, mw_394, mw_117, ⟨by decide +kernel, by decide +kernel, by decide +kernel⟩, by decide⟩
def P_X5_ofNow : PM := (RX5, yX5_ofNow, cX5_ofNow, 4, (some FieldType.long))
theorem cf_X5_ofNow : CF P_X5_ofNow 2 := ⟨by decide +kernel, rfl, rfl, mw_916, mw_117, ⟨by decide +kernel, by decide +kernel, by decide +kernel⟩, by decide⟩
def P_X5_ofThought : PM := (RX5, yX5_ofThought, cX5_ofThought, 4, (some FieldType.long))
theorem cf_X5_ofThought : CF P_X5_ofThought 2 := ⟨by decide +kernel, rfl, rfl, mw_941, mw_117, ⟨by decide +kernel, by decide +kernel, by decide +kernel⟩, by decide⟩
def P_X5_out : PM := (RX5, yX5_out, cX5_out, 7, (some FieldType.long))
theorem cf_X5_out : CF P_X5_out 2 := ⟨by decide +kernel, rfl, rfl, mw_923, mw_117, ⟨by decide +kernel, by decide +kernel, by decide +kernel⟩, by decide⟩
def P_X5_setsAhead : PM := (RX5, yX5_setsAhead, cX5_setsAhead, 1, (some FieldType.int))
theorem cf_X5_setsAhead : CF P_X5_setsAhead 1 := ⟨by decide +kernel, rfl, rfl, mw_932, mw_117, ⟨by decide +kernel, by decide +kernel, by decide +kernel⟩, by decide⟩
def P_X5_pass : PM := (RX5, yX5_pass, cX5_pass, 13, (some FieldType.long))
theorem cf_X5_pass : CF P_X5_pass 2 := ⟨by decide +kernel, rfl, rfl, mw_928, mw_117, ⟨by decide +kernel, by decide +kernel, by decide +kernel⟩, by decide⟩
def P_X5_holding : PM := (RX5, yX5_holding, cX5_holding, 7, (some FieldType.long))
theorem cf_X5_holding : CF P_X5_holding 3 := ⟨by decide +kernel, rfl, rfl, mw_1000, mw_117, ⟨by decide +kernel, by decide +kernel, by decide +kernel⟩, by decide⟩
def P_X5_clearRows : PM := (RX5, yX5_clearRows, cX5_clearRows, 3, none)
theorem cf_X5_clearRows : CF P_X5_clearRows 1 := ⟨by decide +kernel, rfl, rfl, mw_1004, mw_117, ⟨by decide +kernel, by decide +kernel, by decide +kernel⟩, by decide⟩
def P_X5_addRows : PM := (RX5, yX5_addRows, cX5_addRows, 10, none)
theorem cf_X5_addRows : CF P_X5_addRows 3 := ⟨by decide +kernel, rfl, rfl, mw_1008, mw_117, ⟨by decide +kernel, by decide +kernel, by decide +kernel⟩, by decide⟩
def P_X6_init : PM := (RX6, yX6_init, cX6_init, 2, none)
theorem cf_X6_init : CF P_X6_init 1 := ⟨by decide +kernel, rfl, rfl, mw_172, mw_110, ⟨by decide +kernel, by decide +kernel, by decide +kernel⟩, by decide⟩
def P_X6_readLines : PM := (RX6, yX6_readLines, cX6_readLines, 3, (some FieldType.int))
theorem cf_X6_readLines : CF P_X6_readLines 1 := ⟨by decide +kernel, rfl, rfl, mw_726, mw_110, ⟨by decide +kernel, by decide +kernel, by decide +kernel⟩, by decide⟩
def P_X6_readBreaks : PM := (RX6, yX6_readBreaks, cX6_readBreaks, 2, (some FieldType.int))
theorem cf_X6_readBreaks : CF P_X6_readBreaks 0 := ⟨by decide +kernel, rfl, rfl, mw_579, mw_110, ⟨by decide +kernel, by decide +kernel, by decide +kernel⟩, by decide⟩
def P_X6_begin : PM := (RX6, yX6_begin, cX6_begin, 1, none)
theorem cf_X6_begin : CF P_X6_begin 0 := ⟨by decide +kernel, rfl, rfl, mw_583, mw_110, ⟨by decide +kernel, by decide +kernel, by decide +kernel⟩, by decide⟩
def P_X6_stop : PM := (RX6, yX6_stop, cX6_stop, 2, (some FieldType.boolean))
theorem cf_X6_stop : CF P_X6_stop 1 := ⟨by decide +kernel, rfl, rfl, mw_677, mw_110, ⟨by decide +kernel, by decide +kernel, by decide +kernel⟩, by decide⟩
def P_X6_pass : PM := (RX6, yX6_pass, cX6_pass, 2, (some FieldType.boolean))
theorem cf_X6_pass : CF P_X6_pass 1 := ⟨by decide +kernel, rfl, rfl, mw_696, mw_110, ⟨by decide +kernel, by decide +kernel, by decide +kernel⟩, by decide⟩
def P_X6_readLine : PM := (RX6, yX6_readLine, cX6_readLine, 2, (some FieldType.boolean))
theorem cf_X6_readLine : CF P_X6_readLine 1 := ⟨by decide +kernel, rfl, rfl, mw_734, mw_110, ⟨by decide +kernel, by decide +kernel, by decide +kernel⟩, by decide⟩
def P_X6_readSum : PM := (RX6, yX6_readSum, cX6_readSum, 4, (some FieldType.boolean))
theorem cf_X6_readSum : CF P_X6_readSum 0 := ⟨by decide +kernel, rfl, rfl, mw_738, mw_110, ⟨by decide +kernel, by decide +kernel, by decide +kernel⟩, by decide⟩
def P_X6_readProduct : PM := (RX6, yX6_readProduct, cX6_readProduct, 4, (some FieldType.boolean))
theorem cf_X6_readProduct : CF P_X6_readProduct 0 := ⟨by decide +kernel, rfl, rfl, mw_742, mw_110, ⟨by decide +kernel, by decide +kernel, by decide +kernel⟩, by decide⟩
def P_X6_isDivisor : PM := (RX6, yX6_isDivisor, cX6_isDivisor, 1, (some FieldType.boolean))
theorem cf_X6_isDivisor : CF P_X6_isDivisor 0 := ⟨by decide +kernel, rfl, rfl, mw_758, mw_110, ⟨by decide +kernel, by decide +kernel, by decide +kernel⟩, by decide⟩
def P_X6_readUnit : PM := (RX6, yX6_readUnit, cX6_readUnit, 1, (some FieldType.boolean))
theorem cf_X6_readUnit : CF P_X6_readUnit 0 := ⟨by decide +kernel, rfl, rfl, mw_746, mw_110, ⟨by decide +kernel, by decide +kernel, by decide +kernel⟩, by decide⟩
def P_X6_isName : PM := (RX6, yX6_isName, cX6_isName, 2, (some FieldType.boolean))
theorem cf_X6_isName : CF P_X6_isName 1 := ⟨by decide +kernel, rfl, rfl, mw_754, mw_110, ⟨by decide +kernel, by decide +kernel, by decide +kernel⟩, by decide⟩
def P_X6_readOr : PM := (RX6, yX6_readOr, cX6_readOr, 4, (some FieldType.boolean))
theorem cf_X6_readOr : CF P_X6_readOr 1 := ⟨by decide +kernel, rfl, rfl, mw_766, mw_110, ⟨by decide +kernel, by decide +kernel, by decide +kernel⟩, by decide⟩
def P_X6_readAnd : PM := (RX6, yX6_readAnd, cX6_readAnd, 4, (some FieldType.boolean))
theorem cf_X6_readAnd : CF P_X6_readAnd 1 := ⟨by decide +kernel, rfl, rfl, mw_770, mw_110, ⟨by decide +kernel, by decide +kernel, by decide +kernel⟩, by decide⟩
def P_X6_readClause : PM := (RX6, yX6_readClause, cX6_readClause, 5, (some FieldType.boolean))
theorem cf_X6_readClause : CF P_X6_readClause 1 := ⟨by decide +kernel, rfl, rfl, mw_774, mw_110, ⟨by decide +kernel, by decide +kernel, by decide +kernel⟩, by decide⟩
def P_X6_readBreak : PM := (RX6, yX6_readBreak, cX6_readBreak, 3, (some FieldType.boolean))
theorem cf_X6_readBreak : CF P_X6_readBreak 1 := ⟨by decide +kernel, rfl, rfl, mw_673, mw_110, ⟨by decide +kernel, by decide +kernel, by decide +kernel⟩, by decide⟩
def P_X6_readSide : PM := (RX6, yX6_readSide, cX6_readSide, 2, (some FieldType.boolean))
theorem cf_X6_readSide : CF P_X6_readSide 0 := ⟨by decide +kernel, rfl, rfl, mw_700, mw_110, ⟨by decide +kernel, by decide +kernel, by decide +kernel⟩, by decide⟩
def P_X6_readAny : PM := (RX6, yX6_readAny, cX6_readAny, 3, (some FieldType.boolean))
theorem cf_X6_readAny : CF P_X6_readAny 0 := ⟨by decide +kernel, rfl, rfl, mw_722, mw_110, ⟨by decide +kernel, by decide +kernel, by decide +kernel⟩, by decide⟩
def P_X6_passNumber : PM := (RX6, yX6_passNumber, cX6_passNumber, 2, (some FieldType.boolean))
theorem cf_X6_passNumber : CF P_X6_passNumber 1 := ⟨by decide +kernel, rfl, rfl, mw_708, mw_110, ⟨by decide +kernel, by decide +kernel, by decide +kernel⟩, by decide⟩
def P_X6_readShape : PM := (RX6, yX6_readShape, cX6_readShape, 4, (some FieldType.boolean))
theorem cf_X6_readShape : CF P_X6_readShape 0 := ⟨by decide +kernel, rfl, rfl, mw_685, mw_110, ⟨by decide +kernel, by decide +kernel, by decide +kernel⟩, by decide⟩
def P_X6_isShapePart : PM := (RX6, yX6_isShapePart, cX6_isShapePart, 1, (some FieldType.boolean))
theorem cf_X6_isShapePart : CF P_X6_isShapePart 1 := ⟨by decide +kernel, rfl, rfl, mw_688, mw_110, ⟨by decide +kernel, by decide +kernel, by decide +kernel⟩, by decide⟩
def P_X7_init : PM := (RX7, yX7_init, cX7_init, 1, none)
theorem cf_X7_init : CF P_X7_init 0 := ⟨by decide +kernel, rfl, rfl, mw_275, mw_115, ⟨by decide +kernel, by decide +kernel, by decide +kernel⟩, by decide⟩
def P_X7_begin : PM := (RX7, yX7_begin, cX7_begin, 2, none)
theorem cf_X7_begin : CF P_X7_begin 1 := ⟨by decide +kernel, rfl, rfl, mw_483, mw_115, ⟨by decide +kernel, by decide +kernel, by decide +kernel⟩, by decide⟩
def P_X7_has : PM := (RX7, yX7_has, cX7_has, 2, (some FieldType.boolean))
theorem cf_X7_has : CF P_X7_has 1 := ⟨by decide +kernel, rfl, rfl, mw_546, mw_115, ⟨by decide +kernel, by decide +kernel, by decide +kernel⟩, by decide⟩
def P_X7_lookAt : PM := (RX7, yX7_lookAt, cX7_lookAt, 2, none)
theorem cf_X7_lookAt : CF P_X7_lookAt 1 := ⟨by decide +kernel, rfl, rfl, mw_857, mw_115, ⟨by decide +kernel, by decide +kernel, by decide +kernel⟩, by decide⟩
def P_X7_draw : PM := (RX7, yX7_draw, cX7_draw, 2, (some FieldType.int))
theorem cf_X7_draw : CF P_X7_draw 1 := ⟨by decide +kernel, rfl, rfl, mw_891, mw_115, ⟨by decide +kernel, by decide +kernel, by decide +kernel⟩, by decide⟩
def P_X7_copy : PM := (RX7, yX7_copy, cX7_copy, 2, none)
theorem cf_X7_copy : CF P_X7_copy 1 := ⟨by decide +kernel, rfl, rfl, mw_1020, mw_115, ⟨by decide +kernel, by decide +kernel, by decide +kernel⟩, by decide⟩
def P_X8_init : PM := (RX8, yX8_init, cX8_init, 1, none)
theorem cf_X8_init : CF P_X8_init 0 := ⟨by decide +kernel, rfl, rfl, mw_142, mw_109, ⟨by decide +kernel, by decide +kernel, by decide +kernel⟩, by decide⟩
def P_X8_add : PM := (RX8, yX8_add, cX8_add, 3, none)
theorem cf_X8_add : CF P_X8_add 1 := ⟨by decide +kernel, rfl, rfl, mw_567, mw_109, ⟨by decide +kernel, by decide +kernel, by decide +kernel⟩, by decide⟩
def P_X8_kind : PM := (RX8, yX8_kind, cX8_kind, 1, (some FieldType.int))
theorem cf_X8_kind : CF P_X8_kind 0 := ⟨by decide +kernel, rfl, rfl, mw_669, mw_109, ⟨by decide +kernel, by decide +kernel, by decide +kernel⟩, by decide⟩
def P_X8_number : PM := (RX8, yX8_number, cX8_number, 1, (some FieldType.int))
theorem cf_X8_number : CF P_X8_number 0 := ⟨by decide +kernel, rfl, rfl, mw_704, mw_109, ⟨by decide +kernel, by decide +kernel, by decide +kernel⟩, by decide⟩
def P_X8_next : PM := (RX8, yX8_next, cX8_next, 1, none)
theorem cf_X8_next : CF P_X8_next 0 := ⟨by decide +kernel, rfl, rfl, mw_681, mw_109, ⟨by decide +kernel, by decide +kernel, by decide +kernel⟩, by decide⟩
def P_X8_cutTokens : PM := (RX8, yX8_cutTokens, cX8_cutTokens, 4, none)
theorem cf_X8_cutTokens : CF P_X8_cutTokens 0 := ⟨by decide +kernel, rfl, rfl, mw_587, mw_109, ⟨by decide +kernel, by decide +kernel, by decide +kernel⟩, by decide⟩
def P_X8_tokenEnd : PM := (RX8, yX8_tokenEnd, cX8_tokenEnd, 3, (some FieldType.int))
theorem cf_X8_tokenEnd : CF P_X8_tokenEnd 1 := ⟨by decide +kernel, rfl, rfl, mw_594, mw_109, ⟨by decide +kernel, by decide +kernel, by decide +kernel⟩, by decide⟩
def P_X8_kindOf : PM := (RX8, yX8_kindOf, cX8_kindOf, 4, (some FieldType.int))
theorem cf_X8_kindOf : CF P_X8_kindOf 2 := ⟨by decide +kernel, rfl, rfl, mw_604, mw_109, ⟨by decide +kernel, by decide +kernel, by decide +kernel⟩, by decide⟩
def P_X8_wordKind : PM := (RX8, yX8_wordKind, cX8_wordKind, 8, (some FieldType.int))
theorem cf_X8_wordKind : CF P_X8_wordKind 2 := ⟨by decide +kernel, rfl, rfl, mw_608, mw_109, ⟨by decide +kernel, by decide +kernel, by decide +kernel⟩, by decide⟩
def P_X8_valueOf : PM := (RX8, yX8_valueOf, cX8_valueOf, 5, (some FieldType.int))
theorem cf_X8_valueOf : CF P_X8_valueOf 2 := ⟨by decide +kernel, rfl, rfl, mw_664, mw_109, ⟨by decide +kernel, by decide +kernel, by decide +kernel⟩, by decide⟩
def P_X8_isBlank : PM := (RX8, yX8_isBlank, cX8_isBlank, 1, (some FieldType.boolean))
theorem cf_X8_isBlank : CF P_X8_isBlank 1 := ⟨by decide +kernel, rfl, rfl, mw_590, mw_109, ⟨by decide +kernel, by decide +kernel, by decide +kernel⟩, by decide⟩
def P_X8_isLetter : PM := (RX8, yX8_isLetter, cX8_isLetter, 1, (some FieldType.boolean))
theorem cf_X8_isLetter : CF P_X8_isLetter 1 := ⟨by decide +kernel, rfl, rfl, mw_597, mw_109, ⟨by decide +kernel, by decide +kernel, by decide +kernel⟩, by decide⟩
def P_X8_isDigit : PM := (RX8, yX8_isDigit, cX8_isDigit, 1, (some FieldType.boolean))
theorem cf_X8_isDigit : CF P_X8_isDigit 1 := ⟨by decide +kernel, rfl, rfl, mw_600, mw_109, ⟨by decide +kernel, by decide +kernel, by decide +kernel⟩, by decide⟩
def P_X8_isSymbol : PM := (RX8, yX8_isSymbol, cX8_isSymbol, 1, (some FieldType.boolean))
theorem cf_X8_isSymbol : CF P_X8_isSymbol 1 := ⟨by decide +kernel, rfl, rfl, mw_660, mw_109, ⟨by decide +kernel, by decide +kernel, by decide +kernel⟩, by decide⟩
def P_X9_init : PM := (RX9, yX9_init, cX9_init, 1, none)
theorem cf_X9_init : CF P_X9_init 0 := ⟨by decide +kernel, rfl, rfl, mw_244, mw_114, ⟨by decide +kernel, by decide +kernel, by decide +kernel⟩, by decide⟩
def P_X9_lines : PM := (RX9, yX9_lines, cX9_lines, 2, (Option.some (Jvm.ClassFile.FieldType.object "NoTwoTogether$Lines")))
theorem cf_X9_lines : CF P_X9_lines 1 := ⟨by decide +kernel, rfl, rfl, mw_793, mw_114, ⟨by decide +kernel, by decide +kernel, by decide +kernel⟩, by decide⟩
def P_X9_copy : PM := (RX9, yX9_copy, cX9_copy, 2, none)
theorem cf_X9_copy : CF P_X9_copy 1 := ⟨by decide +kernel, rfl, rfl, mw_1098, mw_114, ⟨by decide +kernel, by decide +kernel, by decide +kernel⟩, by decide⟩
def P_X10_init : PM := (RX10, yX10_init, cX10_init, 2, none)
theorem cf_X10_init : CF P_X10_init 1 := ⟨by decide +kernel, rfl, rfl, mw_471, mw_120, ⟨by decide +kernel, by decide +kernel, by decide +kernel⟩, by decide⟩
def P_X10_bestChange : PM := (RX10, yX10_bestChange, cX10_bestChange, 12, (some FieldType.int))
theorem cf_X10_bestChange : CF P_X10_bestChange 4 := ⟨by decide +kernel, rfl, rfl, mw_1016, mw_120, ⟨by decide +kernel, by decide +kernel, by decide +kernel⟩, by decide⟩
def P_X10_renew : PM := (RX10, yX10_renew, cX10_renew, 4, none)
theorem cf_X10_renew : CF P_X10_renew 3 := ⟨by decide +kernel, rfl, rfl, mw_1026, mw_120, ⟨by decide +kernel, by decide +kernel, by decide +kernel⟩, by decide⟩
def P_X10_bestOrder : PM := (RX10, yX10_bestOrder, cX10_bestOrder, 10, (some FieldType.int))
theorem cf_X10_bestOrder : CF P_X10_bestOrder 4 := ⟨by decide +kernel, rfl, rfl, mw_1036, mw_120, ⟨by decide +kernel, by decide +kernel, by decide +kernel⟩, by decide⟩
def P_X10_sortUp : PM := (RX10, yX10_sortUp, cX10_sortUp, 4, none)
theorem cf_X10_sortUp : CF P_X10_sortUp 2 := ⟨by decide +kernel, rfl, rfl, mw_1040, mw_120, ⟨by decide +kernel, by decide +kernel, by decide +kernel⟩, by decide⟩
def P_X10_nextOrder : PM := (RX10, yX10_nextOrder, cX10_nextOrder, 6, (some FieldType.boolean))
theorem cf_X10_nextOrder : CF P_X10_nextOrder 2 := ⟨by decide +kernel, rfl, rfl, mw_1049, mw_120, ⟨by decide +kernel, by decide +kernel, by decide +kernel⟩, by decide⟩
def P_X10_swap : PM := (RX10, yX10_swap, cX10_swap, 4, none)
theorem cf_X10_swap : CF P_X10_swap 3 := ⟨by decide +kernel, rfl, rfl, mw_1043, mw_120, ⟨by decide +kernel, by decide +kernel, by decide +kernel⟩, by decide⟩
def P_X10_leastWay : PM := (RX10, yX10_leastWay, cX10_leastWay, 11, (some FieldType.int))
theorem cf_X10_leastWay : CF P_X10_leastWay 3 := ⟨by decide +kernel, rfl, rfl, mw_1057, mw_120, ⟨by decide +kernel, by decide +kernel, by decide +kernel⟩, by decide⟩
def P_X10_wayOf : PM := (RX10, yX10_wayOf, cX10_wayOf, 6, (some FieldType.int))
theorem cf_X10_wayOf : CF P_X10_wayOf 3 := ⟨by decide +kernel, rfl, rfl, mw_1061, mw_120, ⟨by decide +kernel, by decide +kernel, by decide +kernel⟩, by decide⟩
def P_X11_init : PM := (RX11, yX11_init, cX11_init, 1, none)
theorem cf_X11_init : CF P_X11_init 0 := ⟨by decide +kernel, rfl, rfl, mw_134, mw_108, ⟨by decide +kernel, by decide +kernel, by decide +kernel⟩, by decide⟩
def P_X11_state : PM := (RX11, yX11_state, cX11_state, 3, (some FieldType.int))
theorem cf_X11_state : CF P_X11_state 1 := ⟨by decide +kernel, rfl, rfl, mw_534, mw_108, ⟨by decide +kernel, by decide +kernel, by decide +kernel⟩, by decide⟩
def P_X11_row : PM := (RX11, yX11_row, cX11_row, 2, (some FieldType.boolean))
theorem cf_X11_row : CF P_X11_row 1 := ⟨by decide +kernel, rfl, rfl, mw_538, mw_108, ⟨by decide +kernel, by decide +kernel, by decide +kernel⟩, by decide⟩
def P_X11_place : PM := (RX11, yX11_place, cX11_place, 5, (some FieldType.boolean))
theorem cf_X11_place : CF P_X11_place 4 := ⟨by decide +kernel, rfl, rfl, mw_542, mw_108, ⟨by decide +kernel, by decide +kernel, by decide +kernel⟩, by decide⟩
def P_X11_sort : PM := (RX11, yX11_sort, cX11_sort, 4, (some FieldType.boolean))
theorem cf_X11_sort : CF P_X11_sort 3 := ⟨by decide +kernel, rfl, rfl, mw_551, mw_108, ⟨by decide +kernel, by decide +kernel, by decide +kernel⟩, by decide⟩
def P_X11_set : PM := (RX11, yX11_set, cX11_set, 3, (some FieldType.boolean))
theorem cf_X11_set : CF P_X11_set 2 := ⟨by decide +kernel, rfl, rfl, mw_555, mw_108, ⟨by decide +kernel, by decide +kernel, by decide +kernel⟩, by decide⟩
def P_X11_feed : PM := (RX11, yX11_feed, cX11_feed, 6, (some FieldType.int))
theorem cf_X11_feed : CF P_X11_feed 5 := ⟨by decide +kernel, rfl, rfl, mw_563, mw_108, ⟨by decide +kernel, by decide +kernel, by decide +kernel⟩, by decide⟩
def P_X11_end : PM := (RX11, yX11_end, cX11_end, 2, (some FieldType.boolean))
theorem cf_X11_end : CF P_X11_end 1 := ⟨by decide +kernel, rfl, rfl, mw_571, mw_108, ⟨by decide +kernel, by decide +kernel, by decide +kernel⟩, by decide⟩
def P_X11_text : PM := (RX11, yX11_text, cX11_text, 3, (some FieldType.int))
theorem cf_X11_text : CF P_X11_text 1 := ⟨by decide +kernel, rfl, rfl, mw_575, mw_108, ⟨by decide +kernel, by decide +kernel, by decide +kernel⟩, by decide⟩
def P_X11_fault : PM := (RX11, yX11_fault, cX11_fault, 2, (some FieldType.int))
theorem cf_X11_fault : CF P_X11_fault 1 := ⟨by decide +kernel, rfl, rfl, mw_802, mw_108, ⟨by decide +kernel, by decide +kernel, by decide +kernel⟩, by decide⟩
def P_X11_of : PM := (RX11, yX11_of, cX11_of, 3, (some FieldType.int))
theorem cf_X11_of : CF P_X11_of 2 := ⟨by decide +kernel, rfl, rfl, mw_806, mw_108, ⟨by decide +kernel, by decide +kernel, by decide +kernel⟩, by decide⟩
def P_X11_see : PM := (RX11, yX11_see, cX11_see, 2, (some FieldType.boolean))
theorem cf_X11_see : CF P_X11_see 1 := ⟨by decide +kernel, rfl, rfl, mw_853, mw_108, ⟨by decide +kernel, by decide +kernel, by decide +kernel⟩, by decide⟩
def P_X11_fails : PM := (RX11, yX11_fails, cX11_fails, 5, (some FieldType.int))
theorem cf_X11_fails : CF P_X11_fails 2 := ⟨by decide +kernel, rfl, rfl, mw_862, mw_108, ⟨by decide +kernel, by decide +kernel, by decide +kernel⟩, by decide⟩
def P_X11_days : PM := (RX11, yX11_days, cX11_days, 4, (some FieldType.int))
theorem cf_X11_days : CF P_X11_days 1 := ⟨by decide +kernel, rfl, rfl, mw_876, mw_108, ⟨by decide +kernel, by decide +kernel, by decide +kernel⟩, by decide⟩
def P_X11_chance : PM := (RX11, yX11_chance, cX11_chance, 2, (some FieldType.long))
theorem cf_X11_chance : CF P_X11_chance 1 := ⟨by decide +kernel, rfl, rfl, mw_912, mw_108, ⟨by decide +kernel, by decide +kernel, by decide +kernel⟩, by decide⟩
def P_X11_left : PM := (RX11, yX11_left, cX11_left, 2, (some FieldType.long))
theorem cf_X11_left : CF P_X11_left 1 := ⟨by decide +kernel, rfl, rfl, mw_946, mw_108, ⟨by decide +kernel, by decide +kernel, by decide +kernel⟩, by decide⟩
def P_X11_ahead : PM := (RX11, yX11_ahead, cX11_ahead, 3, (some FieldType.int))
theorem cf_X11_ahead : CF P_X11_ahead 2 := ⟨by decide +kernel, rfl, rfl, mw_982, mw_108, ⟨by decide +kernel, by decide +kernel, by decide +kernel⟩, by decide⟩
def P_X11_hold : PM := (RX11, yX11_hold, cX11_hold, 2, (some FieldType.long))
theorem cf_X11_hold : CF P_X11_hold 1 := ⟨by decide +kernel, rfl, rfl, mw_996, mw_108, ⟨by decide +kernel, by decide +kernel, by decide +kernel⟩, by decide⟩
def P_X11_which : PM := (RX11, yX11_which, cX11_which, 2, (some FieldType.int))
theorem cf_X11_which : CF P_X11_which 1 := ⟨by decide +kernel, rfl, rfl, mw_1012, mw_108, ⟨by decide +kernel, by decide +kernel, by decide +kernel⟩, by decide⟩
def P_X11_where : PM := (RX11, yX11_where, cX11_where, 2, (some FieldType.int))
theorem cf_X11_where : CF P_X11_where 1 := ⟨by decide +kernel, rfl, rfl, mw_1032, mw_108, ⟨by decide +kernel, by decide +kernel, by decide +kernel⟩, by decide⟩
def P_X11_stocks : PM := (RX11, yX11_stocks, cX11_stocks, 3, (some FieldType.int))
theorem cf_X11_stocks : CF P_X11_stocks 2 := ⟨by decide +kernel, rfl, rfl, mw_1053, mw_108, ⟨by decide +kernel, by decide +kernel, by decide +kernel⟩, by decide⟩
def P_X11_thought : PM := (RX11, yX11_thought, cX11_thought, 5, (some FieldType.int))
theorem cf_X11_thought : CF P_X11_thought 4 := ⟨by decide +kernel, rfl, rfl, mw_1065, mw_108, ⟨by decide +kernel, by decide +kernel, by decide +kernel⟩, by decide⟩
def P_X11_often : PM := (RX11, yX11_often, cX11_often, 3, (some FieldType.int))
theorem cf_X11_often : CF P_X11_often 2 := ⟨by decide +kernel, rfl, rfl, mw_1077, mw_108, ⟨by decide +kernel, by decide +kernel, by decide +kernel⟩, by decide⟩
def P_X11_nine : PM := (RX11, yX11_nine, cX11_nine, 7, (some FieldType.int))
theorem cf_X11_nine : CF P_X11_nine 1 := ⟨by decide +kernel, rfl, rfl, mw_1089, mw_108, ⟨by decide +kernel, by decide +kernel, by decide +kernel⟩, by decide⟩
def P_X11_image : PM := (RX11, yX11_image, cX11_image, 2, (some FieldType.boolean))
theorem cf_X11_image : CF P_X11_image 1 := ⟨by decide +kernel, rfl, rfl, mw_1094, mw_108, ⟨by decide +kernel, by decide +kernel, by decide +kernel⟩, by decide⟩
def P_X11_look : PM := (RX11, yX11_look, cX11_look, 2, (some FieldType.int))
theorem cf_X11_look : CF P_X11_look 1 := ⟨by decide +kernel, rfl, rfl, mw_1104, mw_108, ⟨by decide +kernel, by decide +kernel, by decide +kernel⟩, by decide⟩
def P_X11_keepRead : PM := (RX11, yX11_keepRead, cX11_keepRead, 2, none)
theorem cf_X11_keepRead : CF P_X11_keepRead 1 := ⟨by decide +kernel, rfl, rfl, mw_782, mw_108, ⟨by decide +kernel, by decide +kernel, by decide +kernel⟩, by decide⟩
def P_X11_goAhead : PM := (RX11, yX11_goAhead, cX11_goAhead, 3, none)
theorem cf_X11_goAhead : CF P_X11_goAhead 1 := ⟨by decide +kernel, rfl, rfl, mw_950, mw_108, ⟨by decide +kernel, by decide +kernel, by decide +kernel⟩, by decide⟩
def P_X11_lasts : PM := (RX11, yX11_lasts, cX11_lasts, 4, (some FieldType.int))
theorem cf_X11_lasts : CF P_X11_lasts 0 := ⟨by decide +kernel, rfl, rfl, mw_986, mw_108, ⟨by decide +kernel, by decide +kernel, by decide +kernel⟩, by decide⟩
def P_X11_think : PM := (RX11, yX11_think, cX11_think, 5, none)
theorem cf_X11_think : CF P_X11_think 3 := ⟨by decide +kernel, rfl, rfl, mw_1072, mw_108, ⟨by decide +kernel, by decide +kernel, by decide +kernel⟩, by decide⟩
def P_X11_cheapestEvery : PM := (RX11, yX11_cheapestEvery, cX11_cheapestEvery, 6, (some FieldType.int))
theorem cf_X11_cheapestEvery : CF P_X11_cheapestEvery 1 := ⟨by decide +kernel, rfl, rfl, mw_1081, mw_108, ⟨by decide +kernel, by decide +kernel, by decide +kernel⟩, by decide⟩
def P_X11_cheaperRule : PM := (RX11, yX11_cheaperRule, cX11_cheaperRule, 4, (some FieldType.int))
theorem cf_X11_cheaperRule : CF P_X11_cheaperRule 1 := ⟨by decide +kernel, rfl, rfl, mw_1085, mw_108, ⟨by decide +kernel, by decide +kernel, by decide +kernel⟩, by decide⟩
def P_X11_isEvery : PM := (RX11, yX11_isEvery, cX11_isEvery, 1, (some FieldType.boolean))
theorem cf_X11_isEvery : CF P_X11_isEvery 1 := ⟨by decide +kernel, rfl, rfl, mw_1068, mw_108, ⟨by decide +kernel, by decide +kernel, by decide +kernel⟩, by decide⟩
def P_X11_bit : PM := (RX11, yX11_bit, cX11_bit, 3, (some FieldType.int))
theorem cf_X11_bit : CF P_X11_bit 2 := ⟨by decide +kernel, rfl, rfl, mw_810, mw_108, ⟨by decide +kernel, by decide +kernel, by decide +kernel⟩, by decide⟩
def P_X11_besideIn : PM := (RX11, yX11_besideIn, cX11_besideIn, 3, (some FieldType.int))
theorem cf_X11_besideIn : CF P_X11_besideIn 2 := ⟨by decide +kernel, rfl, rfl, mw_813, mw_108, ⟨by decide +kernel, by decide +kernel, by decide +kernel⟩, by decide⟩
def P_X12_init : PM := (RX12, yX12_init, cX12_init, 1, none)
theorem cf_X12_init : CF P_X12_init 0 := ⟨by decide +kernel, rfl, rfl, mw_1115, mw_121, ⟨by decide +kernel, by decide +kernel, by decide +kernel⟩, by decide⟩
def P_X12_isIn : PM := (RX12, yX12_isIn, cX12_isIn, 4, (some FieldType.boolean))
theorem cf_X12_isIn : CF P_X12_isIn 3 := ⟨by decide +kernel, rfl, rfl, mw_1366, mw_121, ⟨by decide +kernel, by decide +kernel, by decide +kernel⟩, by decide⟩
def P_X12_ones : PM := (RX12, yX12_ones, cX12_ones, 4, (some FieldType.int))
theorem cf_X12_ones : CF P_X12_ones 1 := ⟨by decide +kernel, rfl, rfl, mw_1535, mw_121, ⟨by decide +kernel, by decide +kernel, by decide +kernel⟩, by decide⟩
def P_X12_size : PM := (RX12, yX12_size, cX12_size, 2, (some FieldType.int))
theorem cf_X12_size : CF P_X12_size 1 := ⟨by decide +kernel, rfl, rfl, mw_1563, mw_121, ⟨by decide +kernel, by decide +kernel, by decide +kernel⟩, by decide⟩
def P_X12_state : PM := (RX12, yX12_state, cX12_state, 3, (some FieldType.int))
theorem cf_X12_state : CF P_X12_state 1 := ⟨by decide +kernel, rfl, rfl, mw_1358, mw_121, ⟨by decide +kernel, by decide +kernel, by decide +kernel⟩, by decide⟩
def P_X12_draw : PM := (RX12, yX12_draw, cX12_draw, 2, (some FieldType.int))
theorem cf_X12_draw : CF P_X12_draw 1 := ⟨by decide +kernel, rfl, rfl, mw_1579, mw_121, ⟨by decide +kernel, by decide +kernel, by decide +kernel⟩, by decide⟩
def P_X12_isPlace : PM := (RX12, yX12_isPlace, cX12_isPlace, 2, (some FieldType.boolean))
theorem cf_X12_isPlace : CF P_X12_isPlace 1 := ⟨by decide +kernel, rfl, rfl, mw_1374, mw_121, ⟨by decide +kernel, by decide +kernel, by decide +kernel⟩, by decide⟩
def P_X12_row : PM := (RX12, yX12_row, cX12_row, 3, (some FieldType.boolean))
theorem cf_X12_row : CF P_X12_row 1 := ⟨by decide +kernel, rfl, rfl, mw_1362, mw_121, ⟨by decide +kernel, by decide +kernel, by decide +kernel⟩, by decide⟩
def P_X12_place : PM := (RX12, yX12_place, cX12_place, 5, (some FieldType.boolean))
theorem cf_X12_place : CF P_X12_place 4 := ⟨by decide +kernel, rfl, rfl, mw_1370, mw_121, ⟨by decide +kernel, by decide +kernel, by decide +kernel⟩, by decide⟩
def P_X12_sort : PM := (RX12, yX12_sort, cX12_sort, 4, (some FieldType.boolean))
theorem cf_X12_sort : CF P_X12_sort 3 := ⟨by decide +kernel, rfl, rfl, mw_1378, mw_121, ⟨by decide +kernel, by decide +kernel, by decide +kernel⟩, by decide⟩
def P_X12_leastOf : PM := (RX12, yX12_leastOf, cX12_leastOf, 2, (some FieldType.int))
theorem cf_X12_leastOf : CF P_X12_leastOf 1 := ⟨by decide +kernel, rfl, rfl, mw_1386, mw_121, ⟨by decide +kernel, by decide +kernel, by decide +kernel⟩, by decide⟩
def P_X12_mostOf : PM := (RX12, yX12_mostOf, cX12_mostOf, 2, (some FieldType.int))
theorem cf_X12_mostOf : CF P_X12_mostOf 1 := ⟨by decide +kernel, rfl, rfl, mw_1390, mw_121, ⟨by decide +kernel, by decide +kernel, by decide +kernel⟩, by decide⟩
def P_X12_set : PM := (RX12, yX12_set, cX12_set, 3, (some FieldType.boolean))
theorem cf_X12_set : CF P_X12_set 2 := ⟨by decide +kernel, rfl, rfl, mw_1382, mw_121, ⟨by decide +kernel, by decide +kernel, by decide +kernel⟩, by decide⟩
def P_X12_puts : PM := (RX12, yX12_puts, cX12_puts, 3, none)
theorem cf_X12_puts : CF P_X12_puts 1 := ⟨by decide +kernel, rfl, rfl, mw_1398, mw_121, ⟨by decide +kernel, by decide +kernel, by decide +kernel⟩, by decide⟩
def P_X12_feed : PM := (RX12, yX12_feed, cX12_feed, 6, (some FieldType.int))
theorem cf_X12_feed : CF P_X12_feed 5 := ⟨by decide +kernel, rfl, rfl, mw_1394, mw_121, ⟨by decide +kernel, by decide +kernel, by decide +kernel⟩, by decide⟩
def P_X12_end : PM := (RX12, yX12_end, cX12_end, 2, (some FieldType.boolean))
theorem cf_X12_end : CF P_X12_end 1 := ⟨by decide +kernel, rfl, rfl, mw_1402, mw_121, ⟨by decide +kernel, by decide +kernel, by decide +kernel⟩, by decide⟩
def P_X12_raw : PM := (RX12, yX12_raw, cX12_raw, 2, (some FieldType.int))
theorem cf_X12_raw : CF P_X12_raw 1 := ⟨by decide +kernel, rfl, rfl, mw_1414, mw_121, ⟨by decide +kernel, by decide +kernel, by decide +kernel⟩, by decide⟩
def P_X12_isLetter : PM := (RX12, yX12_isLetter, cX12_isLetter, 2, (some FieldType.boolean))
theorem cf_X12_isLetter : CF P_X12_isLetter 1 := ⟨by decide +kernel, rfl, rfl, mw_1418, mw_121, ⟨by decide +kernel, by decide +kernel, by decide +kernel⟩, by decide⟩
def P_X12_isDigit : PM := (RX12, yX12_isDigit, cX12_isDigit, 2, (some FieldType.boolean))
theorem cf_X12_isDigit : CF P_X12_isDigit 1 := ⟨by decide +kernel, rfl, rfl, mw_1426, mw_121, ⟨by decide +kernel, by decide +kernel, by decide +kernel⟩, by decide⟩
def P_X12_isMarkSign : PM := (RX12, yX12_isMarkSign, cX12_isMarkSign, 2, (some FieldType.boolean))
theorem cf_X12_isMarkSign : CF P_X12_isMarkSign 1 := ⟨by decide +kernel, rfl, rfl, mw_1430, mw_121, ⟨by decide +kernel, by decide +kernel, by decide +kernel⟩, by decide⟩
def P_X12_wordAt : PM := (RX12, yX12_wordAt, cX12_wordAt, 6, (some FieldType.int))
theorem cf_X12_wordAt : CF P_X12_wordAt 2 := ⟨by decide +kernel, rfl, rfl, mw_1422, mw_121, ⟨by decide +kernel, by decide +kernel, by decide +kernel⟩, by decide⟩
def P_X12_reads : PM := (RX12, yX12_reads, cX12_reads, 2, none)
theorem cf_X12_reads : CF P_X12_reads 0 := ⟨by decide +kernel, rfl, rfl, mw_1410, mw_121, ⟨by decide +kernel, by decide +kernel, by decide +kernel⟩, by decide⟩
def P_X12_errs : PM := (RX12, yX12_errs, cX12_errs, 2, (some FieldType.int))
theorem cf_X12_errs : CF P_X12_errs 1 := ⟨by decide +kernel, rfl, rfl, mw_1438, mw_121, ⟨by decide +kernel, by decide +kernel, by decide +kernel⟩, by decide⟩
def P_X12_isWord : PM := (RX12, yX12_isWord, cX12_isWord, 2, (some FieldType.boolean))
theorem cf_X12_isWord : CF P_X12_isWord 1 := ⟨by decide +kernel, rfl, rfl, mw_1454, mw_121, ⟨by decide +kernel, by decide +kernel, by decide +kernel⟩, by decide⟩
def P_X12_isSign : PM := (RX12, yX12_isSign, cX12_isSign, 2, (some FieldType.boolean))
theorem cf_X12_isSign : CF P_X12_isSign 1 := ⟨by decide +kernel, rfl, rfl, mw_1458, mw_121, ⟨by decide +kernel, by decide +kernel, by decide +kernel⟩, by decide⟩
def P_X12_emits : PM := (RX12, yX12_emits, cX12_emits, 3, none)
theorem cf_X12_emits : CF P_X12_emits 2 := ⟨by decide +kernel, rfl, rfl, mw_1486, mw_121, ⟨by decide +kernel, by decide +kernel, by decide +kernel⟩, by decide⟩
def P_X12_isAskedWord : PM := (RX12, yX12_isAskedWord, cX12_isAskedWord, 1, (some FieldType.boolean))
theorem cf_X12_isAskedWord : CF P_X12_isAskedWord 0 := ⟨by decide +kernel, rfl, rfl, mw_1482, mw_121, ⟨by decide +kernel, by decide +kernel, by decide +kernel⟩, by decide⟩
def P_X12_readUnit : PM := (RX12, yX12_readUnit, cX12_readUnit, 2, (some FieldType.int))
theorem cf_X12_readUnit : CF P_X12_readUnit 0 := ⟨by decide +kernel, rfl, rfl, mw_1478, mw_121, ⟨by decide +kernel, by decide +kernel, by decide +kernel⟩, by decide⟩
def P_X12_readProduct : PM := (RX12, yX12_readProduct, cX12_readProduct, 2, (some FieldType.int))
theorem cf_X12_readProduct : CF P_X12_readProduct 0 := ⟨by decide +kernel, rfl, rfl, mw_1474, mw_121, ⟨by decide +kernel, by decide +kernel, by decide +kernel⟩, by decide⟩
def P_X12_readSum : PM := (RX12, yX12_readSum, cX12_readSum, 2, (some FieldType.int))
theorem cf_X12_readSum : CF P_X12_readSum 0 := ⟨by decide +kernel, rfl, rfl, mw_1470, mw_121, ⟨by decide +kernel, by decide +kernel, by decide +kernel⟩, by decide⟩
def P_X12_readCompared : PM := (RX12, yX12_readCompared, cX12_readCompared, 2, (some FieldType.int))
theorem cf_X12_readCompared : CF P_X12_readCompared 0 := ⟨by decide +kernel, rfl, rfl, mw_1498, mw_121, ⟨by decide +kernel, by decide +kernel, by decide +kernel⟩, by decide⟩
def P_X12_waits : PM := (RX12, yX12_waits, cX12_waits, 2, none)
theorem cf_X12_waits : CF P_X12_waits 1 := ⟨by decide +kernel, rfl, rfl, mw_1494, mw_121, ⟨by decide +kernel, by decide +kernel, by decide +kernel⟩, by decide⟩
def P_X12_settles : PM := (RX12, yX12_settles, cX12_settles, 2, none)
theorem cf_X12_settles : CF P_X12_settles 1 := ⟨by decide +kernel, rfl, rfl, mw_1502, mw_121, ⟨by decide +kernel, by decide +kernel, by decide +kernel⟩, by decide⟩
def P_X12_readAny : PM := (RX12, yX12_readAny, cX12_readAny, 4, (some FieldType.int))
theorem cf_X12_readAny : CF P_X12_readAny 0 := ⟨by decide +kernel, rfl, rfl, mw_1490, mw_121, ⟨by decide +kernel, by decide +kernel, by decide +kernel⟩, by decide⟩
def P_X12_readLine : PM := (RX12, yX12_readLine, cX12_readLine, 2, (some FieldType.int))
theorem cf_X12_readLine : CF P_X12_readLine 1 := ⟨by decide +kernel, rfl, rfl, mw_1466, mw_121, ⟨by decide +kernel, by decide +kernel, by decide +kernel⟩, by decide⟩
def P_X12_readLaw : PM := (RX12, yX12_readLaw, cX12_readLaw, 2, (some FieldType.int))
theorem cf_X12_readLaw : CF P_X12_readLaw 0 := ⟨by decide +kernel, rfl, rfl, mw_1462, mw_121, ⟨by decide +kernel, by decide +kernel, by decide +kernel⟩, by decide⟩
def P_X12_readNumber : PM := (RX12, yX12_readNumber, cX12_readNumber, 3, (some FieldType.int))
theorem cf_X12_readNumber : CF P_X12_readNumber 1 := ⟨by decide +kernel, rfl, rfl, mw_1450, mw_121, ⟨by decide +kernel, by decide +kernel, by decide +kernel⟩, by decide⟩
def P_X12_readShape : PM := (RX12, yX12_readShape, cX12_readShape, 3, (some FieldType.int))
theorem cf_X12_readShape : CF P_X12_readShape 1 := ⟨by decide +kernel, rfl, rfl, mw_1446, mw_121, ⟨by decide +kernel, by decide +kernel, by decide +kernel⟩, by decide⟩
def P_X12_readFail : PM := (RX12, yX12_readFail, cX12_readFail, 2, (some FieldType.int))
theorem cf_X12_readFail : CF P_X12_readFail 1 := ⟨by decide +kernel, rfl, rfl, mw_1442, mw_121, ⟨by decide +kernel, by decide +kernel, by decide +kernel⟩, by decide⟩
def P_X12_readFails : PM := (RX12, yX12_readFails, cX12_readFails, 2, (some FieldType.int))
theorem cf_X12_readFails : CF P_X12_readFails 0 := ⟨by decide +kernel, rfl, rfl, mw_1434, mw_121, ⟨by decide +kernel, by decide +kernel, by decide +kernel⟩, by decide⟩
def P_X12_takes : PM := (RX12, yX12_takes, cX12_takes, 4, none)
theorem cf_X12_takes : CF P_X12_takes 2 := ⟨by decide +kernel, rfl, rfl, mw_1510, mw_121, ⟨by decide +kernel, by decide +kernel, by decide +kernel⟩, by decide⟩
def P_X12_takesFails : PM := (RX12, yX12_takesFails, cX12_takesFails, 4, none)
theorem cf_X12_takesFails : CF P_X12_takesFails 1 := ⟨by decide +kernel, rfl, rfl, mw_1506, mw_121, ⟨by decide +kernel, by decide +kernel, by decide +kernel⟩, by decide⟩
def P_X12_text : PM := (RX12, yX12_text, cX12_text, 4, (some FieldType.int))
theorem cf_X12_text : CF P_X12_text 1 := ⟨by decide +kernel, rfl, rfl, mw_1406, mw_121, ⟨by decide +kernel, by decide +kernel, by decide +kernel⟩, by decide⟩
def P_X12_fault : PM := (RX12, yX12_fault, cX12_fault, 2, (some FieldType.int))
theorem cf_X12_fault : CF P_X12_fault 1 := ⟨by decide +kernel, rfl, rfl, mw_1514, mw_121, ⟨by decide +kernel, by decide +kernel, by decide +kernel⟩, by decide⟩
def P_X12_twoOf : PM := (RX12, yX12_twoOf, cX12_twoOf, 4, (some FieldType.int))
theorem cf_X12_twoOf : CF P_X12_twoOf 3 := ⟨by decide +kernel, rfl, rfl, mw_1575, mw_121, ⟨by decide +kernel, by decide +kernel, by decide +kernel⟩, by decide⟩
def P_X12_worth : PM := (RX12, yX12_worth, cX12_worth, 6, (some FieldType.int))
theorem cf_X12_worth : CF P_X12_worth 3 := ⟨by decide +kernel, rfl, rfl, mw_1571, mw_121, ⟨by decide +kernel, by decide +kernel, by decide +kernel⟩, by decide⟩
def P_X12_tells : PM := (RX12, yX12_tells, cX12_tells, 3, (some FieldType.int))
theorem cf_X12_tells : CF P_X12_tells 1 := ⟨by decide +kernel, rfl, rfl, mw_1567, mw_121, ⟨by decide +kernel, by decide +kernel, by decide +kernel⟩, by decide⟩
def P_X12_goesOf : PM := (RX12, yX12_goesOf, cX12_goesOf, 7, (some FieldType.int))
theorem cf_X12_goesOf : CF P_X12_goesOf 5 := ⟨by decide +kernel, rfl, rfl, mw_1559, mw_121, ⟨by decide +kernel, by decide +kernel, by decide +kernel⟩, by decide⟩
def P_X12_besideOf : PM := (RX12, yX12_besideOf, cX12_besideOf, 2, (some FieldType.int))
theorem cf_X12_besideOf : CF P_X12_besideOf 1 := ⟨by decide +kernel, rfl, rfl, mw_1555, mw_121, ⟨by decide +kernel, by decide +kernel, by decide +kernel⟩, by decide⟩
def P_X12_goesNow : PM := (RX12, yX12_goesNow, cX12_goesNow, 2, (some FieldType.int))
theorem cf_X12_goesNow : CF P_X12_goesNow 1 := ⟨by decide +kernel, rfl, rfl, mw_1551, mw_121, ⟨by decide +kernel, by decide +kernel, by decide +kernel⟩, by decide⟩
def P_X12_urgeOf : PM := (RX12, yX12_urgeOf, cX12_urgeOf, 3, (some FieldType.int))
theorem cf_X12_urgeOf : CF P_X12_urgeOf 2 := ⟨by decide +kernel, rfl, rfl, mw_1593, mw_121, ⟨by decide +kernel, by decide +kernel, by decide +kernel⟩, by decide⟩
def P_X12_guessOf : PM := (RX12, yX12_guessOf, cX12_guessOf, 5, (some FieldType.int))
theorem cf_X12_guessOf : CF P_X12_guessOf 1 := ⟨by decide +kernel, rfl, rfl, mw_1614, mw_121, ⟨by decide +kernel, by decide +kernel, by decide +kernel⟩, by decide⟩
def P_X12_isShape : PM := (RX12, yX12_isShape, cX12_isShape, 7, (some FieldType.boolean))
theorem cf_X12_isShape : CF P_X12_isShape 2 := ⟨by decide +kernel, rfl, rfl, mw_1539, mw_121, ⟨by decide +kernel, by decide +kernel, by decide +kernel⟩, by decide⟩
def P_X12_isMet : PM := (RX12, yX12_isMet, cX12_isMet, 5, (some FieldType.boolean))
theorem cf_X12_isMet : CF P_X12_isMet 2 := ⟨by decide +kernel, rfl, rfl, mw_1531, mw_121, ⟨by decide +kernel, by decide +kernel, by decide +kernel⟩, by decide⟩
def P_X12_failsTrial : PM := (RX12, yX12_failsTrial, cX12_failsTrial, 3, (some FieldType.boolean))
theorem cf_X12_failsTrial : CF P_X12_failsTrial 0 := ⟨by decide +kernel, rfl, rfl, mw_1527, mw_121, ⟨by decide +kernel, by decide +kernel, by decide +kernel⟩, by decide⟩
def P_X12_failsNow : PM := (RX12, yX12_failsNow, cX12_failsNow, 2, (some FieldType.boolean))
theorem cf_X12_failsNow : CF P_X12_failsNow 0 := ⟨by decide +kernel, rfl, rfl, mw_1585, mw_121, ⟨by decide +kernel, by decide +kernel, by decide +kernel⟩, by decide⟩
def P_X12_areBits : PM := (RX12, yX12_areBits, cX12_areBits, 4, (some FieldType.boolean))
theorem cf_X12_areBits : CF P_X12_areBits 2 := ⟨by decide +kernel, rfl, rfl, mw_1522, mw_121, ⟨by decide +kernel, by decide +kernel, by decide +kernel⟩, by decide⟩
def P_X12_fails : PM := (RX12, yX12_fails, cX12_fails, 4, (some FieldType.int))
theorem cf_X12_fails : CF P_X12_fails 2 := ⟨by decide +kernel, rfl, rfl, mw_1518, mw_121, ⟨by decide +kernel, by decide +kernel, by decide +kernel⟩, by decide⟩
def P_X12_bestUrge : PM := (RX12, yX12_bestUrge, cX12_bestUrge, 3, (some FieldType.int))
theorem cf_X12_bestUrge : CF P_X12_bestUrge 0 := ⟨by decide +kernel, rfl, rfl, mw_1597, mw_121, ⟨by decide +kernel, by decide +kernel, by decide +kernel⟩, by decide⟩
def P_X12_changes : PM := (RX12, yX12_changes, cX12_changes, 4, (some FieldType.boolean))
theorem cf_X12_changes : CF P_X12_changes 1 := ⟨by decide +kernel, rfl, rfl, mw_1601, mw_121, ⟨by decide +kernel, by decide +kernel, by decide +kernel⟩, by decide⟩
def P_X12_heComes : PM := (RX12, yX12_heComes, cX12_heComes, 3, none)
theorem cf_X12_heComes : CF P_X12_heComes 0 := ⟨by decide +kernel, rfl, rfl, mw_1589, mw_121, ⟨by decide +kernel, by decide +kernel, by decide +kernel⟩, by decide⟩
def P_X12_goesBy : PM := (RX12, yX12_goesBy, cX12_goesBy, 2, none)
theorem cf_X12_goesBy : CF P_X12_goesBy 0 := ⟨by decide +kernel, rfl, rfl, mw_1547, mw_121, ⟨by decide +kernel, by decide +kernel, by decide +kernel⟩, by decide⟩
def P_X12_days : PM := (RX12, yX12_days, cX12_days, 4, (some FieldType.int))
theorem cf_X12_days : CF P_X12_days 1 := ⟨by decide +kernel, rfl, rfl, mw_1543, mw_121, ⟨by decide +kernel, by decide +kernel, by decide +kernel⟩, by decide⟩
def P_X12_see : PM := (RX12, yX12_see, cX12_see, 2, (some FieldType.boolean))
theorem cf_X12_see : CF P_X12_see 1 := ⟨by decide +kernel, rfl, rfl, mw_1605, mw_121, ⟨by decide +kernel, by decide +kernel, by decide +kernel⟩, by decide⟩
def P_X12_of : PM := (RX12, yX12_of, cX12_of, 3, (some FieldType.int))
theorem cf_X12_of : CF P_X12_of 2 := ⟨by decide +kernel, rfl, rfl, mw_1609, mw_121, ⟨by decide +kernel, by decide +kernel, by decide +kernel⟩, by decide⟩
def P_X12_chanceOf : PM := (RX12, yX12_chanceOf, cX12_chanceOf, 10, (some FieldType.long))
theorem cf_X12_chanceOf : CF P_X12_chanceOf 0 := ⟨by decide +kernel, rfl, rfl, mw_1626, mw_121, ⟨by decide +kernel, by decide +kernel, by decide +kernel⟩, by decide⟩
def P_X12_chanceNow : PM := (RX12, yX12_chanceNow, cX12_chanceNow, 2, (some FieldType.long))
theorem cf_X12_chanceNow : CF P_X12_chanceNow 0 := ⟨by decide +kernel, rfl, rfl, mw_1622, mw_121, ⟨by decide +kernel, by decide +kernel, by decide +kernel⟩, by decide⟩
def P_X12_chance : PM := (RX12, yX12_chance, cX12_chance, 3, (some FieldType.long))
theorem cf_X12_chance : CF P_X12_chance 1 := ⟨by decide +kernel, rfl, rfl, mw_1618, mw_121, ⟨by decide +kernel, by decide +kernel, by decide +kernel⟩, by decide⟩
def P_X12_findsSetFails : PM := (RX12, yX12_findsSetFails, cX12_findsSetFails, 3, none)
theorem cf_X12_findsSetFails : CF P_X12_findsSetFails 0 := ⟨by decide +kernel, rfl, rfl, mw_1641, mw_121, ⟨by decide +kernel, by decide +kernel, by decide +kernel⟩, by decide⟩
def P_X12_beginsAhead : PM := (RX12, yX12_beginsAhead, cX12_beginsAhead, 3, none)
theorem cf_X12_beginsAhead : CF P_X12_beginsAhead 0 := ⟨by decide +kernel, rfl, rfl, mw_1637, mw_121, ⟨by decide +kernel, by decide +kernel, by decide +kernel⟩, by decide⟩
def P_X12_splits : PM := (RX12, yX12_splits, cX12_splits, 8, none)
theorem cf_X12_splits : CF P_X12_splits 2 := ⟨by decide +kernel, rfl, rfl, mw_1649, mw_121, ⟨by decide +kernel, by decide +kernel, by decide +kernel⟩, by decide⟩
def P_X12_aDayAhead : PM := (RX12, yX12_aDayAhead, cX12_aDayAhead, 3, none)
theorem cf_X12_aDayAhead : CF P_X12_aDayAhead 1 := ⟨by decide +kernel, rfl, rfl, mw_1645, mw_121, ⟨by decide +kernel, by decide +kernel, by decide +kernel⟩, by decide⟩
def P_X12_leftNow : PM := (RX12, yX12_leftNow, cX12_leftNow, 4, (some FieldType.long))
theorem cf_X12_leftNow : CF P_X12_leftNow 0 := ⟨by decide +kernel, rfl, rfl, mw_1653, mw_121, ⟨by decide +kernel, by decide +kernel, by decide +kernel⟩, by decide⟩
def P_X12_left : PM := (RX12, yX12_left, cX12_left, 3, (some FieldType.long))
theorem cf_X12_left : CF P_X12_left 1 := ⟨by decide +kernel, rfl, rfl, mw_1633, mw_121, ⟨by decide +kernel, by decide +kernel, by decide +kernel⟩, by decide⟩
def P_X12_lasts : PM := (RX12, yX12_lasts, cX12_lasts, 4, (some FieldType.int))
theorem cf_X12_lasts : CF P_X12_lasts 0 := ⟨by decide +kernel, rfl, rfl, mw_1661, mw_121, ⟨by decide +kernel, by decide +kernel, by decide +kernel⟩, by decide⟩
def P_X12_ahead : PM := (RX12, yX12_ahead, cX12_ahead, 5, (some FieldType.int))
theorem cf_X12_ahead : CF P_X12_ahead 2 := ⟨by decide +kernel, rfl, rfl, mw_1657, mw_121, ⟨by decide +kernel, by decide +kernel, by decide +kernel⟩, by decide⟩
def P_X12_hold : PM := (RX12, yX12_hold, cX12_hold, 7, (some FieldType.long))
theorem cf_X12_hold : CF P_X12_hold 1 := ⟨by decide +kernel, rfl, rfl, mw_1665, mw_121, ⟨by decide +kernel, by decide +kernel, by decide +kernel⟩, by decide⟩
def P_X12_keepsRow : PM := (RX12, yX12_keepsRow, cX12_keepsRow, 2, none)
theorem cf_X12_keepsRow : CF P_X12_keepsRow 0 := ⟨by decide +kernel, rfl, rfl, mw_1673, mw_121, ⟨by decide +kernel, by decide +kernel, by decide +kernel⟩, by decide⟩
def P_X12_givesRowBack : PM := (RX12, yX12_givesRowBack, cX12_givesRowBack, 2, none)
theorem cf_X12_givesRowBack : CF P_X12_givesRowBack 0 := ⟨by decide +kernel, rfl, rfl, mw_1677, mw_121, ⟨by decide +kernel, by decide +kernel, by decide +kernel⟩, by decide⟩
def P_X12_which : PM := (RX12, yX12_which, cX12_which, 8, (some FieldType.int))
theorem cf_X12_which : CF P_X12_which 1 := ⟨by decide +kernel, rfl, rfl, mw_1669, mw_121, ⟨by decide +kernel, by decide +kernel, by decide +kernel⟩, by decide⟩
def P_X12_goesOn : PM := (RX12, yX12_goesOn, cX12_goesOn, 6, (some FieldType.boolean))
theorem cf_X12_goesOn : CF P_X12_goesOn 0 := ⟨by decide +kernel, rfl, rfl, mw_1689, mw_121, ⟨by decide +kernel, by decide +kernel, by decide +kernel⟩, by decide⟩
def P_X12_sortsOrder : PM := (RX12, yX12_sortsOrder, cX12_sortsOrder, 4, none)
theorem cf_X12_sortsOrder : CF P_X12_sortsOrder 0 := ⟨by decide +kernel, rfl, rfl, mw_1685, mw_121, ⟨by decide +kernel, by decide +kernel, by decide +kernel⟩, by decide⟩
def P_X12_where : PM := (RX12, yX12_where, cX12_where, 9, (some FieldType.int))
theorem cf_X12_where : CF P_X12_where 1 := ⟨by decide +kernel, rfl, rfl, mw_1681, mw_121, ⟨by decide +kernel, by decide +kernel, by decide +kernel⟩, by decide⟩
def P_X12_stocks : PM := (RX12, yX12_stocks, cX12_stocks, 9, (some FieldType.int))
theorem cf_X12_stocks : CF P_X12_stocks 2 := ⟨by decide +kernel, rfl, rfl, mw_1693, mw_121, ⟨by decide +kernel, by decide +kernel, by decide +kernel⟩, by decide⟩
def P_X12_putAside : PM := (RX12, yX12_putAside, cX12_putAside, 2, (some FieldType.int))
theorem cf_X12_putAside : CF P_X12_putAside 1 := ⟨by decide +kernel, rfl, rfl, mw_1709, mw_121, ⟨by decide +kernel, by decide +kernel, by decide +kernel⟩, by decide⟩
def P_X12_asides : PM := (RX12, yX12_asides, cX12_asides, 3, none)
theorem cf_X12_asides : CF P_X12_asides 1 := ⟨by decide +kernel, rfl, rfl, mw_1705, mw_121, ⟨by decide +kernel, by decide +kernel, by decide +kernel⟩, by decide⟩
def P_X12_thinks : PM := (RX12, yX12_thinks, cX12_thinks, 8, none)
theorem cf_X12_thinks : CF P_X12_thinks 3 := ⟨by decide +kernel, rfl, rfl, mw_1701, mw_121, ⟨by decide +kernel, by decide +kernel, by decide +kernel⟩, by decide⟩
def P_X12_thought : PM := (RX12, yX12_thought, cX12_thought, 5, (some FieldType.int))
theorem cf_X12_thought : CF P_X12_thought 4 := ⟨by decide +kernel, rfl, rfl, mw_1697, mw_121, ⟨by decide +kernel, by decide +kernel, by decide +kernel⟩, by decide⟩
def P_X12_often : PM := (RX12, yX12_often, cX12_often, 6, (some FieldType.int))
theorem cf_X12_often : CF P_X12_often 2 := ⟨by decide +kernel, rfl, rfl, mw_1713, mw_121, ⟨by decide +kernel, by decide +kernel, by decide +kernel⟩, by decide⟩
def P_X12_nine : PM := (RX12, yX12_nine, cX12_nine, 7, (some FieldType.int))
theorem cf_X12_nine : CF P_X12_nine 1 := ⟨by decide +kernel, rfl, rfl, mw_1717, mw_121, ⟨by decide +kernel, by decide +kernel, by decide +kernel⟩, by decide⟩
def P_X12_keptText : PM := (RX12, yX12_keptText, cX12_keptText, 2, (some FieldType.int))
theorem cf_X12_keptText : CF P_X12_keptText 1 := ⟨by decide +kernel, rfl, rfl, mw_1730, mw_121, ⟨by decide +kernel, by decide +kernel, by decide +kernel⟩, by decide⟩
def P_X12_keepsTexts : PM := (RX12, yX12_keepsTexts, cX12_keepsTexts, 2, none)
theorem cf_X12_keepsTexts : CF P_X12_keepsTexts 0 := ⟨by decide +kernel, rfl, rfl, mw_1726, mw_121, ⟨by decide +kernel, by decide +kernel, by decide +kernel⟩, by decide⟩
def P_X12_image : PM := (RX12, yX12_image, cX12_image, 3, (some FieldType.boolean))
theorem cf_X12_image : CF P_X12_image 1 := ⟨by decide +kernel, rfl, rfl, mw_1722, mw_121, ⟨by decide +kernel, by decide +kernel, by decide +kernel⟩, by decide⟩
def P_X12_look : PM := (RX12, yX12_look, cX12_look, 4, (some FieldType.int))
theorem cf_X12_look : CF P_X12_look 1 := ⟨by decide +kernel, rfl, rfl, mw_1734, mw_121, ⟨by decide +kernel, by decide +kernel, by decide +kernel⟩, by decide⟩
def P_L_law : PM := (RL, yL_law, cL_law, 4, (some .boolean))
def P_J7_fill_53178 : PM := (RJ7, yJ7_fill_53178, cJ7_fill_53178, 4, none)
theorem cf_J7_fill_53178 : CF P_J7_fill_53178 2 := ⟨by decide +kernel, rfl, rfl, mw_212, mw_113, ⟨by decide +kernel, by decide +kernel, by decide +kernel⟩, by decide⟩
def P_J7_fill_d0a16 : PM := (RJ7, yJ7_fill_d0a16, cJ7_fill_d0a16, 5, none)
theorem cf_J7_fill_d0a16 : CF P_J7_fill_d0a16 2 := ⟨by decide +kernel, rfl, rfl, mw_935, mw_113, ⟨by decide +kernel, by decide +kernel, by decide +kernel⟩, by decide⟩
def P_J6_bitCount_0f7a4 : PM := (RJ6, yJ6_bitCount_0f7a4, cJ6_bitCount_0f7a4, 1, (some FieldType.int))
theorem cf_J6_bitCount_0f7a4 : CF P_J6_bitCount_0f7a4 1 := ⟨by decide +kernel, rfl, rfl, mw_715, mw_126, ⟨by decide +kernel, by decide +kernel, by decide +kernel⟩, by decide⟩
def P_J13_bitCount_95d88 : PM := (RJ13, yJ13_bitCount_95d88, cJ13_bitCount_95d88, 2, (some FieldType.int))
theorem cf_J13_bitCount_95d88 : CF P_J13_bitCount_95d88 1 := ⟨by decide +kernel, rfl, rfl, mw_1107, mw_129, ⟨by decide +kernel, by decide +kernel, by decide +kernel⟩, by decide⟩
def P_J0_length_8abf5 : PM := (RJ0, yJ0_length_8abf5, cJ0_length_8abf5, 1, (some FieldType.int))
theorem cf_J0_length_8abf5 : CF P_J0_length_8abf5 0 := ⟨by decide +kernel, rfl, rfl, mw_613, mw_122, ⟨by decide +kernel, by decide +kernel, by decide +kernel⟩, by decide⟩
def P_J0_charAt_5068e : PM := (RJ0, yJ0_charAt_5068e, cJ0_charAt_5068e, 2, (some FieldType.char))
theorem cf_J0_charAt_5068e : CF P_J0_charAt_5068e 1 := ⟨by decide +kernel, rfl, rfl, mw_623, mw_122, ⟨by decide +kernel, by decide +kernel, by decide +kernel⟩, by decide⟩
def P_J0_coder_7d493 : PM := (RJ0, yJ0_coder_7d493, cJ0_coder_7d493, 1, (some FieldType.byte))
theorem cf_J0_coder_7d493 : CF P_J0_coder_7d493 0 := ⟨by decide +kernel, rfl, rfl, mw_617, mw_122, ⟨by decide +kernel, by decide +kernel, by decide +kernel⟩, by decide⟩
def P_J0_isLatin1_aae02 : PM := (RJ0, yJ0_isLatin1_aae02, cJ0_isLatin1_aae02, 1, (some FieldType.boolean))
theorem cf_J0_isLatin1_aae02 : CF P_J0_isLatin1_aae02 0 := ⟨by decide +kernel, rfl, rfl, mw_627, mw_122, ⟨by decide +kernel, by decide +kernel, by decide +kernel⟩, by decide⟩
def P_J0_checkIndex_df160 : PM := (RJ0, yJ0_checkIndex_df160, cJ0_checkIndex_df160, 2, none)
theorem cf_J0_checkIndex_df160 : CF P_J0_checkIndex_df160 2 := ⟨by decide +kernel, rfl, rfl, mw_633, mw_122, ⟨by decide +kernel, by decide +kernel, by decide +kernel⟩, by decide⟩
def P_J1_charAt_3b067 : PM := (RJ1, yJ1_charAt_3b067, cJ1_charAt_3b067, 2, (some FieldType.char))
theorem cf_J1_charAt_3b067 : CF P_J1_charAt_3b067 2 := ⟨by decide +kernel, rfl, rfl, mw_630, mw_123, ⟨by decide +kernel, by decide +kernel, by decide +kernel⟩, by decide⟩
def P_J3_checkIndex_8e157 : PM := (RJ3, yJ3_checkIndex_8e157, cJ3_checkIndex_8e157, 3, (some FieldType.int))
theorem cf_J3_checkIndex_8e157 : CF P_J3_checkIndex_8e157 3 := ⟨by decide +kernel, rfl, rfl, mw_638, mw_124, ⟨by decide +kernel, by decide +kernel, by decide +kernel⟩, by decide⟩
def imax (x y : Int) : Int := if x < y then y else x
def imin (x y : Int) : Int := if y < x then y else x
def iabs (x : Int) : Int := if 0 ≤ x then x else w32 (0 - x)
section PMATH
variable {g : PG} {b : Bool} {d : Nat} {M : PM} {pc : Nat} {ls st : List PV} {N : Nat} {σ : PS} {N' : Nat} {Q : Int → PS → Prop}
theorem E_mmax {x y : Int} {idx : Nat} (pc' : Nat) (hd : decode M.2.2.1 pc = .ok (.invokestatic idx, 3)) (hl : Cond.methodLink M.1 idx Lib.Math.max.name ∈ WS) (hw : wsum st ≤ 8) (hN1 : N ≤ N') (hp : pc + 3 = pc') (k : XX g b (d + 1) M pc' ls ((0, imax x y) :: st) N σ N' Q) : XX g b (d + 1) M pc ls ((0, y) :: (0, x) :: st) N σ N' Q := by
  intro p l e R s m args below meth c H locs N0 rls Qf C hN hR hL ho hs hret
  subst hp
  have hts := C.2.2.2.2.2.2.1
  have hfr := C.2.2.2.2.2.2.2.2.1
  have hlo := C.2.2.2.2.2.2.2.2.2.1
  have m1 := SL_mono hN1
  have hx : in32 x := (okl_c (okl_c hs).2).1.1 rfl
  have hy : in32 y := (okl_c hs).1.1 rfl
  have e1 : (if Int32.ofInt x < Int32.ofInt y then Int32.ofInt y else Int32.ofInt x) = Int32.ofInt (imax x y) := by
    unfold imax
    by_cases h : x < y
    · rw [if_pos h, if_pos ((i32lt hx hy).mpr h)]
    · rw [if_neg h, if_neg (fun z => h ((i32lt hx hy).mp z))]
  have hok : in32 (imax x y) := by
    unfold imax
    split
    · exact hy
    · exact hx
  have hk9 := k p l e R s m args below meth c H locs N0 rls Qf C hN hR hL ho (okl_k (okv0 hok) (okl_c (okl_c hs).2).2) hret
  refine va_mmax C.1 C.2.1 (C.2.2.1.trans hL.1.symm) C.2.2.2.2.2.1 (hts _ hl) (hts _ mw_838) (hts _ mw_128) (hts _ mw_839) (by omega) (by rw [wsum_eq]; omega) (by have := C.2.2.2.2.2.2.2.2.2.2.1; omega) (by have := C.2.2.2.2.2.2.2.2.2.2.2.1; omega) hd ?_
  first | (rw [e1]; exact hk9) | (have e2 := e1; simp only [gt_iff_lt] at e2 ⊢; rw [e2]; exact hk9) | (show W _ _ _ _ _ _ _ _ _ _ _ _ _ _ _ (F0 m _ rls (.int (if Int32.ofInt x < Int32.ofInt y then Int32.ofInt y else Int32.ofInt x) :: _)); rw [e1]; exact hk9)
theorem E_mmin {x y : Int} {idx : Nat} (pc' : Nat) (hd : decode M.2.2.1 pc = .ok (.invokestatic idx, 3)) (hl : Cond.methodLink M.1 idx Lib.Math.min.name ∈ WS) (hw : wsum st ≤ 8) (hN1 : N ≤ N') (hp : pc + 3 = pc') (k : XX g b (d + 1) M pc' ls ((0, imin x y) :: st) N σ N' Q) : XX g b (d + 1) M pc ls ((0, y) :: (0, x) :: st) N σ N' Q := by
  intro p l e R s m args below meth c H locs N0 rls Qf C hN hR hL ho hs hret
  subst hp
  have hts := C.2.2.2.2.2.2.1
  have hfr := C.2.2.2.2.2.2.2.2.1
  have hlo := C.2.2.2.2.2.2.2.2.2.1
  have m1 := SL_mono hN1
  have hx : in32 x := (okl_c (okl_c hs).2).1.1 rfl
  have hy : in32 y := (okl_c hs).1.1 rfl
  have e1 : (if Int32.ofInt y < Int32.ofInt x then Int32.ofInt y else Int32.ofInt x) = Int32.ofInt (imin x y) := by
    unfold imin
    by_cases h : y < x
    · rw [if_pos h, if_pos ((i32lt hy hx).mpr h)]
    · rw [if_neg h, if_neg (fun z => h ((i32lt hy hx).mp z))]
  have hok : in32 (imin x y) := by
    unfold imin
    split
    · exact hy
    · exact hx
  have hk9 := k p l e R s m args below meth c H locs N0 rls Qf C hN hR hL ho (okl_k (okv0 hok) (okl_c (okl_c hs).2).2) hret
  refine va_mmin C.1 C.2.1 (C.2.2.1.trans hL.1.symm) C.2.2.2.2.2.1 (hts _ hl) (hts _ mw_835) (hts _ mw_128) (hts _ mw_836) (by omega) (by rw [wsum_eq]; omega) (by have := C.2.2.2.2.2.2.2.2.2.2.1; omega) (by have := C.2.2.2.2.2.2.2.2.2.2.2.1; omega) hd ?_
  first | (rw [e1]; exact hk9) | (have e2 := e1; simp only [gt_iff_lt] at e2 ⊢; rw [e2]; exact hk9) | (show W _ _ _ _ _ _ _ _ _ _ _ _ _ _ _ (F0 m _ rls (.int (if Int32.ofInt y < Int32.ofInt x then Int32.ofInt y else Int32.ofInt x) :: _)); rw [e1]; exact hk9)
theorem E_mabs {x : Int} {idx : Nat} (pc' : Nat) (hd : decode M.2.2.1 pc = .ok (.invokestatic idx, 3)) (hl : Cond.methodLink M.1 idx Lib.Math.abs.name ∈ WS) (hw : wsum st ≤ 8) (hN1 : N ≤ N') (hp : pc + 3 = pc') (k : XX g b (d + 1) M pc' ls ((0, iabs x) :: st) N σ N' Q) : XX g b (d + 1) M pc ls ((0, x) :: st) N σ N' Q := by
  intro p l e R s m args below meth c H locs N0 rls Qf C hN hR hL ho hs hret
  subst hp
  have hts := C.2.2.2.2.2.2.1
  have hfr := C.2.2.2.2.2.2.2.2.1
  have hlo := C.2.2.2.2.2.2.2.2.2.1
  have m1 := SL_mono hN1
  have hx : in32 x := (okl_c hs).1.1 rfl
  have e1 : (if 0 ≤ Int32.ofInt x then Int32.ofInt x else 0 - Int32.ofInt x) = Int32.ofInt (iabs x) := by
    unfold iabs
    rw [← zof]
    by_cases h : 0 ≤ x
    · rw [if_pos h, if_pos ((i32le in32_0 hx).mpr h)]
    · rw [if_neg h, if_neg (fun z => h ((i32le in32_0 hx).mp z)), ofInt_w32, Int32.ofInt_sub]
  have hok : in32 (iabs x) := by
    unfold iabs
    split
    · exact hx
    · exact w32_in _
  have hk9 := k p l e R s m args below meth c H locs N0 rls Qf C hN hR hL ho (okl_k (okv0 hok) (okl_c hs).2) hret
  refine va_mabs C.1 C.2.1 (C.2.2.1.trans hL.1.symm) C.2.2.2.2.2.1 (hts _ hl) (hts _ mw_823) (hts _ mw_128) (hts _ mw_824) (by omega) (by rw [wsum_eq]; omega) (by have := C.2.2.2.2.2.2.2.2.2.2.1; omega) (by have := C.2.2.2.2.2.2.2.2.2.2.2.1; omega) hd ?_
  first | (rw [e1]; exact hk9) | (have e2 := e1; simp only [gt_iff_lt] at e2 ⊢; rw [e2]; exact hk9) | (show W _ _ _ _ _ _ _ _ _ _ _ _ _ _ _ (F0 m _ rls (.int (if 0 ≤ Int32.ofInt x then Int32.ofInt x else 0 - Int32.ofInt x) :: _)); rw [e1]; exact hk9)
end PMATH
theorem fl_X0_11 : FLk RX0 11 0 0 "[I" true := ⟨_, rfl, by decide, rfl, rfl, mw_383, rfl⟩
theorem fl_X0_17 : FLk RX0 17 0 1 "[I" true := ⟨_, rfl, by decide, rfl, rfl, mw_384, rfl⟩
theorem fl_X0_37 : FLk RX0 37 7 5 "J" false := ⟨_, rfl, by decide, rfl, rfl, mw_305, rfl⟩
theorem fl_X0_47 : FLk RX0 47 7 3 "[I" true := ⟨_, rfl, by decide, rfl, rfl, mw_295, rfl⟩
theorem fl_X0_50 : FLk RX0 50 7 6 "J" false := ⟨_, rfl, by decide, rfl, rfl, mw_308, rfl⟩
theorem fl_X0_60 : FLk RX0 60 7 11 "I" false := ⟨_, rfl, by decide, rfl, rfl, mw_325, rfl⟩
theorem fl_X0_64 : FLk RX0 64 7 7 "[I" true := ⟨_, rfl, by decide, rfl, rfl, mw_311, rfl⟩
theorem fl_X0_67 : FLk RX0 67 7 1 "[I" true := ⟨_, rfl, by decide, rfl, rfl, mw_287, rfl⟩
theorem fl_X0_70 : FLk RX0 70 7 2 "[I" true := ⟨_, rfl, by decide, rfl, rfl, mw_293, rfl⟩
theorem fl_X0_73 : FLk RX0 73 7 0 "I" false := ⟨_, rfl, by decide, rfl, rfl, mw_282, rfl⟩
theorem fl_X0_76 : FLk RX0 76 7 9 "[I" true := ⟨_, rfl, by decide, rfl, rfl, mw_318, rfl⟩
theorem fl_X0_83 : FLk RX0 83 4 3 "I" false := ⟨_, rfl, by decide, rfl, rfl, mw_187, rfl⟩
theorem fl_X0_88 : FLk RX0 88 4 2 "[I" true := ⟨_, rfl, by decide, rfl, rfl, mw_185, rfl⟩
theorem fl_X0_91 : FLk RX0 91 4 1 "[I" true := ⟨_, rfl, by decide, rfl, rfl, mw_183, rfl⟩
theorem fl_X0_98 : FLk RX0 98 4 0 "[I" true := ⟨_, rfl, by decide, rfl, rfl, mw_181, rfl⟩
theorem fl_X1_9 : FLk RX1 9 1 0 "[I" true := ⟨_, rfl, by decide, rfl, rfl, mw_213, rfl⟩
theorem fl_X2_11 : FLk RX2 11 2 1 "[I" true := ⟨_, rfl, by decide, rfl, rfl, mw_458, rfl⟩
theorem fl_X2_17 : FLk RX2 17 2 2 "[I" true := ⟨_, rfl, by decide, rfl, rfl, mw_459, rfl⟩
theorem fl_X2_20 : FLk RX2 20 2 0 "LNoTwoTogether$Asker;" true := ⟨_, rfl, by decide, rfl, rfl, mw_457, rfl⟩
theorem fl_X2_24 : FLk RX2 24 7 0 "I" false := ⟨_, rfl, by decide, rfl, rfl, mw_280, rfl⟩
theorem fl_X2_28 : FLk RX2 28 9 0 "LNoTwoTogether$Lines;" true := ⟨_, rfl, by decide, rfl, rfl, mw_251, rfl⟩
theorem fl_X2_34 : FLk RX2 34 7 5 "J" false := ⟨_, rfl, by decide, rfl, rfl, mw_302, rfl⟩
theorem fl_X2_54 : FLk RX2 54 7 11 "I" false := ⟨_, rfl, by decide, rfl, rfl, mw_323, rfl⟩
theorem fl_X2_57 : FLk RX2 57 9 3 "LNoTwoTogether$Breaks;" true := ⟨_, rfl, by decide, rfl, rfl, mw_260, rfl⟩
theorem fl_X2_67 : FLk RX2 67 7 12 "I" false := ⟨_, rfl, by decide, rfl, rfl, mw_327, rfl⟩
theorem fl_X2_70 : FLk RX2 70 7 13 "I" false := ⟨_, rfl, by decide, rfl, rfl, mw_330, rfl⟩
theorem fl_X2_73 : FLk RX2 73 7 9 "[I" true := ⟨_, rfl, by decide, rfl, rfl, mw_317, rfl⟩
theorem fl_X2_84 : FLk RX2 84 7 2 "[I" true := ⟨_, rfl, by decide, rfl, rfl, mw_291, rfl⟩
theorem fl_X2_87 : FLk RX2 87 7 15 "I" false := ⟨_, rfl, by decide, rfl, rfl, mw_337, rfl⟩
theorem fl_X2_90 : FLk RX2 90 7 16 "I" false := ⟨_, rfl, by decide, rfl, rfl, mw_340, rfl⟩
theorem fl_X2_107 : FLk RX2 107 7 8 "[I" true := ⟨_, rfl, by decide, rfl, rfl, mw_315, rfl⟩
theorem fl_X2_110 : FLk RX2 110 7 1 "[I" true := ⟨_, rfl, by decide, rfl, rfl, mw_288, rfl⟩
theorem fl_X2_113 : FLk RX2 113 7 14 "I" false := ⟨_, rfl, by decide, rfl, rfl, mw_333, rfl⟩
theorem fl_X2_116 : FLk RX2 116 7 4 "[I" true := ⟨_, rfl, by decide, rfl, rfl, mw_298, rfl⟩
theorem fl_X3_11 : FLk RX3 11 3 1 "[J" false := ⟨_, rfl, by decide, rfl, rfl, mw_423, rfl⟩
theorem fl_X3_15 : FLk RX3 15 3 2 "[J" false := ⟨_, rfl, by decide, rfl, rfl, mw_424, rfl⟩
theorem fl_X3_18 : FLk RX3 18 3 3 "[Z" true := ⟨_, rfl, by decide, rfl, rfl, mw_425, rfl⟩
theorem fl_X3_22 : FLk RX3 22 3 4 "[I" true := ⟨_, rfl, by decide, rfl, rfl, mw_426, rfl⟩
theorem fl_X3_26 : FLk RX3 26 3 5 "[I" true := ⟨_, rfl, by decide, rfl, rfl, mw_427, rfl⟩
theorem fl_X3_29 : FLk RX3 29 3 6 "[J" true := ⟨_, rfl, by decide, rfl, rfl, mw_428, rfl⟩
theorem fl_X3_32 : FLk RX3 32 3 0 "LNoTwoTogether$Asker;" true := ⟨_, rfl, by decide, rfl, rfl, mw_422, rfl⟩
theorem fl_X3_36 : FLk RX3 36 7 0 "I" false := ⟨_, rfl, by decide, rfl, rfl, mw_278, rfl⟩
theorem fl_X3_48 : FLk RX3 48 3 7 "I" false := ⟨_, rfl, by decide, rfl, rfl, mw_429, rfl⟩
theorem fl_X3_49 : FLk RX3 49 3 8 "I" false := ⟨_, rfl, by decide, rfl, rfl, mw_430, rfl⟩
theorem fl_X3_64 : FLk RX3 64 7 5 "J" false := ⟨_, rfl, by decide, rfl, rfl, mw_303, rfl⟩
theorem fl_X4_9 : FLk RX4 9 4 0 "[I" true := ⟨_, rfl, by decide, rfl, rfl, mw_180, rfl⟩
theorem fl_X4_15 : FLk RX4 15 4 1 "[I" true := ⟨_, rfl, by decide, rfl, rfl, mw_182, rfl⟩
theorem fl_X4_18 : FLk RX4 18 4 2 "[I" true := ⟨_, rfl, by decide, rfl, rfl, mw_184, rfl⟩
theorem fl_X4_21 : FLk RX4 21 4 3 "I" false := ⟨_, rfl, by decide, rfl, rfl, mw_186, rfl⟩
theorem fl_X4_25 : FLk RX4 25 4 4 "I" false := ⟨_, rfl, by decide, rfl, rfl, mw_188, rfl⟩
theorem fl_X5_11 : FLk RX5 11 5 1 "[I" true := ⟨_, rfl, by decide, rfl, rfl, mw_397, rfl⟩
theorem fl_X5_17 : FLk RX5 17 5 2 "[J" false := ⟨_, rfl, by decide, rfl, rfl, mw_398, rfl⟩
theorem fl_X5_21 : FLk RX5 21 5 3 "[J" false := ⟨_, rfl, by decide, rfl, rfl, mw_399, rfl⟩
theorem fl_X5_24 : FLk RX5 24 5 4 "[J" false := ⟨_, rfl, by decide, rfl, rfl, mw_400, rfl⟩
theorem fl_X5_27 : FLk RX5 27 5 5 "[J" false := ⟨_, rfl, by decide, rfl, rfl, mw_401, rfl⟩
theorem fl_X5_30 : FLk RX5 30 5 0 "LNoTwoTogether$Asker;" true := ⟨_, rfl, by decide, rfl, rfl, mw_396, rfl⟩
theorem fl_X5_34 : FLk RX5 34 7 0 "I" false := ⟨_, rfl, by decide, rfl, rfl, mw_279, rfl⟩
theorem fl_X5_38 : FLk RX5 38 7 5 "J" false := ⟨_, rfl, by decide, rfl, rfl, mw_301, rfl⟩
theorem fl_X5_46 : FLk RX5 46 9 0 "LNoTwoTogether$Lines;" true := ⟨_, rfl, by decide, rfl, rfl, mw_252, rfl⟩
theorem fl_X5_61 : FLk RX5 61 9 3 "LNoTwoTogether$Breaks;" true := ⟨_, rfl, by decide, rfl, rfl, mw_259, rfl⟩
theorem fl_X6_12 : FLk RX6 12 6 1 "LNoTwoTogether$Lines;" true := ⟨_, rfl, by decide, rfl, rfl, mw_218, rfl⟩
theorem fl_X6_21 : FLk RX6 21 6 2 "LNoTwoTogether$Breaks;" true := ⟨_, rfl, by decide, rfl, rfl, mw_220, rfl⟩
theorem fl_X6_25 : FLk RX6 25 6 0 "LNoTwoTogether$Tape;" true := ⟨_, rfl, by decide, rfl, rfl, mw_217, rfl⟩
theorem fl_X6_32 : FLk RX6 32 6 5 "Z" false := ⟨_, rfl, by decide, rfl, rfl, mw_226, rfl⟩
theorem fl_X6_56 : FLk RX6 56 6 3 "I" false := ⟨_, rfl, by decide, rfl, rfl, mw_222, rfl⟩
theorem fl_X6_60 : FLk RX6 60 6 4 "I" false := ⟨_, rfl, by decide, rfl, rfl, mw_224, rfl⟩
theorem fl_X6_63 : FLk RX6 63 8 2 "[I" true := ⟨_, rfl, by decide, rfl, rfl, mw_147, rfl⟩
theorem fl_X6_67 : FLk RX6 67 8 5 "I" false := ⟨_, rfl, by decide, rfl, rfl, mw_152, rfl⟩
theorem fl_X7_11 : FLk RX7 11 7 1 "[I" true := ⟨_, rfl, by decide, rfl, rfl, mw_284, rfl⟩
theorem fl_X7_15 : FLk RX7 15 7 2 "[I" true := ⟨_, rfl, by decide, rfl, rfl, mw_289, rfl⟩
theorem fl_X7_18 : FLk RX7 18 7 3 "[I" true := ⟨_, rfl, by decide, rfl, rfl, mw_294, rfl⟩
theorem fl_X7_21 : FLk RX7 21 7 4 "[I" true := ⟨_, rfl, by decide, rfl, rfl, mw_297, rfl⟩
theorem fl_X7_24 : FLk RX7 24 7 7 "[I" true := ⟨_, rfl, by decide, rfl, rfl, mw_310, rfl⟩
theorem fl_X7_27 : FLk RX7 27 7 8 "[I" true := ⟨_, rfl, by decide, rfl, rfl, mw_313, rfl⟩
theorem fl_X7_30 : FLk RX7 30 7 9 "[I" true := ⟨_, rfl, by decide, rfl, rfl, mw_316, rfl⟩
theorem fl_X7_33 : FLk RX7 33 7 0 "I" false := ⟨_, rfl, by decide, rfl, rfl, mw_277, rfl⟩
theorem fl_X7_37 : FLk RX7 37 7 5 "J" false := ⟨_, rfl, by decide, rfl, rfl, mw_300, rfl⟩
theorem fl_X7_41 : FLk RX7 41 7 6 "J" false := ⟨_, rfl, by decide, rfl, rfl, mw_307, rfl⟩
theorem fl_X7_44 : FLk RX7 44 7 15 "I" false := ⟨_, rfl, by decide, rfl, rfl, mw_336, rfl⟩
theorem fl_X7_47 : FLk RX7 47 7 16 "I" false := ⟨_, rfl, by decide, rfl, rfl, mw_339, rfl⟩
theorem fl_X7_56 : FLk RX7 56 7 11 "I" false := ⟨_, rfl, by decide, rfl, rfl, mw_324, rfl⟩
theorem fl_X7_62 : FLk RX7 62 7 10 "I" false := ⟨_, rfl, by decide, rfl, rfl, mw_322, rfl⟩
theorem fl_X7_72 : FLk RX7 72 7 12 "I" false := ⟨_, rfl, by decide, rfl, rfl, mw_328, rfl⟩
theorem fl_X7_75 : FLk RX7 75 7 13 "I" false := ⟨_, rfl, by decide, rfl, rfl, mw_331, rfl⟩
theorem fl_X7_78 : FLk RX7 78 7 14 "I" false := ⟨_, rfl, by decide, rfl, rfl, mw_334, rfl⟩
theorem fl_X8_9 : FLk RX8 9 8 0 "[B" true := ⟨_, rfl, by decide, rfl, rfl, mw_144, rfl⟩
theorem fl_X8_13 : FLk RX8 13 8 1 "[I" true := ⟨_, rfl, by decide, rfl, rfl, mw_145, rfl⟩
theorem fl_X8_17 : FLk RX8 17 8 2 "[I" true := ⟨_, rfl, by decide, rfl, rfl, mw_146, rfl⟩
theorem fl_X8_20 : FLk RX8 20 8 3 "[I" true := ⟨_, rfl, by decide, rfl, rfl, mw_148, rfl⟩
theorem fl_X8_23 : FLk RX8 23 8 4 "I" false := ⟨_, rfl, by decide, rfl, rfl, mw_149, rfl⟩
theorem fl_X8_27 : FLk RX8 27 8 5 "I" false := ⟨_, rfl, by decide, rfl, rfl, mw_151, rfl⟩
theorem fl_X9_10 : FLk RX9 10 9 0 "LNoTwoTogether$Lines;" true := ⟨_, rfl, by decide, rfl, rfl, mw_250, rfl⟩
theorem fl_X9_16 : FLk RX9 16 9 1 "LNoTwoTogether$Lines;" true := ⟨_, rfl, by decide, rfl, rfl, mw_254, rfl⟩
theorem fl_X9_19 : FLk RX9 19 9 2 "LNoTwoTogether$Lines;" true := ⟨_, rfl, by decide, rfl, rfl, mw_256, rfl⟩
theorem fl_X9_25 : FLk RX9 25 9 3 "LNoTwoTogether$Breaks;" true := ⟨_, rfl, by decide, rfl, rfl, mw_258, rfl⟩
theorem fl_X10_11 : FLk RX10 11 10 1 "[I" true := ⟨_, rfl, by decide, rfl, rfl, mw_474, rfl⟩
theorem fl_X10_15 : FLk RX10 15 10 0 "LNoTwoTogether$Odds;" true := ⟨_, rfl, by decide, rfl, rfl, mw_473, rfl⟩
theorem fl_X10_31 : FLk RX10 31 7 0 "I" false := ⟨_, rfl, by decide, rfl, rfl, mw_281, rfl⟩
theorem fl_X10_45 : FLk RX10 45 7 5 "J" false := ⟨_, rfl, by decide, rfl, rfl, mw_304, rfl⟩
theorem fl_X10_51 : FLk RX10 51 7 2 "[I" true := ⟨_, rfl, by decide, rfl, rfl, mw_290, rfl⟩
theorem fl_X10_64 : FLk RX10 64 7 1 "[I" true := ⟨_, rfl, by decide, rfl, rfl, mw_285, rfl⟩
theorem fl_X10_92 : FLk RX10 92 7 9 "[I" true := ⟨_, rfl, by decide, rfl, rfl, mw_320, rfl⟩
theorem fl_X11_12 : FLk RX11 12 11 0 "LNoTwoTogether$Tape;" true := ⟨_, rfl, by decide, rfl, rfl, mw_485, rfl⟩
theorem fl_X11_21 : FLk RX11 21 11 1 "LNoTwoTogether$Parser;" true := ⟨_, rfl, by decide, rfl, rfl, mw_486, rfl⟩
theorem fl_X11_28 : FLk RX11 28 11 2 "LNoTwoTogether$Texts;" true := ⟨_, rfl, by decide, rfl, rfl, mw_487, rfl⟩
theorem fl_X11_32 : FLk RX11 32 11 3 "LNoTwoTogether$Texts;" true := ⟨_, rfl, by decide, rfl, rfl, mw_488, rfl⟩
theorem fl_X11_38 : FLk RX11 38 11 4 "LNoTwoTogether$Row;" true := ⟨_, rfl, by decide, rfl, rfl, mw_489, rfl⟩
theorem fl_X11_42 : FLk RX11 42 11 5 "LNoTwoTogether$Row;" true := ⟨_, rfl, by decide, rfl, rfl, mw_490, rfl⟩
theorem fl_X11_45 : FLk RX11 45 11 6 "LNoTwoTogether$Row;" true := ⟨_, rfl, by decide, rfl, rfl, mw_491, rfl⟩
theorem fl_X11_51 : FLk RX11 51 11 7 "LNoTwoTogether$Asker;" true := ⟨_, rfl, by decide, rfl, rfl, mw_492, rfl⟩
theorem fl_X11_60 : FLk RX11 60 11 8 "LNoTwoTogether$Odds;" true := ⟨_, rfl, by decide, rfl, rfl, mw_493, rfl⟩
theorem fl_X11_67 : FLk RX11 67 11 9 "LNoTwoTogether$Future;" true := ⟨_, rfl, by decide, rfl, rfl, mw_494, rfl⟩
theorem fl_X11_74 : FLk RX11 74 11 10 "LNoTwoTogether$Bridge;" true := ⟨_, rfl, by decide, rfl, rfl, mw_495, rfl⟩
theorem fl_X11_83 : FLk RX11 83 11 11 "LNoTwoTogether$Tries;" true := ⟨_, rfl, by decide, rfl, rfl, mw_496, rfl⟩
theorem fl_X11_87 : FLk RX11 87 11 14 "I" false := ⟨_, rfl, by decide, rfl, rfl, mw_499, rfl⟩
theorem fl_X11_95 : FLk RX11 95 7 10 "I" false := ⟨_, rfl, by decide, rfl, rfl, mw_321, rfl⟩
theorem fl_X11_102 : FLk RX11 102 7 1 "[I" true := ⟨_, rfl, by decide, rfl, rfl, mw_286, rfl⟩
theorem fl_X11_106 : FLk RX11 106 7 2 "[I" true := ⟨_, rfl, by decide, rfl, rfl, mw_292, rfl⟩
theorem fl_X11_109 : FLk RX11 109 7 5 "J" false := ⟨_, rfl, by decide, rfl, rfl, mw_306, rfl⟩
theorem fl_X11_115 : FLk RX11 115 7 7 "[I" true := ⟨_, rfl, by decide, rfl, rfl, mw_312, rfl⟩
theorem fl_X11_118 : FLk RX11 118 7 8 "[I" true := ⟨_, rfl, by decide, rfl, rfl, mw_314, rfl⟩
theorem fl_X11_127 : FLk RX11 127 7 9 "[I" true := ⟨_, rfl, by decide, rfl, rfl, mw_319, rfl⟩
theorem fl_X11_130 : FLk RX11 130 8 4 "I" false := ⟨_, rfl, by decide, rfl, rfl, mw_150, rfl⟩
theorem fl_X11_136 : FLk RX11 136 11 13 "I" false := ⟨_, rfl, by decide, rfl, rfl, mw_498, rfl⟩
theorem fl_X11_147 : FLk RX11 147 6 3 "I" false := ⟨_, rfl, by decide, rfl, rfl, mw_223, rfl⟩
theorem fl_X11_148 : FLk RX11 148 6 4 "I" false := ⟨_, rfl, by decide, rfl, rfl, mw_225, rfl⟩
theorem fl_X11_157 : FLk RX11 157 7 3 "[I" true := ⟨_, rfl, by decide, rfl, rfl, mw_296, rfl⟩
theorem fl_X11_160 : FLk RX11 160 7 6 "J" false := ⟨_, rfl, by decide, rfl, rfl, mw_309, rfl⟩
theorem fl_X11_163 : FLk RX11 163 9 0 "LNoTwoTogether$Lines;" true := ⟨_, rfl, by decide, rfl, rfl, mw_253, rfl⟩
theorem fl_X11_178 : FLk RX11 178 9 1 "LNoTwoTogether$Lines;" true := ⟨_, rfl, by decide, rfl, rfl, mw_255, rfl⟩
theorem fl_X11_184 : FLk RX11 184 9 2 "LNoTwoTogether$Lines;" true := ⟨_, rfl, by decide, rfl, rfl, mw_257, rfl⟩
theorem fl_X11_187 : FLk RX11 187 7 4 "[I" true := ⟨_, rfl, by decide, rfl, rfl, mw_299, rfl⟩
theorem fl_X11_193 : FLk RX11 193 7 0 "I" false := ⟨_, rfl, by decide, rfl, rfl, mw_283, rfl⟩
theorem fl_X11_196 : FLk RX11 196 9 3 "LNoTwoTogether$Breaks;" true := ⟨_, rfl, by decide, rfl, rfl, mw_261, rfl⟩
theorem fl_X11_206 : FLk RX11 206 7 11 "I" false := ⟨_, rfl, by decide, rfl, rfl, mw_326, rfl⟩
theorem fl_X11_209 : FLk RX11 209 7 12 "I" false := ⟨_, rfl, by decide, rfl, rfl, mw_329, rfl⟩
theorem fl_X11_258 : FLk RX11 258 7 13 "I" false := ⟨_, rfl, by decide, rfl, rfl, mw_332, rfl⟩
theorem fl_X11_261 : FLk RX11 261 7 14 "I" false := ⟨_, rfl, by decide, rfl, rfl, mw_335, rfl⟩
theorem fl_X11_280 : FLk RX11 280 11 12 "Z" false := ⟨_, rfl, by decide, rfl, rfl, mw_497, rfl⟩
theorem fl_X11_290 : FLk RX11 290 7 15 "I" false := ⟨_, rfl, by decide, rfl, rfl, mw_338, rfl⟩
theorem fl_X11_293 : FLk RX11 293 7 16 "I" false := ⟨_, rfl, by decide, rfl, rfl, mw_341, rfl⟩
theorem fl_X11_296 : FLk RX11 296 6 2 "LNoTwoTogether$Breaks;" true := ⟨_, rfl, by decide, rfl, rfl, mw_221, rfl⟩
theorem fl_X11_304 : FLk RX11 304 6 1 "LNoTwoTogether$Lines;" true := ⟨_, rfl, by decide, rfl, rfl, mw_219, rfl⟩
theorem fl_X12_7 : FLk RX12 7 12 2 "I" false := ⟨_, rfl, by decide, rfl, rfl, mw_1119, rfl⟩
theorem fl_X12_13 : FLk RX12 13 12 3 "[I" true := ⟨_, rfl, by decide, rfl, rfl, mw_1120, rfl⟩
theorem fl_X12_17 : FLk RX12 17 12 4 "[I" true := ⟨_, rfl, by decide, rfl, rfl, mw_1121, rfl⟩
theorem fl_X12_20 : FLk RX12 20 12 5 "[I" true := ⟨_, rfl, by decide, rfl, rfl, mw_1122, rfl⟩
theorem fl_X12_23 : FLk RX12 23 12 6 "[I" true := ⟨_, rfl, by decide, rfl, rfl, mw_1123, rfl⟩
theorem fl_X12_26 : FLk RX12 26 12 7 "[I" true := ⟨_, rfl, by decide, rfl, rfl, mw_1124, rfl⟩
theorem fl_X12_29 : FLk RX12 29 12 8 "[I" true := ⟨_, rfl, by decide, rfl, rfl, mw_1125, rfl⟩
theorem fl_X12_32 : FLk RX12 32 12 9 "[I" true := ⟨_, rfl, by decide, rfl, rfl, mw_1126, rfl⟩
theorem fl_X12_35 : FLk RX12 35 12 10 "[I" true := ⟨_, rfl, by decide, rfl, rfl, mw_1127, rfl⟩
theorem fl_X12_38 : FLk RX12 38 12 11 "[I" true := ⟨_, rfl, by decide, rfl, rfl, mw_1128, rfl⟩
theorem fl_X12_41 : FLk RX12 41 12 17 "I" false := ⟨_, rfl, by decide, rfl, rfl, mw_1134, rfl⟩
theorem fl_X12_44 : FLk RX12 44 12 18 "[I" true := ⟨_, rfl, by decide, rfl, rfl, mw_1135, rfl⟩
theorem fl_X12_47 : FLk RX12 47 12 24 "[I" true := ⟨_, rfl, by decide, rfl, rfl, mw_1141, rfl⟩
theorem fl_X12_50 : FLk RX12 50 12 25 "[I" true := ⟨_, rfl, by decide, rfl, rfl, mw_1142, rfl⟩
theorem fl_X12_53 : FLk RX12 53 12 26 "[I" true := ⟨_, rfl, by decide, rfl, rfl, mw_1143, rfl⟩
theorem fl_X12_56 : FLk RX12 56 12 27 "[I" true := ⟨_, rfl, by decide, rfl, rfl, mw_1144, rfl⟩
theorem fl_X12_59 : FLk RX12 59 12 28 "[I" true := ⟨_, rfl, by decide, rfl, rfl, mw_1145, rfl⟩
theorem fl_X12_62 : FLk RX12 62 12 29 "[I" true := ⟨_, rfl, by decide, rfl, rfl, mw_1146, rfl⟩
theorem fl_X12_65 : FLk RX12 65 12 30 "[I" true := ⟨_, rfl, by decide, rfl, rfl, mw_1147, rfl⟩
theorem fl_X12_68 : FLk RX12 68 12 34 "[I" true := ⟨_, rfl, by decide, rfl, rfl, mw_1151, rfl⟩
theorem fl_X12_71 : FLk RX12 71 12 39 "I" false := ⟨_, rfl, by decide, rfl, rfl, mw_1156, rfl⟩
theorem fl_X12_74 : FLk RX12 74 12 41 "[I" true := ⟨_, rfl, by decide, rfl, rfl, mw_1158, rfl⟩
theorem fl_X12_77 : FLk RX12 77 12 42 "[I" true := ⟨_, rfl, by decide, rfl, rfl, mw_1159, rfl⟩
theorem fl_X12_80 : FLk RX12 80 12 43 "[I" true := ⟨_, rfl, by decide, rfl, rfl, mw_1160, rfl⟩
theorem fl_X12_83 : FLk RX12 83 12 44 "[I" true := ⟨_, rfl, by decide, rfl, rfl, mw_1161, rfl⟩
theorem fl_X12_86 : FLk RX12 86 12 45 "[I" true := ⟨_, rfl, by decide, rfl, rfl, mw_1162, rfl⟩
theorem fl_X12_89 : FLk RX12 89 12 46 "[I" true := ⟨_, rfl, by decide, rfl, rfl, mw_1163, rfl⟩
theorem fl_X12_92 : FLk RX12 92 12 47 "[I" true := ⟨_, rfl, by decide, rfl, rfl, mw_1164, rfl⟩
theorem fl_X12_95 : FLk RX12 95 12 48 "[I" true := ⟨_, rfl, by decide, rfl, rfl, mw_1165, rfl⟩
theorem fl_X12_98 : FLk RX12 98 12 49 "[I" true := ⟨_, rfl, by decide, rfl, rfl, mw_1166, rfl⟩
theorem fl_X12_101 : FLk RX12 101 12 50 "I" false := ⟨_, rfl, by decide, rfl, rfl, mw_1167, rfl⟩
theorem fl_X12_104 : FLk RX12 104 12 52 "[J" true := ⟨_, rfl, by decide, rfl, rfl, mw_1169, rfl⟩
theorem fl_X12_108 : FLk RX12 108 12 53 "[J" true := ⟨_, rfl, by decide, rfl, rfl, mw_1170, rfl⟩
theorem fl_X12_111 : FLk RX12 111 12 54 "[I" true := ⟨_, rfl, by decide, rfl, rfl, mw_1171, rfl⟩
theorem fl_X12_114 : FLk RX12 114 12 55 "[J" true := ⟨_, rfl, by decide, rfl, rfl, mw_1172, rfl⟩
theorem fl_X12_117 : FLk RX12 117 12 56 "[J" true := ⟨_, rfl, by decide, rfl, rfl, mw_1173, rfl⟩
theorem fl_X12_120 : FLk RX12 120 12 57 "[I" true := ⟨_, rfl, by decide, rfl, rfl, mw_1174, rfl⟩
theorem fl_X12_123 : FLk RX12 123 12 58 "[J" true := ⟨_, rfl, by decide, rfl, rfl, mw_1175, rfl⟩
theorem fl_X12_126 : FLk RX12 126 12 59 "[I" true := ⟨_, rfl, by decide, rfl, rfl, mw_1176, rfl⟩
theorem fl_X12_129 : FLk RX12 129 12 60 "[Z" true := ⟨_, rfl, by decide, rfl, rfl, mw_1177, rfl⟩
theorem fl_X12_133 : FLk RX12 133 12 61 "[J" true := ⟨_, rfl, by decide, rfl, rfl, mw_1178, rfl⟩
theorem fl_X12_136 : FLk RX12 136 12 62 "[J" true := ⟨_, rfl, by decide, rfl, rfl, mw_1179, rfl⟩
theorem fl_X12_139 : FLk RX12 139 12 63 "[I" true := ⟨_, rfl, by decide, rfl, rfl, mw_1180, rfl⟩
theorem fl_X12_142 : FLk RX12 142 12 64 "[I" true := ⟨_, rfl, by decide, rfl, rfl, mw_1181, rfl⟩
theorem fl_X12_145 : FLk RX12 145 12 65 "[I" true := ⟨_, rfl, by decide, rfl, rfl, mw_1182, rfl⟩
theorem fl_X12_148 : FLk RX12 148 12 66 "[I" true := ⟨_, rfl, by decide, rfl, rfl, mw_1183, rfl⟩
theorem fl_X12_151 : FLk RX12 151 12 67 "[I" true := ⟨_, rfl, by decide, rfl, rfl, mw_1184, rfl⟩
theorem fl_X12_154 : FLk RX12 154 12 68 "[I" true := ⟨_, rfl, by decide, rfl, rfl, mw_1185, rfl⟩
theorem fl_X12_157 : FLk RX12 157 12 71 "[I" true := ⟨_, rfl, by decide, rfl, rfl, mw_1188, rfl⟩
theorem fl_X12_160 : FLk RX12 160 12 76 "[I" true := ⟨_, rfl, by decide, rfl, rfl, mw_1193, rfl⟩
theorem fl_X12_163 : FLk RX12 163 12 77 "[I" true := ⟨_, rfl, by decide, rfl, rfl, mw_1194, rfl⟩
theorem fl_X12_166 : FLk RX12 166 12 0 "I" false := ⟨_, rfl, by decide, rfl, rfl, mw_1117, rfl⟩
theorem fl_X12_169 : FLk RX12 169 12 1 "I" false := ⟨_, rfl, by decide, rfl, rfl, mw_1118, rfl⟩
theorem fl_X12_178 : FLk RX12 178 12 16 "I" false := ⟨_, rfl, by decide, rfl, rfl, mw_1133, rfl⟩
theorem fl_X12_192 : FLk RX12 192 12 19 "I" false := ⟨_, rfl, by decide, rfl, rfl, mw_1136, rfl⟩
theorem fl_X12_199 : FLk RX12 199 12 20 "I" false := ⟨_, rfl, by decide, rfl, rfl, mw_1137, rfl⟩
theorem fl_X12_205 : FLk RX12 205 12 21 "I" false := ⟨_, rfl, by decide, rfl, rfl, mw_1138, rfl⟩
theorem fl_X12_208 : FLk RX12 208 12 22 "I" false := ⟨_, rfl, by decide, rfl, rfl, mw_1139, rfl⟩
theorem fl_X12_211 : FLk RX12 211 12 23 "I" false := ⟨_, rfl, by decide, rfl, rfl, mw_1140, rfl⟩
theorem fl_X12_227 : FLk RX12 227 12 36 "I" false := ⟨_, rfl, by decide, rfl, rfl, mw_1153, rfl⟩
theorem fl_X12_230 : FLk RX12 230 12 37 "I" false := ⟨_, rfl, by decide, rfl, rfl, mw_1154, rfl⟩
theorem fl_X12_233 : FLk RX12 233 12 32 "I" false := ⟨_, rfl, by decide, rfl, rfl, mw_1149, rfl⟩
theorem fl_X12_236 : FLk RX12 236 12 31 "Z" false := ⟨_, rfl, by decide, rfl, rfl, mw_1148, rfl⟩
theorem fl_X12_267 : FLk RX12 267 12 35 "I" false := ⟨_, rfl, by decide, rfl, rfl, mw_1152, rfl⟩
theorem fl_X12_270 : FLk RX12 270 12 33 "I" false := ⟨_, rfl, by decide, rfl, rfl, mw_1150, rfl⟩
theorem fl_X12_300 : FLk RX12 300 12 40 "I" false := ⟨_, rfl, by decide, rfl, rfl, mw_1157, rfl⟩
theorem fl_X12_303 : FLk RX12 303 12 38 "I" false := ⟨_, rfl, by decide, rfl, rfl, mw_1155, rfl⟩
theorem fl_X12_334 : FLk RX12 334 12 12 "I" false := ⟨_, rfl, by decide, rfl, rfl, mw_1129, rfl⟩
theorem fl_X12_358 : FLk RX12 358 12 14 "I" false := ⟨_, rfl, by decide, rfl, rfl, mw_1131, rfl⟩
theorem fl_X12_361 : FLk RX12 361 12 15 "I" false := ⟨_, rfl, by decide, rfl, rfl, mw_1132, rfl⟩
theorem fl_X12_382 : FLk RX12 382 12 13 "I" false := ⟨_, rfl, by decide, rfl, rfl, mw_1130, rfl⟩
theorem fl_X12_385 : FLk RX12 385 12 51 "I" false := ⟨_, rfl, by decide, rfl, rfl, mw_1168, rfl⟩
theorem fl_X12_441 : FLk RX12 441 12 70 "I" false := ⟨_, rfl, by decide, rfl, rfl, mw_1187, rfl⟩
theorem fl_X12_444 : FLk RX12 444 12 69 "Z" false := ⟨_, rfl, by decide, rfl, rfl, mw_1186, rfl⟩
theorem fl_X12_454 : FLk RX12 454 12 72 "I" false := ⟨_, rfl, by decide, rfl, rfl, mw_1189, rfl⟩
theorem fl_X12_457 : FLk RX12 457 12 73 "I" false := ⟨_, rfl, by decide, rfl, rfl, mw_1190, rfl⟩
theorem fl_X12_460 : FLk RX12 460 12 74 "I" false := ⟨_, rfl, by decide, rfl, rfl, mw_1191, rfl⟩
theorem fl_X12_469 : FLk RX12 469 12 78 "I" false := ⟨_, rfl, by decide, rfl, rfl, mw_1195, rfl⟩
theorem fl_X12_475 : FLk RX12 475 12 75 "Z" false := ⟨_, rfl, by decide, rfl, rfl, mw_1192, rfl⟩
theorem ac_0 : Fat 136 0 (11, 15) := at_0 (by decide)
theorem ac_1 : Fat 136 1 (8, 6) := at_1 (by decide)
theorem ac_2 : Fat 136 2 (22, 500) := at_2 (by decide)
theorem ac_3 : Fat 136 3 (20, 501) := at_3 (by decide)
theorem ac_4 : Fat 136 4 (20, 501) := at_4 (by decide)
theorem ac_5 : Fat 136 5 (20, 501) := at_5 (by decide)
theorem ac_6 : Fat 136 6 (6, 6) := at_6 (by decide)
theorem ac_7 : Fat 136 7 (4, 5) := at_7 (by decide)
theorem ac_8 : Fat 136 8 (20, 500) := at_8 (by decide)
theorem ac_9 : Fat 136 9 (20, 17) := at_9 (by decide)
theorem ac_10 : Fat 136 10 (20, 16) := at_10 (by decide)
theorem ac_11 : Fat 136 11 (1, 1) := at_11 (by decide)
theorem ac_12 : Fat 136 12 (20, 256) := at_12 (by decide)
theorem ac_13 : Fat 136 13 (9, 4) := at_13 (by decide)
theorem ac_14 : Fat 136 14 (4, 5) := at_14 (by decide)
theorem ac_15 : Fat 136 15 (20, 500) := at_15 (by decide)
theorem ac_16 : Fat 136 16 (20, 17) := at_16 (by decide)
theorem ac_17 : Fat 136 17 (20, 16) := at_17 (by decide)
theorem ac_18 : Fat 136 18 (4, 5) := at_18 (by decide)
theorem ac_19 : Fat 136 19 (20, 500) := at_19 (by decide)
theorem ac_20 : Fat 136 20 (20, 17) := at_20 (by decide)
theorem ac_21 : Fat 136 21 (20, 16) := at_21 (by decide)
theorem ac_22 : Fat 136 22 (4, 5) := at_22 (by decide)
theorem ac_23 : Fat 136 23 (20, 500) := at_23 (by decide)
theorem ac_24 : Fat 136 24 (20, 17) := at_24 (by decide)
theorem ac_25 : Fat 136 25 (20, 16) := at_25 (by decide)
theorem ac_26 : Fat 136 26 (1, 1) := at_26 (by decide)
theorem ac_27 : Fat 136 27 (20, 256) := at_27 (by decide)
theorem ac_28 : Fat 136 28 (9, 4) := at_28 (by decide)
theorem ac_29 : Fat 136 29 (4, 5) := at_29 (by decide)
theorem ac_30 : Fat 136 30 (20, 500) := at_30 (by decide)
theorem ac_31 : Fat 136 31 (20, 17) := at_31 (by decide)
theorem ac_32 : Fat 136 32 (20, 16) := at_32 (by decide)
theorem ac_33 : Fat 136 33 (4, 5) := at_33 (by decide)
theorem ac_34 : Fat 136 34 (20, 500) := at_34 (by decide)
theorem ac_35 : Fat 136 35 (20, 17) := at_35 (by decide)
theorem ac_36 : Fat 136 36 (20, 16) := at_36 (by decide)
theorem ac_37 : Fat 136 37 (4, 5) := at_37 (by decide)
theorem ac_38 : Fat 136 38 (20, 500) := at_38 (by decide)
theorem ac_39 : Fat 136 39 (20, 17) := at_39 (by decide)
theorem ac_40 : Fat 136 40 (20, 16) := at_40 (by decide)
theorem ac_41 : Fat 136 41 (1, 1) := at_41 (by decide)
theorem ac_42 : Fat 136 42 (20, 256) := at_42 (by decide)
theorem ac_43 : Fat 136 43 (7, 17) := at_43 (by decide)
theorem ac_44 : Fat 136 44 (20, 60) := at_44 (by decide)
theorem ac_45 : Fat 136 45 (20, 60) := at_45 (by decide)
theorem ac_46 : Fat 136 46 (20, 60) := at_46 (by decide)
theorem ac_47 : Fat 136 47 (20, 60) := at_47 (by decide)
theorem ac_48 : Fat 136 48 (20, 6) := at_48 (by decide)
theorem ac_49 : Fat 136 49 (20, 6) := at_49 (by decide)
theorem ac_50 : Fat 136 50 (20, 8) := at_50 (by decide)
theorem ac_51 : Fat 136 51 (7, 17) := at_51 (by decide)
theorem ac_52 : Fat 136 52 (20, 60) := at_52 (by decide)
theorem ac_53 : Fat 136 53 (20, 60) := at_53 (by decide)
theorem ac_54 : Fat 136 54 (20, 60) := at_54 (by decide)
theorem ac_55 : Fat 136 55 (20, 60) := at_55 (by decide)
theorem ac_56 : Fat 136 56 (20, 6) := at_56 (by decide)
theorem ac_57 : Fat 136 57 (20, 6) := at_57 (by decide)
theorem ac_58 : Fat 136 58 (20, 8) := at_58 (by decide)
theorem ac_59 : Fat 136 59 (7, 17) := at_59 (by decide)
theorem ac_60 : Fat 136 60 (20, 60) := at_60 (by decide)
theorem ac_61 : Fat 136 61 (20, 60) := at_61 (by decide)
theorem ac_62 : Fat 136 62 (20, 60) := at_62 (by decide)
theorem ac_63 : Fat 136 63 (20, 60) := at_63 (by decide)
theorem ac_64 : Fat 136 64 (20, 6) := at_64 (by decide)
theorem ac_65 : Fat 136 65 (20, 6) := at_65 (by decide)
theorem ac_66 : Fat 136 66 (20, 8) := at_66 (by decide)
theorem ac_67 : Fat 136 67 (0, 2) := at_67 (by decide)
theorem ac_68 : Fat 136 68 (20, 12) := at_68 (by decide)
theorem ac_69 : Fat 136 69 (20, 64) := at_69 (by decide)
theorem ac_70 : Fat 136 70 (5, 6) := at_70 (by decide)
theorem ac_71 : Fat 136 71 (20, 60) := at_71 (by decide)
theorem ac_72 : Fat 136 72 (21, 128) := at_72 (by decide)
theorem ac_73 : Fat 136 73 (21, 128) := at_73 (by decide)
theorem ac_74 : Fat 136 74 (21, 7808) := at_74 (by decide)
theorem ac_75 : Fat 136 75 (21, 7808) := at_75 (by decide)
theorem ac_76 : Fat 136 76 (3, 9) := at_76 (by decide)
theorem ac_77 : Fat 136 77 (21, 1024) := at_77 (by decide)
theorem ac_78 : Fat 136 78 (21, 1024) := at_78 (by decide)
theorem ac_79 : Fat 136 79 (23, 1024) := at_79 (by decide)
theorem ac_80 : Fat 136 80 (20, 30) := at_80 (by decide)
theorem ac_81 : Fat 136 81 (20, 1024) := at_81 (by decide)
theorem ac_82 : Fat 136 82 (21, 1024) := at_82 (by decide)
theorem ac_83 : Fat 136 83 (2, 3) := at_83 (by decide)
theorem ac_84 : Fat 136 84 (20, 60) := at_84 (by decide)
theorem ac_85 : Fat 136 85 (20, 60) := at_85 (by decide)
theorem ac_86 : Fat 136 86 (10, 2) := at_86 (by decide)
theorem ac_87 : Fat 136 87 (20, 7) := at_87 (by decide)
theorem ac_88 : Fat 136 88 (12, 79) := at_88 (by decide)
theorem ac_89 : Fat 136 89 (20, 60) := at_89 (by decide)
theorem ac_90 : Fat 136 90 (20, 60) := at_90 (by decide)
theorem ac_91 : Fat 136 91 (20, 60) := at_91 (by decide)
theorem ac_92 : Fat 136 92 (20, 60) := at_92 (by decide)
theorem ac_93 : Fat 136 93 (20, 60) := at_93 (by decide)
theorem ac_94 : Fat 136 94 (20, 60) := at_94 (by decide)
theorem ac_95 : Fat 136 95 (20, 6) := at_95 (by decide)
theorem ac_96 : Fat 136 96 (20, 6) := at_96 (by decide)
theorem ac_97 : Fat 136 97 (20, 8) := at_97 (by decide)
theorem ac_98 : Fat 136 98 (20, 500) := at_98 (by decide)
theorem ac_99 : Fat 136 99 (20, 117) := at_99 (by decide)
theorem ac_100 : Fat 136 100 (20, 4) := at_100 (by decide)
theorem ac_101 : Fat 136 101 (20, 64) := at_101 (by decide)
theorem ac_102 : Fat 136 102 (20, 64) := at_102 (by decide)
theorem ac_103 : Fat 136 103 (20, 64) := at_103 (by decide)
theorem ac_104 : Fat 136 104 (20, 2000) := at_104 (by decide)
theorem ac_105 : Fat 136 105 (20, 2000) := at_105 (by decide)
theorem ac_106 : Fat 136 106 (20, 40) := at_106 (by decide)
theorem ac_107 : Fat 136 107 (20, 16) := at_107 (by decide)
theorem ac_108 : Fat 136 108 (20, 16) := at_108 (by decide)
theorem ac_109 : Fat 136 109 (20, 16) := at_109 (by decide)
theorem ac_110 : Fat 136 110 (20, 128) := at_110 (by decide)
theorem ac_111 : Fat 136 111 (20, 12) := at_111 (by decide)
theorem ac_112 : Fat 136 112 (20, 520) := at_112 (by decide)
theorem ac_113 : Fat 136 113 (20, 60) := at_113 (by decide)
theorem ac_114 : Fat 136 114 (20, 60) := at_114 (by decide)
theorem ac_115 : Fat 136 115 (20, 60) := at_115 (by decide)
theorem ac_116 : Fat 136 116 (21, 128) := at_116 (by decide)
theorem ac_117 : Fat 136 117 (21, 128) := at_117 (by decide)
theorem ac_118 : Fat 136 118 (20, 60) := at_118 (by decide)
theorem ac_119 : Fat 136 119 (21, 1024) := at_119 (by decide)
theorem ac_120 : Fat 136 120 (21, 1024) := at_120 (by decide)
theorem ac_121 : Fat 136 121 (20, 1024) := at_121 (by decide)
theorem ac_122 : Fat 136 122 (21, 1024) := at_122 (by decide)
theorem ac_123 : Fat 136 123 (20, 10) := at_123 (by decide)
theorem ac_124 : Fat 136 124 (23, 1024) := at_124 (by decide)
theorem ac_125 : Fat 136 125 (21, 7808) := at_125 (by decide)
theorem ac_126 : Fat 136 126 (21, 7808) := at_126 (by decide)
theorem ac_127 : Fat 136 127 (20, 60) := at_127 (by decide)
theorem ac_128 : Fat 136 128 (20, 60) := at_128 (by decide)
theorem ac_129 : Fat 136 129 (20, 60) := at_129 (by decide)
theorem ac_130 : Fat 136 130 (20, 7) := at_130 (by decide)
theorem ac_131 : Fat 136 131 (20, 7) := at_131 (by decide)
theorem ac_132 : Fat 136 132 (20, 31) := at_132 (by decide)
theorem ac_133 : Fat 136 133 (20, 400) := at_133 (by decide)
theorem ac_134 : Fat 136 134 (20, 400) := at_134 (by decide)
theorem ac_135 : Fat 136 135 (20, 3400) := at_135 (by decide)
theorem n01 : (0 : Nat) ≠ 1 := by decide
theorem n21 : (2 : Nat) ≠ 1 := by decide
theorem Fat.bnd {N : Nat} {a : Int} {q : Nat × Nat} (h : Fat N a q) : 0 ≤ a ∧ a < 100000 := ⟨h.1, h.2.2.1⟩
theorem E_conv {g : PG} {b : Bool} {d : Nat} {M : PM} {pc : Nat} {ls st : List PV} {N : Nat} {σ : PS} {N' : Nat} {Q : Int → PS → Prop} {t : Nat} {x y : Int} (e : y = x) (k : XX g b d M pc ls ((t, x) :: st) N σ N' Q) : XX g b d M pc ls ((t, y) :: st) N σ N' Q := by rw [e]; exact k
theorem lc_eq (x y : Int) : lcmpI x y = 0 ↔ x = y := by unfold lcmpI; split <;> (try split) <;> omega
theorem lc_ne (x y : Int) : lcmpI x y ≠ 0 ↔ x ≠ y := by unfold lcmpI; split <;> (try split) <;> omega
theorem lc_lt (x y : Int) : lcmpI x y < 0 ↔ x < y := by unfold lcmpI; split <;> (try split) <;> omega
theorem lc_le (x y : Int) : lcmpI x y ≤ 0 ↔ x ≤ y := by unfold lcmpI; split <;> (try split) <;> omega
theorem lc_gt (x y : Int) : 0 < lcmpI x y ↔ y < x := by unfold lcmpI; split <;> (try split) <;> omega
theorem lc_ge (x y : Int) : 0 ≤ lcmpI x y ↔ y ≤ x := by unfold lcmpI; split <;> (try split) <;> omega
theorem cl_X0 : ∀ q, classes[0]? = some q → q.1 = RX0 := fun q h => by cases h; rfl
theorem cl_X1 : ∀ q, classes[1]? = some q → q.1 = RX1 := fun q h => by cases h; rfl
theorem cl_X2 : ∀ q, classes[2]? = some q → q.1 = RX2 := fun q h => by cases h; rfl
theorem cl_X3 : ∀ q, classes[3]? = some q → q.1 = RX3 := fun q h => by cases h; rfl
theorem cl_X4 : ∀ q, classes[4]? = some q → q.1 = RX4 := fun q h => by cases h; rfl
theorem cl_X5 : ∀ q, classes[5]? = some q → q.1 = RX5 := fun q h => by cases h; rfl
theorem cl_X6 : ∀ q, classes[6]? = some q → q.1 = RX6 := fun q h => by cases h; rfl
theorem cl_X7 : ∀ q, classes[7]? = some q → q.1 = RX7 := fun q h => by cases h; rfl
theorem cl_X8 : ∀ q, classes[8]? = some q → q.1 = RX8 := fun q h => by cases h; rfl
theorem cl_X9 : ∀ q, classes[9]? = some q → q.1 = RX9 := fun q h => by cases h; rfl
theorem cl_X10 : ∀ q, classes[10]? = some q → q.1 = RX10 := fun q h => by cases h; rfl
theorem cl_X11 : ∀ q, classes[11]? = some q → q.1 = RX11 := fun q h => by cases h; rfl
theorem cl_X12 : ∀ q, classes[12]? = some q → q.1 = RX12 := fun q h => by cases h; rfl
theorem nst_X11_11 : ∃ h, ((RX11, 11, yX8_init, h) : String × Nat × MethodName × String) ∈ nestW := ⟨"NoTwoTogether", by decide +kernel⟩
theorem nst_X6_11 : ∃ h, ((RX6, 11, yX4_init, h) : String × Nat × MethodName × String) ∈ nestW := ⟨"NoTwoTogether", by decide +kernel⟩
theorem nst_X11_27 : ∃ h, ((RX11, 27, yX9_init, h) : String × Nat × MethodName × String) ∈ nestW := ⟨"NoTwoTogether", by decide +kernel⟩
theorem nst_X9_9 : ∃ h, ((RX9, 9, yX4_init, h) : String × Nat × MethodName × String) ∈ nestW := ⟨"NoTwoTogether", by decide +kernel⟩
theorem nst_X11_37 : ∃ h, ((RX11, 37, yX7_init, h) : String × Nat × MethodName × String) ∈ nestW := ⟨"NoTwoTogether", by decide +kernel⟩
theorem nst_X11_50 : ∃ h, ((RX11, 50, yX0_init, h) : String × Nat × MethodName × String) ∈ nestW := ⟨"NoTwoTogether", by decide +kernel⟩
theorem nst_X0_53 : ∃ h, ((RX0, 53, yX11_bit, h) : String × Nat × MethodName × String) ∈ nestW := ⟨"NoTwoTogether", by decide +kernel⟩
theorem nst_X0_43 : ∃ h, ((RX0, 43, yX11_besideIn, h) : String × Nat × MethodName × String) ∈ nestW := ⟨"NoTwoTogether", by decide +kernel⟩
theorem nst_X1_28 : ∃ h, ((RX1, 28, yX11_bit, h) : String × Nat × MethodName × String) ∈ nestW := ⟨"NoTwoTogether", by decide +kernel⟩
theorem nst_X2_38 : ∃ h, ((RX2, 38, yX11_besideIn, h) : String × Nat × MethodName × String) ∈ nestW := ⟨"NoTwoTogether", by decide +kernel⟩
theorem nst_X2_47 : ∃ h, ((RX2, 47, yX11_bit, h) : String × Nat × MethodName × String) ∈ nestW := ⟨"NoTwoTogether", by decide +kernel⟩
theorem nst_X5_42 : ∃ h, ((RX5, 42, yX11_bit, h) : String × Nat × MethodName × String) ∈ nestW := ⟨"NoTwoTogether", by decide +kernel⟩
theorem nst_X5_52 : ∃ h, ((RX5, 52, yX11_besideIn, h) : String × Nat × MethodName × String) ∈ nestW := ⟨"NoTwoTogether", by decide +kernel⟩
theorem nst_X3_79 : ∃ h, ((RX3, 79, yX11_bit, h) : String × Nat × MethodName × String) ∈ nestW := ⟨"NoTwoTogether", by decide +kernel⟩
theorem nst_X3_83 : ∃ h, ((RX3, 83, yX11_besideIn, h) : String × Nat × MethodName × String) ∈ nestW := ⟨"NoTwoTogether", by decide +kernel⟩
theorem nst_X10_54 : ∃ h, ((RX10, 54, yX11_bit, h) : String × Nat × MethodName × String) ∈ nestW := ⟨"NoTwoTogether", by decide +kernel⟩
def RowAt (r : Int) : Prop := r = 43 ∨ r = 51 ∨ r = 59
theorem RowF0 {r : Int} (h : RowAt r) : Fat 136 r (7, 17) := by
  rcases h with rfl | rfl | rfl
  · exact ac_43
  · exact ac_51
  · exact ac_59
theorem RowF1 {r : Int} (h : RowAt r) : Fat 136 (r + 1) (20, 60) := by
  rcases h with rfl | rfl | rfl
  · exact ac_44
  · exact ac_52
  · exact ac_60
theorem RowL1 {r : Int} (h : RowAt r) : ((r, 1, r + 1) : Int × Nat × Int) ∈ layl := by
  rcases h with rfl | rfl | rfl
  · exact lay_43_1
  · exact lay_51_1
  · exact lay_59_1
theorem RowF2 {r : Int} (h : RowAt r) : Fat 136 (r + 2) (20, 60) := by
  rcases h with rfl | rfl | rfl
  · exact ac_45
  · exact ac_53
  · exact ac_61
theorem RowL2 {r : Int} (h : RowAt r) : ((r, 2, r + 2) : Int × Nat × Int) ∈ layl := by
  rcases h with rfl | rfl | rfl
  · exact lay_43_2
  · exact lay_51_2
  · exact lay_59_2
theorem RowF3 {r : Int} (h : RowAt r) : Fat 136 (r + 3) (20, 60) := by
  rcases h with rfl | rfl | rfl
  · exact ac_46
  · exact ac_54
  · exact ac_62
theorem RowL3 {r : Int} (h : RowAt r) : ((r, 3, r + 3) : Int × Nat × Int) ∈ layl := by
  rcases h with rfl | rfl | rfl
  · exact lay_43_3
  · exact lay_51_3
  · exact lay_59_3
theorem RowF4 {r : Int} (h : RowAt r) : Fat 136 (r + 4) (20, 60) := by
  rcases h with rfl | rfl | rfl
  · exact ac_47
  · exact ac_55
  · exact ac_63
theorem RowL4 {r : Int} (h : RowAt r) : ((r, 4, r + 4) : Int × Nat × Int) ∈ layl := by
  rcases h with rfl | rfl | rfl
  · exact lay_43_4
  · exact lay_51_4
  · exact lay_59_4
theorem RowF5 {r : Int} (h : RowAt r) : Fat 136 (r + 5) (20, 6) := by
  rcases h with rfl | rfl | rfl
  · exact ac_48
  · exact ac_56
  · exact ac_64
theorem RowL7 {r : Int} (h : RowAt r) : ((r, 7, r + 5) : Int × Nat × Int) ∈ layl := by
  rcases h with rfl | rfl | rfl
  · exact lay_43_7
  · exact lay_51_7
  · exact lay_59_7
theorem RowF6 {r : Int} (h : RowAt r) : Fat 136 (r + 6) (20, 6) := by
  rcases h with rfl | rfl | rfl
  · exact ac_49
  · exact ac_57
  · exact ac_65
theorem RowL8 {r : Int} (h : RowAt r) : ((r, 8, r + 6) : Int × Nat × Int) ∈ layl := by
  rcases h with rfl | rfl | rfl
  · exact lay_43_8
  · exact lay_51_8
  · exact lay_59_8
theorem RowF7 {r : Int} (h : RowAt r) : Fat 136 (r + 7) (20, 8) := by
  rcases h with rfl | rfl | rfl
  · exact ac_50
  · exact ac_58
  · exact ac_66
theorem RowL9 {r : Int} (h : RowAt r) : ((r, 9, r + 7) : Int × Nat × Int) ∈ layl := by
  rcases h with rfl | rfl | rfl
  · exact lay_43_9
  · exact lay_51_9
  · exact lay_59_9
theorem RowB {r : Int} (h : RowAt r) : 0 ≤ r ∧ r < 100000 := by unfold RowAt at h; omega
def LinAt (r : Int) : Prop := r = 7 ∨ r = 14 ∨ r = 18 ∨ r = 22 ∨ r = 29 ∨ r = 33 ∨ r = 37
theorem LinF0 {r : Int} (h : LinAt r) : Fat 136 r (4, 5) := by
  rcases h with rfl | rfl | rfl | rfl | rfl | rfl | rfl
  · exact ac_7
  · exact ac_14
  · exact ac_18
  · exact ac_22
  · exact ac_29
  · exact ac_33
  · exact ac_37
theorem LinF1 {r : Int} (h : LinAt r) : Fat 136 (r + 1) (20, 500) := by
  rcases h with rfl | rfl | rfl | rfl | rfl | rfl | rfl
  · exact ac_8
  · exact ac_15
  · exact ac_19
  · exact ac_23
  · exact ac_30
  · exact ac_34
  · exact ac_38
theorem LinL0 {r : Int} (h : LinAt r) : ((r, 0, r + 1) : Int × Nat × Int) ∈ layl := by
  rcases h with rfl | rfl | rfl | rfl | rfl | rfl | rfl
  · exact lay_7_0
  · exact lay_14_0
  · exact lay_18_0
  · exact lay_22_0
  · exact lay_29_0
  · exact lay_33_0
  · exact lay_37_0
theorem LinF2 {r : Int} (h : LinAt r) : Fat 136 (r + 2) (20, 17) := by
  rcases h with rfl | rfl | rfl | rfl | rfl | rfl | rfl
  · exact ac_9
  · exact ac_16
  · exact ac_20
  · exact ac_24
  · exact ac_31
  · exact ac_35
  · exact ac_39
theorem LinL1 {r : Int} (h : LinAt r) : ((r, 1, r + 2) : Int × Nat × Int) ∈ layl := by
  rcases h with rfl | rfl | rfl | rfl | rfl | rfl | rfl
  · exact lay_7_1
  · exact lay_14_1
  · exact lay_18_1
  · exact lay_22_1
  · exact lay_29_1
  · exact lay_33_1
  · exact lay_37_1
theorem LinF3 {r : Int} (h : LinAt r) : Fat 136 (r + 3) (20, 16) := by
  rcases h with rfl | rfl | rfl | rfl | rfl | rfl | rfl
  · exact ac_10
  · exact ac_17
  · exact ac_21
  · exact ac_25
  · exact ac_32
  · exact ac_36
  · exact ac_40
theorem LinL2 {r : Int} (h : LinAt r) : ((r, 2, r + 3) : Int × Nat × Int) ∈ layl := by
  rcases h with rfl | rfl | rfl | rfl | rfl | rfl | rfl
  · exact lay_7_2
  · exact lay_14_2
  · exact lay_18_2
  · exact lay_22_2
  · exact lay_29_2
  · exact lay_33_2
  · exact lay_37_2
theorem LinB {r : Int} (h : LinAt r) : 0 ≤ r ∧ r < 100000 := by unfold LinAt at h; omega
def BrkAt (r : Int) : Prop := r = 11 ∨ r = 26 ∨ r = 41
theorem BrkF0 {r : Int} (h : BrkAt r) : Fat 136 r (1, 1) := by
  rcases h with rfl | rfl | rfl
  · exact ac_11
  · exact ac_26
  · exact ac_41
theorem BrkF1 {r : Int} (h : BrkAt r) : Fat 136 (r + 1) (20, 256) := by
  rcases h with rfl | rfl | rfl
  · exact ac_12
  · exact ac_27
  · exact ac_42
theorem BrkL0 {r : Int} (h : BrkAt r) : ((r, 0, r + 1) : Int × Nat × Int) ∈ layl := by
  rcases h with rfl | rfl | rfl
  · exact lay_11_0
  · exact lay_26_0
  · exact lay_41_0
theorem BrkB {r : Int} (h : BrkAt r) : 0 ≤ r ∧ r < 100000 := by unfold BrkAt at h; omega
def TxtAt (r : Int) : Prop := r = 13 ∨ r = 28
theorem TxtF0 {r : Int} (h : TxtAt r) : Fat 136 r (9, 4) := by
  rcases h with rfl | rfl
  · exact ac_13
  · exact ac_28
theorem TxtF1 {r : Int} (h : TxtAt r) : Fat 136 (r + 1) (4, 5) := by
  rcases h with rfl | rfl
  · exact ac_14
  · exact ac_29
theorem TxtL0 {r : Int} (h : TxtAt r) : ((r, 0, r + 1) : Int × Nat × Int) ∈ layl := by
  rcases h with rfl | rfl
  · exact lay_13_0
  · exact lay_28_0
theorem TxtF5 {r : Int} (h : TxtAt r) : Fat 136 (r + 5) (4, 5) := by
  rcases h with rfl | rfl
  · exact ac_18
  · exact ac_33
theorem TxtL1 {r : Int} (h : TxtAt r) : ((r, 1, r + 5) : Int × Nat × Int) ∈ layl := by
  rcases h with rfl | rfl
  · exact lay_13_1
  · exact lay_28_1
theorem TxtF9 {r : Int} (h : TxtAt r) : Fat 136 (r + 9) (4, 5) := by
  rcases h with rfl | rfl
  · exact ac_22
  · exact ac_37
theorem TxtL2 {r : Int} (h : TxtAt r) : ((r, 2, r + 9) : Int × Nat × Int) ∈ layl := by
  rcases h with rfl | rfl
  · exact lay_13_2
  · exact lay_28_2
theorem TxtF13 {r : Int} (h : TxtAt r) : Fat 136 (r + 13) (1, 1) := by
  rcases h with rfl | rfl
  · exact ac_26
  · exact ac_41
theorem TxtL3 {r : Int} (h : TxtAt r) : ((r, 3, r + 13) : Int × Nat × Int) ∈ layl := by
  rcases h with rfl | rfl
  · exact lay_13_3
  · exact lay_28_3
theorem TxtB {r : Int} (h : TxtAt r) : 0 ≤ r ∧ r < 100000 := by unfold TxtAt at h; omega
theorem Txt_law {r : Int} (h : TxtAt r) : LinAt (r + 1) := by unfold TxtAt at h; unfold LinAt; omega
theorem Txt_first {r : Int} (h : TxtAt r) : LinAt (r + 5) := by unfold TxtAt at h; unfold LinAt; omega
theorem Txt_second {r : Int} (h : TxtAt r) : LinAt (r + 9) := by unfold TxtAt at h; unfold LinAt; omega
theorem Txt_breaks {r : Int} (h : TxtAt r) : BrkAt (r + 13) := by unfold TxtAt at h; unfold BrkAt; omega
