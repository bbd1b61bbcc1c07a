set_option maxRecDepth 100000 in
theorem ok_X6_init : okM sg mX6_init = true := by decide +kernel
set_option maxRecDepth 100000 in
theorem ok_X6_forget : okM sg mX6_forget = true := by decide +kernel
set_option maxRecDepth 100000 in
theorem ok_X6_planWorth : okM sg mX6_planWorth = true := by decide +kernel
set_option maxRecDepth 100000 in
theorem ok_X6_planRow : okM sg mX6_planRow = true := by decide +kernel
set_option maxRecDepth 100000 in
theorem ok_X6_begin : okM sg mX6_begin = true := by decide +kernel
set_option maxRecDepth 100000 in
theorem ok_X6_most : okM sg mX6_most = true := by decide +kernel
set_option maxRecDepth 100000 in
theorem ok_X6_search : okM sg mX6_search = true := by decide +kernel
set_option maxRecDepth 100000 in
theorem ok_X6_leastRow : okM sg mX6_leastRow = true := by decide +kernel
set_option maxRecDepth 100000 in
theorem ok_X6_isRow : okM sg mX6_isRow = true := by decide +kernel
set_option maxRecDepth 100000 in
theorem ok_X6_worthOf : okM sg mX6_worthOf = true := by decide +kernel
set_option maxRecDepth 100000 in
theorem ok_X6_next : okM sg mX6_next = true := by decide +kernel
set_option maxRecDepth 100000 in
theorem ok_X7_init : okM sg mX7_init = true := by decide +kernel
set_option maxRecDepth 100000 in
theorem ok_X7_setPlayer : okM sg mX7_setPlayer = true := by decide +kernel
set_option maxRecDepth 100000 in
theorem ok_X7_setPair : okM sg mX7_setPair = true := by decide +kernel
set_option maxRecDepth 100000 in
theorem ok_X7_setFreshness : okM sg mX7_setFreshness = true := by decide +kernel
set_option maxRecDepth 100000 in
theorem ok_X7_goodAt : okM sg mX7_goodAt = true := by decide +kernel
set_option maxRecDepth 100000 in
theorem ok_X7_legsAtFirst : okM sg mX7_legsAtFirst = true := by decide +kernel
set_option maxRecDepth 100000 in
theorem ok_X7_pairOf : okM sg mX7_pairOf = true := by decide +kernel
set_option maxRecDepth 100000 in
theorem ok_X7_freshnessOf : okM sg mX7_freshnessOf = true := by decide +kernel
set_option maxRecDepth 100000 in
theorem ok_X7_worthOf : okM sg mX7_worthOf = true := by decide +kernel
set_option maxRecDepth 100000 in
theorem ok_X7_scoreBehind : okM sg mX7_scoreBehind = true := by decide +kernel
set_option maxRecDepth 100000 in
theorem ok_X7_digit : okM sg mX7_digit = true := by decide +kernel
set_option maxRecDepth 100000 in
theorem ok_X7_unit : okM sg mX7_unit = true := by decide +kernel
set_option maxRecDepth 100000 in
theorem ok_X7_isOn : okM sg mX7_isOn = true := by decide +kernel
set_option maxRecDepth 100000 in
theorem ok_X7_whoIsAt : okM sg mX7_whoIsAt = true := by decide +kernel
set_option maxRecDepth 100000 in
theorem ok_X7_howManyAt : okM sg mX7_howManyAt = true := by decide +kernel
set_option maxRecDepth 100000 in
theorem ok_X7_changesMade : okM sg mX7_changesMade = true := by decide +kernel
set_option maxRecDepth 100000 in
theorem ok_X7_isWellFormed : okM sg mX7_isWellFormed = true := by decide +kernel
set_option maxRecDepth 100000 in
theorem ok_X7_isCode : okM sg mX7_isCode = true := by decide +kernel
set_option maxRecDepth 100000 in
theorem ok_X7_lossOf : okM sg mX7_lossOf = true := by decide +kernel
set_option maxRecDepth 100000 in
theorem ok_X7_legsOf : okM sg mX7_legsOf = true := by decide +kernel
set_option maxRecDepth 100000 in
theorem ok_X7_playerOf : okM sg mX7_playerOf = true := by decide +kernel
set_option maxRecDepth 100000 in
theorem ok_X7_placeOf : okM sg mX7_placeOf = true := by decide +kernel
set_option maxRecDepth 100000 in
theorem ok_X7_changesOf : okM sg mX7_changesOf = true := by decide +kernel
set_option maxRecDepth 100000 in
theorem ok_X7_mayBe : okM sg mX7_mayBe = true := by decide +kernel
set_option maxRecDepth 100000 in
theorem ok_X7_isWaiting : okM sg mX7_isWaiting = true := by decide +kernel
set_option maxRecDepth 100000 in
theorem ok_X7_codeAfter : okM sg mX7_codeAfter = true := by decide +kernel
set_option maxRecDepth 100000 in
theorem ok_X7_sendOn : okM sg mX7_sendOn = true := by decide +kernel
set_option maxRecDepth 100000 in
theorem ok_X7_takeOff : okM sg mX7_takeOff = true := by decide +kernel
set_option maxRecDepth 100000 in
theorem ok_X7_codeBehind : okM sg mX7_codeBehind = true := by decide +kernel
set_option maxRecDepth 100000 in
theorem ok_X8_init : okM sg mX8_init = true := by decide +kernel
set_option maxRecDepth 100000 in
theorem ok_X8_write : okM sg mX8_write = true := by decide +kernel
set_option maxRecDepth 100000 in
theorem ok_X8_byteAt : okM sg mX8_byteAt = true := by decide +kernel
set_option maxRecDepth 100000 in
theorem ok_X8_numberAt : okM sg mX8_numberAt = true := by decide +kernel
set_option maxRecDepth 100000 in
theorem ok_X9_init : okM sg mX9_init = true := by decide +kernel
set_option maxRecDepth 100000 in
theorem ok_X9_empty : okM sg mX9_empty = true := by decide +kernel
set_option maxRecDepth 100000 in
theorem ok_X9_beginClause : okM sg mX9_beginClause = true := by decide +kernel
set_option maxRecDepth 100000 in
theorem ok_X9_beginCondition : okM sg mX9_beginCondition = true := by decide +kernel
set_option maxRecDepth 100000 in
theorem ok_X9_endClause : okM sg mX9_endClause = true := by decide +kernel
set_option maxRecDepth 100000 in
theorem ok_X9_add : okM sg mX9_add = true := by decide +kernel
set_option maxRecDepth 100000 in
theorem ok_X9_landHere : okM sg mX9_landHere = true := by decide +kernel
set_option maxRecDepth 100000 in
theorem ok_X9_headOf : okM sg mX9_headOf = true := by decide +kernel
set_option maxRecDepth 100000 in
theorem ok_X9_sumOf : okM sg mX9_sumOf = true := by decide +kernel
set_option maxRecDepth 100000 in
theorem ok_X9_conditionOf : okM sg mX9_conditionOf = true := by decide +kernel
set_option maxRecDepth 100000 in
theorem ok_X9_endOf : okM sg mX9_endOf = true := by decide +kernel
set_option maxRecDepth 100000 in
theorem ok_X10_init : okM sg mX10_init = true := by decide +kernel
set_option maxRecDepth 100000 in
theorem ok_X10_forget : okM sg mX10_forget = true := by decide +kernel
set_option maxRecDepth 100000 in
theorem ok_X10_first : okM sg mX10_first = true := by decide +kernel
set_option maxRecDepth 100000 in
theorem ok_X10_from : okM sg mX10_from = true := by decide +kernel
set_option maxRecDepth 100000 in
theorem ok_X10_value : okM sg mX10_value = true := by decide +kernel
