set_option maxRecDepth 100000 in
theorem ok_X0_init : okM sg mX0_init = true := by decide +kernel
set_option maxRecDepth 100000 in
theorem ok_X0_forget : okM sg mX0_forget = true := by decide +kernel
set_option maxRecDepth 100000 in
theorem ok_X0_against : okM sg mX0_against = true := by decide +kernel
set_option maxRecDepth 100000 in
theorem ok_X0_keyOf : okM sg mX0_keyOf = true := by decide +kernel
set_option maxRecDepth 100000 in
theorem ok_X0_tune : okM sg mX0_tune = true := by decide +kernel
set_option maxRecDepth 100000 in
theorem ok_X0_first : okM sg mX0_first = true := by decide +kernel
set_option maxRecDepth 100000 in
theorem ok_X0_valueOf : okM sg mX0_valueOf = true := by decide +kernel
set_option maxRecDepth 100000 in
theorem ok_X0_actionOf : okM sg mX0_actionOf = true := by decide +kernel
set_option maxRecDepth 100000 in
theorem ok_X0_valueBy : okM sg mX0_valueBy = true := by decide +kernel
set_option maxRecDepth 100000 in
theorem ok_X0_slotOf : okM sg mX0_slotOf = true := by decide +kernel
set_option maxRecDepth 100000 in
theorem ok_X0_held : okM sg mX0_held = true := by decide +kernel
set_option maxRecDepth 100000 in
theorem ok_X0_search : okM sg mX0_search = true := by decide +kernel
set_option maxRecDepth 100000 in
theorem ok_X0_sumOf : okM sg mX0_sumOf = true := by decide +kernel
set_option maxRecDepth 100000 in
theorem ok_X1_init : okM sg mX1_init = true := by decide +kernel
set_option maxRecDepth 100000 in
theorem ok_X1_tell : okM sg mX1_tell = true := by decide +kernel
set_option maxRecDepth 100000 in
theorem ok_X1_codeBehind : okM sg mX1_codeBehind = true := by decide +kernel
set_option maxRecDepth 100000 in
theorem ok_X1_scoreBehind : okM sg mX1_scoreBehind = true := by decide +kernel
set_option maxRecDepth 100000 in
theorem ok_X1_actionIn : okM sg mX1_actionIn = true := by decide +kernel
set_option maxRecDepth 100000 in
theorem ok_X1_eventIn : okM sg mX1_eventIn = true := by decide +kernel
set_option maxRecDepth 100000 in
theorem ok_X1_isBehind : okM sg mX1_isBehind = true := by decide +kernel
set_option maxRecDepth 100000 in
theorem ok_X2_init : okM sg mX2_init = true := by decide +kernel
set_option maxRecDepth 100000 in
theorem ok_X2_textAt : okM sg mX2_textAt = true := by decide +kernel
set_option maxRecDepth 100000 in
theorem ok_X2_tell : okM sg mX2_tell = true := by decide +kernel
set_option maxRecDepth 100000 in
theorem ok_X2_clausesOf : okM sg mX2_clausesOf = true := by decide +kernel
set_option maxRecDepth 100000 in
theorem ok_X2_isTold : okM sg mX2_isTold = true := by decide +kernel
set_option maxRecDepth 100000 in
theorem ok_X2_setMoment : okM sg mX2_setMoment = true := by decide +kernel
set_option maxRecDepth 100000 in
theorem ok_X2_setPlaces : okM sg mX2_setPlaces = true := by decide +kernel
set_option maxRecDepth 100000 in
theorem ok_X2_strongOf : okM sg mX2_strongOf = true := by decide +kernel
set_option maxRecDepth 100000 in
theorem ok_X2_ruleAction : okM sg mX2_ruleAction = true := by decide +kernel
set_option maxRecDepth 100000 in
theorem ok_X2_shares : okM sg mX2_shares = true := by decide +kernel
set_option maxRecDepth 100000 in
theorem ok_X2_shareOf : okM sg mX2_shareOf = true := by decide +kernel
set_option maxRecDepth 100000 in
theorem ok_X2_within : okM sg mX2_within = true := by decide +kernel
set_option maxRecDepth 100000 in
theorem ok_X3_init : okM sg mX3_init = true := by decide +kernel
set_option maxRecDepth 100000 in
theorem ok_X3_read : okM sg mX3_read = true := by decide +kernel
set_option maxRecDepth 100000 in
theorem ok_X3_move : okM sg mX3_move = true := by decide +kernel
set_option maxRecDepth 100000 in
theorem ok_X3_fail : okM sg mX3_fail = true := by decide +kernel
set_option maxRecDepth 100000 in
theorem ok_X3_isOneOf : okM sg mX3_isOneOf = true := by decide +kernel
set_option maxRecDepth 100000 in
theorem ok_X3_expect : okM sg mX3_expect = true := by decide +kernel
set_option maxRecDepth 100000 in
theorem ok_X3_enter : okM sg mX3_enter = true := by decide +kernel
set_option maxRecDepth 100000 in
theorem ok_X3_clause : okM sg mX3_clause = true := by decide +kernel
set_option maxRecDepth 100000 in
theorem ok_X3_inRound : okM sg mX3_inRound = true := by decide +kernel
set_option maxRecDepth 100000 in
theorem ok_X3_parts : okM sg mX3_parts = true := by decide +kernel
set_option maxRecDepth 100000 in
theorem ok_X3_part : okM sg mX3_part = true := by decide +kernel
set_option maxRecDepth 100000 in
theorem ok_X3_piece : okM sg mX3_piece = true := by decide +kernel
set_option maxRecDepth 100000 in
theorem ok_X3_sum : okM sg mX3_sum = true := by decide +kernel
set_option maxRecDepth 100000 in
theorem ok_X3_term : okM sg mX3_term = true := by decide +kernel
set_option maxRecDepth 100000 in
theorem ok_X3_factor : okM sg mX3_factor = true := by decide +kernel
set_option maxRecDepth 100000 in
theorem ok_X3_number : okM sg mX3_number = true := by decide +kernel
set_option maxRecDepth 100000 in
theorem ok_X4_init : okM sg mX4_init = true := by decide +kernel
set_option maxRecDepth 100000 in
theorem ok_X4_set : okM sg mX4_set = true := by decide +kernel
set_option maxRecDepth 100000 in
theorem ok_X4_ask : okM sg mX4_ask = true := by decide +kernel
set_option maxRecDepth 100000 in
theorem ok_X4_run : okM sg mX4_run = true := by decide +kernel
set_option maxRecDepth 100000 in
theorem ok_X4_push : okM sg mX4_push = true := by decide +kernel
set_option maxRecDepth 100000 in
theorem ok_X4_pop : okM sg mX4_pop = true := by decide +kernel
set_option maxRecDepth 100000 in
theorem ok_X4_both : okM sg mX4_both = true := by decide +kernel
set_option maxRecDepth 100000 in
theorem ok_X5_at : okM sg mX5_at = true := by decide +kernel
set_option maxRecDepth 100000 in
theorem ok_X5_put : okM sg mX5_put = true := by decide +kernel
set_option maxRecDepth 100000 in
theorem ok_X5_longAt : okM sg mX5_longAt = true := by decide +kernel
set_option maxRecDepth 100000 in
theorem ok_X5_putLong : okM sg mX5_putLong = true := by decide +kernel
set_option maxRecDepth 100000 in
theorem ok_X5_clear : okM sg mX5_clear = true := by decide +kernel
