set_option maxRecDepth 100000 in
theorem ok_X10_likely : okM sg mX10_likely = true := by decide +kernel
set_option maxRecDepth 100000 in
theorem ok_X10_go : okM sg mX10_go = true := by decide +kernel
set_option maxRecDepth 100000 in
theorem ok_X11_init : okM sg mX11_init = true := by decide +kernel
set_option maxRecDepth 100000 in
theorem ok_X11_match : okM sg mX11_match = true := by decide +kernel
set_option maxRecDepth 100000 in
theorem ok_X11_player : okM sg mX11_player = true := by decide +kernel
set_option maxRecDepth 100000 in
theorem ok_X11_pair : okM sg mX11_pair = true := by decide +kernel
set_option maxRecDepth 100000 in
theorem ok_X11_worth : okM sg mX11_worth = true := by decide +kernel
set_option maxRecDepth 100000 in
theorem ok_X11_feed : okM sg mX11_feed = true := by decide +kernel
set_option maxRecDepth 100000 in
theorem ok_X11_law : okM sg mX11_law = true := by decide +kernel
set_option maxRecDepth 100000 in
theorem ok_X11_other : okM sg mX11_other = true := by decide +kernel
set_option maxRecDepth 100000 in
theorem ok_X11_rule : okM sg mX11_rule = true := by decide +kernel
set_option maxRecDepth 100000 in
theorem ok_X11_may : okM sg mX11_may = true := by decide +kernel
set_option maxRecDepth 100000 in
theorem ok_X11_after : okM sg mX11_after = true := by decide +kernel
set_option maxRecDepth 100000 in
theorem ok_X11_chance : okM sg mX11_chance = true := by decide +kernel
set_option maxRecDepth 100000 in
theorem ok_X11_best : okM sg mX11_best = true := by decide +kernel
set_option maxRecDepth 100000 in
theorem ok_X11_by : okM sg mX11_by = true := by decide +kernel
set_option maxRecDepth 100000 in
theorem ok_X11_says : okM sg mX11_says = true := by decide +kernel
set_option maxRecDepth 100000 in
theorem ok_X11_edge : okM sg mX11_edge = true := by decide +kernel
set_option maxRecDepth 100000 in
theorem ok_X11_kept : okM sg mX11_kept = true := by decide +kernel
set_option maxRecDepth 100000 in
theorem ok_X11_together : okM sg mX11_together = true := by decide +kernel
set_option maxRecDepth 100000 in
theorem ok_X11_slower : okM sg mX11_slower = true := by decide +kernel
set_option maxRecDepth 100000 in
theorem ok_X11_game : okM sg mX11_game = true := by decide +kernel
set_option maxRecDepth 100000 in
theorem ok_X11_mixed : okM sg mX11_mixed = true := by decide +kernel
set_option maxRecDepth 100000 in
theorem ok_X11_happens : okM sg mX11_happens = true := by decide +kernel
set_option maxRecDepth 100000 in
theorem ok_X11_undo : okM sg mX11_undo = true := by decide +kernel
set_option maxRecDepth 100000 in
theorem ok_X11_logged : okM sg mX11_logged = true := by decide +kernel
set_option maxRecDepth 100000 in
theorem ok_X11_wrong : okM sg mX11_wrong = true := by decide +kernel
set_option maxRecDepth 100000 in
theorem ok_X11_worst : okM sg mX11_worst = true := by decide +kernel
set_option maxRecDepth 100000 in
theorem ok_X11_seed : okM sg mX11_seed = true := by decide +kernel
set_option maxRecDepth 100000 in
theorem ok_X11_draw : okM sg mX11_draw = true := by decide +kernel
set_option maxRecDepth 100000 in
theorem ok_X11_fresh : okM sg mX11_fresh = true := by decide +kernel
set_option maxRecDepth 100000 in
theorem ok_X11_season : okM sg mX11_season = true := by decide +kernel
set_option maxRecDepth 100000 in
theorem ok_X11_check : okM sg mX11_check = true := by decide +kernel
set_option maxRecDepth 100000 in
theorem ok_X11_count : okM sg mX11_count = true := by decide +kernel
set_option maxRecDepth 100000 in
theorem ok_X11_isPlayer : okM sg mX11_isPlayer = true := by decide +kernel
set_option maxRecDepth 100000 in
theorem ok_X11_isDigit : okM sg mX11_isDigit = true := by decide +kernel
set_option maxRecDepth 100000 in
theorem ok_X11_isOther : okM sg mX11_isOther = true := by decide +kernel
set_option maxRecDepth 100000 in
theorem ok_X11_isRule : okM sg mX11_isRule = true := by decide +kernel
set_option maxRecDepth 100000 in
theorem ok_X11_isScore : okM sg mX11_isScore = true := by decide +kernel
set_option maxRecDepth 100000 in
theorem ok_X11_isAction : okM sg mX11_isAction = true := by decide +kernel
set_option maxRecDepth 100000 in
theorem ok_X11_isState : okM sg mX11_isState = true := by decide +kernel
set_option maxRecDepth 100000 in
theorem ok_X11_isEnd : okM sg mX11_isEnd = true := by decide +kernel
set_option maxRecDepth 100000 in
theorem ok_X11_isLegal : okM sg mX11_isLegal = true := by decide +kernel
set_option maxRecDepth 100000 in
theorem ok_X11_isTwo : okM sg mX11_isTwo = true := by decide +kernel
set_option maxRecDepth 100000 in
theorem ok_X11_forgetMatch : okM sg mX11_forgetMatch = true := by decide +kernel
set_option maxRecDepth 100000 in
theorem ok_X11_readText : okM sg mX11_readText = true := by decide +kernel
set_option maxRecDepth 100000 in
theorem ok_X11_gameLow : okM sg mX11_gameLow = true := by decide +kernel
set_option maxRecDepth 100000 in
theorem ok_X11_gameHigh : okM sg mX11_gameHigh = true := by decide +kernel
set_option maxRecDepth 100000 in
theorem ok_X11_isMet : okM sg mX11_isMet = true := by decide +kernel
set_option maxRecDepth 100000 in
theorem ok_X11_mixedOf : okM sg mX11_mixedOf = true := by decide +kernel
set_option maxRecDepth 100000 in
theorem ok_X11_greatestDivisor : okM sg mX11_greatestDivisor = true := by decide +kernel
set_option maxRecDepth 100000 in
theorem ok_X11_wrongIn : okM sg mX11_wrongIn = true := by decide +kernel
set_option maxRecDepth 100000 in
theorem ok_X11_drawPeriod : okM sg mX11_drawPeriod = true := by decide +kernel
set_option maxRecDepth 100000 in
theorem ok_X12_init : okM sg mX12_init = true := by decide +kernel
set_option maxRecDepth 100000 in
theorem ok_X12_in : okM sg mX12_in = true := by decide +kernel
set_option maxRecDepth 100000 in
theorem ok_X12_match : okM sg mX12_match = true := by decide +kernel
set_option maxRecDepth 100000 in
theorem ok_X12_player : okM sg mX12_player = true := by decide +kernel
set_option maxRecDepth 100000 in
theorem ok_X12_pair : okM sg mX12_pair = true := by decide +kernel
set_option maxRecDepth 100000 in
theorem ok_X12_worth : okM sg mX12_worth = true := by decide +kernel
set_option maxRecDepth 100000 in
theorem ok_X12_seed : okM sg mX12_seed = true := by decide +kernel
