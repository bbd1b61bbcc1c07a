set_option maxRecDepth 100000 in
theorem ok_X12_fresh : okM sg mX12_fresh = true := by decide +kernel
set_option maxRecDepth 100000 in
theorem ok_X12_types : okM sg mX12_types = true := by decide +kernel
set_option maxRecDepth 100000 in
theorem ok_X12_feed : okM sg mX12_feed = true := by decide +kernel
set_option maxRecDepth 100000 in
theorem ok_X12_here : okM sg mX12_here = true := by decide +kernel
set_option maxRecDepth 100000 in
theorem ok_X12_isDigit : okM sg mX12_isDigit = true := by decide +kernel
set_option maxRecDepth 100000 in
theorem ok_X12_wrongAt : okM sg mX12_wrongAt = true := by decide +kernel
set_option maxRecDepth 100000 in
theorem ok_X12_takes : okM sg mX12_takes = true := by decide +kernel
set_option maxRecDepth 100000 in
theorem ok_X12_readsNumber : okM sg mX12_readsNumber = true := by decide +kernel
set_option maxRecDepth 100000 in
theorem ok_X12_notes : okM sg mX12_notes = true := by decide +kernel
set_option maxRecDepth 100000 in
theorem ok_X12_opens : okM sg mX12_opens = true := by decide +kernel
set_option maxRecDepth 100000 in
theorem ok_X12_top : okM sg mX12_top = true := by decide +kernel
set_option maxRecDepth 100000 in
theorem ok_X12_factOf : okM sg mX12_factOf = true := by decide +kernel
set_option maxRecDepth 100000 in
theorem ok_X12_sumSign : okM sg mX12_sumSign = true := by decide +kernel
set_option maxRecDepth 100000 in
theorem ok_X12_closesSums : okM sg mX12_closesSums = true := by decide +kernel
set_option maxRecDepth 100000 in
theorem ok_X12_readsFactor : okM sg mX12_readsFactor = true := by decide +kernel
set_option maxRecDepth 100000 in
theorem ok_X12_hasOpenSum : okM sg mX12_hasOpenSum = true := by decide +kernel
set_option maxRecDepth 100000 in
theorem ok_X12_readsSum : okM sg mX12_readsSum = true := by decide +kernel
set_option maxRecDepth 100000 in
theorem ok_X12_endsPiece : okM sg mX12_endsPiece = true := by decide +kernel
set_option maxRecDepth 100000 in
theorem ok_X12_lands : okM sg mX12_lands = true := by decide +kernel
set_option maxRecDepth 100000 in
theorem ok_X12_jumps : okM sg mX12_jumps = true := by decide +kernel
set_option maxRecDepth 100000 in
theorem ok_X12_readsCompared : okM sg mX12_readsCompared = true := by decide +kernel
set_option maxRecDepth 100000 in
theorem ok_X12_readsCondition : okM sg mX12_readsCondition = true := by decide +kernel
set_option maxRecDepth 100000 in
theorem ok_X12_canBegin : okM sg mX12_canBegin = true := by decide +kernel
set_option maxRecDepth 100000 in
theorem ok_X12_readsClause : okM sg mX12_readsClause = true := by decide +kernel
set_option maxRecDepth 100000 in
theorem ok_X12_reads : okM sg mX12_reads = true := by decide +kernel
set_option maxRecDepth 100000 in
theorem ok_X12_law : okM sg mX12_law = true := by decide +kernel
set_option maxRecDepth 100000 in
theorem ok_X12_other : okM sg mX12_other = true := by decide +kernel
set_option maxRecDepth 100000 in
theorem ok_X12_rule : okM sg mX12_rule = true := by decide +kernel
set_option maxRecDepth 100000 in
theorem ok_X12_reckon : okM sg mX12_reckon = true := by decide +kernel
set_option maxRecDepth 100000 in
theorem ok_X12_comesTo : okM sg mX12_comesTo = true := by decide +kernel
set_option maxRecDepth 100000 in
theorem ok_X12_byText : okM sg mX12_byText = true := by decide +kernel
set_option maxRecDepth 100000 in
theorem ok_X12_digit : okM sg mX12_digit = true := by decide +kernel
set_option maxRecDepth 100000 in
theorem ok_X12_withDigit : okM sg mX12_withDigit = true := by decide +kernel
set_option maxRecDepth 100000 in
theorem ok_X12_taken : okM sg mX12_taken = true := by decide +kernel
set_option maxRecDepth 100000 in
theorem ok_X12_toldOf : okM sg mX12_toldOf = true := by decide +kernel
set_option maxRecDepth 100000 in
theorem ok_X12_made : okM sg mX12_made = true := by decide +kernel
set_option maxRecDepth 100000 in
theorem ok_X12_whoAt : okM sg mX12_whoAt = true := by decide +kernel
set_option maxRecDepth 100000 in
theorem ok_X12_offWith : okM sg mX12_offWith = true := by decide +kernel
set_option maxRecDepth 100000 in
theorem ok_X12_lossBy : okM sg mX12_lossBy = true := by decide +kernel
set_option maxRecDepth 100000 in
theorem ok_X12_legsAt : okM sg mX12_legsAt = true := by decide +kernel
set_option maxRecDepth 100000 in
theorem ok_X12_firstOf : okM sg mX12_firstOf = true := by decide +kernel
set_option maxRecDepth 100000 in
theorem ok_X12_secondOf : okM sg mX12_secondOf = true := by decide +kernel
set_option maxRecDepth 100000 in
theorem ok_X12_playerOf : okM sg mX12_playerOf = true := by decide +kernel
set_option maxRecDepth 100000 in
theorem ok_X12_placeOf : okM sg mX12_placeOf = true := by decide +kernel
set_option maxRecDepth 100000 in
theorem ok_X12_changesOf : okM sg mX12_changesOf = true := by decide +kernel
set_option maxRecDepth 100000 in
theorem ok_X12_isAction : okM sg mX12_isAction = true := by decide +kernel
set_option maxRecDepth 100000 in
theorem ok_X12_mayBe : okM sg mX12_mayBe = true := by decide +kernel
set_option maxRecDepth 100000 in
theorem ok_X12_changed : okM sg mX12_changed = true := by decide +kernel
set_option maxRecDepth 100000 in
theorem ok_X12_behind : okM sg mX12_behind = true := by decide +kernel
set_option maxRecDepth 100000 in
theorem ok_X12_isAhead : okM sg mX12_isAhead = true := by decide +kernel
set_option maxRecDepth 100000 in
theorem ok_X12_may : okM sg mX12_may = true := by decide +kernel
set_option maxRecDepth 100000 in
theorem ok_X12_after : okM sg mX12_after = true := by decide +kernel
set_option maxRecDepth 100000 in
theorem ok_X12_strength : okM sg mX12_strength = true := by decide +kernel
set_option maxRecDepth 100000 in
theorem ok_X12_feels : okM sg mX12_feels = true := by decide +kernel
set_option maxRecDepth 100000 in
theorem ok_X12_hurtAt : okM sg mX12_hurtAt = true := by decide +kernel
set_option maxRecDepth 100000 in
theorem ok_X12_lots : okM sg mX12_lots = true := by decide +kernel
set_option maxRecDepth 100000 in
theorem ok_X12_isScore : okM sg mX12_isScore = true := by decide +kernel
set_option maxRecDepth 100000 in
theorem ok_X12_isOther : okM sg mX12_isOther = true := by decide +kernel
set_option maxRecDepth 100000 in
theorem ok_X12_chance : okM sg mX12_chance = true := by decide +kernel
set_option maxRecDepth 100000 in
theorem ok_X12_scoreAfter : okM sg mX12_scoreAfter = true := by decide +kernel
