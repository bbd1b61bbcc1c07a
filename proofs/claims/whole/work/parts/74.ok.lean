set_option maxRecDepth 100000 in
theorem ok_X12_codeAfter : okM sg mX12_codeAfter = true := by decide +kernel
set_option maxRecDepth 100000 in
theorem ok_X12_placeIn : okM sg mX12_placeIn = true := by decide +kernel
set_option maxRecDepth 100000 in
theorem ok_X12_ruled : okM sg mX12_ruled = true := by decide +kernel
set_option maxRecDepth 100000 in
theorem ok_X12_marks : okM sg mX12_marks = true := by decide +kernel
set_option maxRecDepth 100000 in
theorem ok_X12_marksAll : okM sg mX12_marksAll = true := by decide +kernel
set_option maxRecDepth 100000 in
theorem ok_X12_actionWorth : okM sg mX12_actionWorth = true := by decide +kernel
set_option maxRecDepth 100000 in
theorem ok_X12_ends : okM sg mX12_ends = true := by decide +kernel
set_option maxRecDepth 100000 in
theorem ok_X12_tells : okM sg mX12_tells = true := by decide +kernel
set_option maxRecDepth 100000 in
theorem ok_X12_solves : okM sg mX12_solves = true := by decide +kernel
set_option maxRecDepth 100000 in
theorem ok_X12_isState : okM sg mX12_isState = true := by decide +kernel
set_option maxRecDepth 100000 in
theorem ok_X12_best : okM sg mX12_best = true := by decide +kernel
set_option maxRecDepth 100000 in
theorem ok_X12_isRule : okM sg mX12_isRule = true := by decide +kernel
set_option maxRecDepth 100000 in
theorem ok_X12_by : okM sg mX12_by = true := by decide +kernel
set_option maxRecDepth 100000 in
theorem ok_X12_says : okM sg mX12_says = true := by decide +kernel
set_option maxRecDepth 100000 in
theorem ok_X12_edge : okM sg mX12_edge = true := by decide +kernel
set_option maxRecDepth 100000 in
theorem ok_X12_firstWith : okM sg mX12_firstWith = true := by decide +kernel
set_option maxRecDepth 100000 in
theorem ok_X12_kept : okM sg mX12_kept = true := by decide +kernel
set_option maxRecDepth 100000 in
theorem ok_X12_together : okM sg mX12_together = true := by decide +kernel
set_option maxRecDepth 100000 in
theorem ok_X12_slower : okM sg mX12_slower = true := by decide +kernel
set_option maxRecDepth 100000 in
theorem ok_X12_isToldOther : okM sg mX12_isToldOther = true := by decide +kernel
set_option maxRecDepth 100000 in
theorem ok_X12_plays : okM sg mX12_plays = true := by decide +kernel
set_option maxRecDepth 100000 in
theorem ok_X12_isSome : okM sg mX12_isSome = true := by decide +kernel
set_option maxRecDepth 100000 in
theorem ok_X12_leastOf : okM sg mX12_leastOf = true := by decide +kernel
set_option maxRecDepth 100000 in
theorem ok_X12_greatestOf : okM sg mX12_greatestOf = true := by decide +kernel
set_option maxRecDepth 100000 in
theorem ok_X12_game : okM sg mX12_game = true := by decide +kernel
set_option maxRecDepth 100000 in
theorem ok_X12_less : okM sg mX12_less = true := by decide +kernel
set_option maxRecDepth 100000 in
theorem ok_X12_more : okM sg mX12_more = true := by decide +kernel
set_option maxRecDepth 100000 in
theorem ok_X12_gcd : okM sg mX12_gcd = true := by decide +kernel
set_option maxRecDepth 100000 in
theorem ok_X12_mixed : okM sg mX12_mixed = true := by decide +kernel
set_option maxRecDepth 100000 in
theorem ok_X12_begins : okM sg mX12_begins = true := by decide +kernel
set_option maxRecDepth 100000 in
theorem ok_X12_logs : okM sg mX12_logs = true := by decide +kernel
set_option maxRecDepth 100000 in
theorem ok_X12_happens : okM sg mX12_happens = true := by decide +kernel
set_option maxRecDepth 100000 in
theorem ok_X12_undo : okM sg mX12_undo = true := by decide +kernel
set_option maxRecDepth 100000 in
theorem ok_X12_logged : okM sg mX12_logged = true := by decide +kernel
set_option maxRecDepth 100000 in
theorem ok_X12_wrongIn : okM sg mX12_wrongIn = true := by decide +kernel
set_option maxRecDepth 100000 in
theorem ok_X12_wrong : okM sg mX12_wrong = true := by decide +kernel
set_option maxRecDepth 100000 in
theorem ok_X12_worst : okM sg mX12_worst = true := by decide +kernel
set_option maxRecDepth 100000 in
theorem ok_X12_draw : okM sg mX12_draw = true := by decide +kernel
set_option maxRecDepth 100000 in
theorem ok_X12_freshIn : okM sg mX12_freshIn = true := by decide +kernel
set_option maxRecDepth 100000 in
theorem ok_X12_freshAfter : okM sg mX12_freshAfter = true := by decide +kernel
set_option maxRecDepth 100000 in
theorem ok_X12_weekWorth : okM sg mX12_weekWorth = true := by decide +kernel
set_option maxRecDepth 100000 in
theorem ok_X12_seasonBy : okM sg mX12_seasonBy = true := by decide +kernel
set_option maxRecDepth 100000 in
theorem ok_X12_seasons : okM sg mX12_seasons = true := by decide +kernel
set_option maxRecDepth 100000 in
theorem ok_X12_season : okM sg mX12_season = true := by decide +kernel
set_option maxRecDepth 100000 in
theorem ok_X12_tapeNumber : okM sg mX12_tapeNumber = true := by decide +kernel
set_option maxRecDepth 100000 in
theorem ok_X12_check : okM sg mX12_check = true := by decide +kernel
set_option maxRecDepth 100000 in
theorem ok_X12_count : okM sg mX12_count = true := by decide +kernel
set_option maxRecDepth 100000 in
theorem ok_J0_length_8abf5 : okM sg mJ0_length_8abf5 = true := by decide +kernel
set_option maxRecDepth 100000 in
theorem ok_J0_indexOf_0f7a4 : okM sg mJ0_indexOf_0f7a4 = true := by decide +kernel
set_option maxRecDepth 100000 in
theorem ok_J0_indexOf_7cf53 : okM sg mJ0_indexOf_7cf53 = true := by decide +kernel
set_option maxRecDepth 100000 in
theorem ok_J0_coder_7d493 : okM sg mJ0_coder_7d493 = true := by decide +kernel
set_option maxRecDepth 100000 in
theorem ok_J0_isLatin1_aae02 : okM sg mJ0_isLatin1_aae02 = true := by decide +kernel
set_option maxRecDepth 100000 in
theorem ok_J1_canEncode_9a6ad : okM sg mJ1_canEncode_9a6ad = true := by decide +kernel
set_option maxRecDepth 100000 in
theorem ok_J1_indexOf_4cfef : okM sg mJ1_indexOf_4cfef = true := by decide +kernel
set_option maxRecDepth 100000 in
theorem ok_J1_indexOfChar_4cfef : okM sg mJ1_indexOfChar_4cfef = true := by decide +kernel
