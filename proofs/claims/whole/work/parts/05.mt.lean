def mtT : List (List Mth) := [
  [mX0_init, mX0_forget, mX0_against, mX0_keyOf, mX0_tune, mX0_first, mX0_valueOf, mX0_actionOf, mX0_valueBy, mX0_slotOf, mX0_held, mX0_search, mX0_sumOf, mX1_init, mX1_tell, mX1_codeBehind],
  [mX1_scoreBehind, mX1_actionIn, mX1_eventIn, mX1_isBehind, mX2_init, mX2_textAt, mX2_tell, mX2_clausesOf, mX2_isTold, mX2_setMoment, mX2_setPlaces, mX2_strongOf, mX2_ruleAction, mX2_shares, mX2_shareOf, mX2_within],
  [mX3_init, mX3_read, mX3_move, mX3_fail, mX3_isOneOf, mX3_expect, mX3_enter, mX3_clause, mX3_inRound, mX3_parts, mX3_part, mX3_piece, mX3_sum, mX3_term, mX3_factor, mX3_number],
  [mX4_init, mX4_set, mX4_ask, mX4_run, mX4_push, mX4_pop, mX4_both, mX5_at, mX5_put, mX5_longAt, mX5_putLong, mX5_clear, mX6_init, mX6_forget, mX6_planWorth, mX6_planRow],
  [mX6_begin, mX6_most, mX6_search, mX6_leastRow, mX6_isRow, mX6_worthOf, mX6_next, mX7_init, mX7_setPlayer, mX7_setPair, mX7_setFreshness, mX7_goodAt, mX7_legsAtFirst, mX7_pairOf, mX7_freshnessOf, mX7_worthOf],
  [mX7_scoreBehind, mX7_digit, mX7_unit, mX7_isOn, mX7_whoIsAt, mX7_howManyAt, mX7_changesMade, mX7_isWellFormed, mX7_isCode, mX7_lossOf, mX7_legsOf, mX7_playerOf, mX7_placeOf, mX7_changesOf, mX7_mayBe, mX7_isWaiting],
  [mX7_codeAfter, mX7_sendOn, mX7_takeOff, mX7_codeBehind, mX8_init, mX8_write, mX8_byteAt, mX8_numberAt, mX9_init, mX9_empty, mX9_beginClause, mX9_beginCondition, mX9_endClause, mX9_add, mX9_landHere, mX9_headOf],
  [mX9_sumOf, mX9_conditionOf, mX9_endOf, mX10_init, mX10_forget, mX10_first, mX10_from, mX10_value, mX10_likely, mX10_go, mX11_init, mX11_match, mX11_player, mX11_pair, mX11_worth, mX11_feed],
  [mX11_law, mX11_other, mX11_rule, mX11_may, mX11_after, mX11_chance, mX11_best, mX11_by, mX11_says, mX11_edge, mX11_kept, mX11_together, mX11_slower, mX11_game, mX11_mixed, mX11_happens],
  [mX11_undo, mX11_logged, mX11_wrong, mX11_worst, mX11_seed, mX11_draw, mX11_fresh, mX11_season, mX11_check, mX11_count, mX11_isPlayer, mX11_isDigit, mX11_isOther, mX11_isRule, mX11_isScore, mX11_isAction],
  [mX11_isState, mX11_isEnd, mX11_isLegal, mX11_isTwo, mX11_forgetMatch, mX11_readText, mX11_gameLow, mX11_gameHigh, mX11_isMet, mX11_mixedOf, mX11_greatestDivisor, mX11_wrongIn, mX11_drawPeriod, mX12_init, mX12_in, mX12_match],
  [mX12_player, mX12_pair, mX12_worth, mX12_seed, mX12_fresh, mX12_types, mX12_feed, mX12_here, mX12_isDigit, mX12_wrongAt, mX12_takes, mX12_readsNumber, mX12_notes, mX12_opens, mX12_top, mX12_factOf],
  [mX12_sumSign, mX12_closesSums, mX12_readsFactor, mX12_hasOpenSum, mX12_readsSum, mX12_endsPiece, mX12_lands, mX12_jumps, mX12_readsCompared, mX12_readsCondition, mX12_canBegin, mX12_readsClause, mX12_reads, mX12_law, mX12_other, mX12_rule],
  [mX12_reckon, mX12_comesTo, mX12_byText, mX12_digit, mX12_withDigit, mX12_taken, mX12_toldOf, mX12_made, mX12_whoAt, mX12_offWith, mX12_lossBy, mX12_legsAt, mX12_firstOf, mX12_secondOf, mX12_playerOf, mX12_placeOf],
  [mX12_changesOf, mX12_isAction, mX12_mayBe, mX12_changed, mX12_behind, mX12_isAhead, mX12_may, mX12_after, mX12_strength, mX12_feels, mX12_hurtAt, mX12_lots, mX12_isScore, mX12_isOther, mX12_chance, mX12_scoreAfter],
  [mX12_codeAfter, mX12_placeIn, mX12_ruled, mX12_marks, mX12_marksAll, mX12_actionWorth, mX12_ends, mX12_tells, mX12_solves, mX12_isState, mX12_best, mX12_isRule, mX12_by, mX12_says, mX12_edge, mX12_firstWith],
  [mX12_kept, mX12_together, mX12_slower, mX12_isToldOther, mX12_plays, mX12_isSome, mX12_leastOf, mX12_greatestOf, mX12_game, mX12_less, mX12_more, mX12_gcd, mX12_mixed, mX12_begins, mX12_logs, mX12_happens],
  [mX12_undo, mX12_logged, mX12_wrongIn, mX12_wrong, mX12_worst, mX12_draw, mX12_freshIn, mX12_freshAfter, mX12_weekWorth, mX12_seasonBy, mX12_seasons, mX12_season, mX12_tapeNumber, mX12_check, mX12_count, mJ0_length_8abf5],
  [mJ0_indexOf_0f7a4, mJ0_indexOf_7cf53, mJ0_coder_7d493, mJ0_isLatin1_aae02, mJ1_canEncode_9a6ad, mJ1_indexOf_4cfef, mJ1_indexOfChar_4cfef, mL_law]]
def mD : Mth := (yL_law, code, 4, some .boolean, (0, 0), [], (0, 0, 0, 0), 0, 3)
def mt (g : Nat) : Mth := nth (nth mtT (g / 16) []) (g % 16) mD
def aM (g : Nat) : Nat × Nat := (sg g).2.1
theorem nth_mem {α : Type} (d : α) : ∀ (l : List α) (k : Nat), nth l k d ∈ l ∨ nth l k d = d
  | [], _ => Or.inr rfl
  | x :: l, 0 => Or.inl List.mem_cons_self
  | x :: l, k + 1 => (nth_mem d l k).elim (fun h => Or.inl (List.mem_cons_of_mem _ h)) Or.inr
theorem sg_mt (g : Nat) : sg g = ((mt g).1, (mt g).2.2.2.2.1, (mt g).2.2.2.2.2.2.2.1, (mt g).2.2.2.2.2.2.2.2) ∨ (sg g).2.2.2 = 3 := by
  have nm : ∀ {α β : Type} (F : α → β) (d : α) (l : List α) (k : Nat), nth (l.map F) k (F d) = F (nth l k d) := by
    intro α β F d l
    induction l with
    | nil => intro k; rfl
    | cons x l ih =>
      intro k
      cases k with
      | zero => rfl
      | succ k => exact ih k
  have h0 : sgT = mtT.map (fun r => r.map (fun f => (f.1, f.2.2.2.2.1, f.2.2.2.2.2.2.2.1, f.2.2.2.2.2.2.2.2))) := rfl
  left
  unfold sg mt
  rw [h0]
  have h1 := nm (fun r : List Mth => r.map (fun f => ((f.1, f.2.2.2.2.1, f.2.2.2.2.2.2.2.1, f.2.2.2.2.2.2.2.2) : Sg))) [] mtT (g / 16)
  have h2 := nm (fun f : Mth => ((f.1, f.2.2.2.2.1, f.2.2.2.2.2.2.2.1, f.2.2.2.2.2.2.2.2) : Sg)) mD (nth mtT (g / 16) []) (g % 16)
  exact (congrArg (fun l => nth l (g % 16) _) h1).trans h2
