def lk2 {β : Type} (L : List (List (Nat × β))) (o ix : Nat) : Option β := match L[o]? with
  | some l => (l.find? (fun e => e.1 == ix)).map (·.2)
  | none => none
def Rn (o : Nat) : String := ([RX0, RX1, RX2, RX3, RX4, RX5, RX6, RX7, RX8, RX9, RL, RJ6, RJ9, RJ0, RJ1] : List String).getD o ""
/-- a method: class, name, code, locals, what it answers, frames, words, static -/
abbrev mRow : Type := Nat × MethodName × ByteArray × Nat × Option FieldType × Nat × Nat × Bool
def mt_0 : List mRow := [(0, yX0_init, cX0_init, 1, none, 1, 20, false), (0, yX0_settle, cX0_settle, 7, some .int, 1, 22, false), (0, yX0_partsOf, cX0_partsOf, 2, some .int, 1, 22, false), (0, yX0_reduce, cX0_reduce, 3, none, 0, 0, false), (1, yX1_init, cX1_init, 1, none, 1, 20, false), (1, yX1_asDrawn, cX1_asDrawn, 1, none, 1, 22, false), (1, yX1_asItGoes, cX1_asItGoes, 1, none, 1, 22, false), (1, yX1_otherwise, cX1_otherwise, 3, none, 0, 0, false), (1, yX1_run, cX1_run, 6, none, 6, 146, false), (1, yX1_rung, cX1_rung, 8, none, 5, 119, false), (1, yX1_age, cX1_age, 8, none, 5, 119, false), (1, yX1_worth, cX1_worth, 6, some .long, 4, 94, false), (1, yX1_reckon, cX1_reckon, 7, some .long, 3, 68, false), (1, yX1_joined, cX1_joined, 5, some .long, 2, 44, true), (1, yX1_asValue, cX1_asValue, 1, some .long, 0, 0, true), (1, yX1_bounded, cX1_bounded, 2, some .long, 0, 0, true), (1, yX1_product, cX1_product, 4, some .long, 1, 21, true), (2, yX2_init, cX2_init, 1, none, 1, 20, false), (2, yX2_begin, cX2_begin, 3, none, 1, 20, false), (2, yX2_become, cX2_become, 2, none, 1, 60, false), (2, yX2_shownLamps, cX2_shownLamps, 1, some .int, 0, 0, false), (2, yX2_freePulls, cX2_freePulls, 2, some .int, 0, 0, false), (2, yX2_pullsTiedTo, cX2_pullsTiedTo, 4, some .int, 0, 0, false), (2, yX2_howManyTies, cX2_howManyTies, 3, some .int, 1, 20, false), (2, yX2_makeWhole, cX2_makeWhole, 1, none, 0, 0, false), (2, yX2_draw, cX2_draw, 1, some .int, 0, 0, false), (3, yX3_init, cX3_init, 1, none, 1, 20, false), (3, yX3_forget, cX3_forget, 1, none, 0, 0, false), (3, yX3_write, cX3_write, 4, some .int, 0, 0, false), (3, yX3_writeStrike, cX3_writeStrike, 2, some .int, 1, 23, false), (3, yX3_howManyKnown, cX3_howManyKnown, 1, some .int, 0, 0, false), (3, yX3_look, cX3_look, 6, some .int, 2, 45, false), (3, yX3_isFitting, cX3_isFitting, 3, some .boolean, 0, 0, false), (3, yX3_gatherKnown, cX3_gatherKnown, 3, none, 1, 23, false), (3, yX3_gatherOne, cX3_gatherOne, 4, none, 0, 0, false), (4, yX4_init, cX4_init, 1, none, 2, 40, false), (4, yX4_take, cX4_take, 3, none, 0, 0, false), (4, yX4_giveFor, cX4_giveFor, 3, some (.object "BellPulls$Told"), 0, 0, false), (4, yX4_begin, cX4_begin, 2, none, 1, 21, false), (4, yX4_hasMore, cX4_hasMore, 1, some .boolean, 9, 227, false), (4, yX4_refuse, cX4_refuse, 2, some .boolean, 0, 0, false), (4, yX4_at, cX4_at, 2, some .int, 0, 0, false), (4, yX4_isLetter, cX4_isLetter, 1, some .boolean, 0, 0, true), (4, yX4_isDigit, cX4_isDigit, 1, some .boolean, 0, 0, true), (4, yX4_next, cX4_next, 1, none, 8, 207, false), (4, yX4_nextWord, cX4_nextWord, 2, none, 7, 186, false), (4, yX4_kindOfWord, cX4_kindOfWord, 5, some .int, 6, 162, false), (4, yX4_nextNumber, cX4_nextNumber, 1, none, 1, 21, false), (4, yX4_nextSign, cX4_nextSign, 4, none, 4, 91, false), (4, yX4_wants, cX4_wants, 2, some .boolean, 9, 227, false)]
def mt_1 : List mRow := [(4, yX4_wantsNumber, cX4_wantsNumber, 2, some .boolean, 9, 227, false), (4, yX4_readLine, cX4_readLine, 2, some .boolean, 11, 270, false), (4, yX4_readLamp, cX4_readLamp, 2, some .boolean, 10, 248, false), (4, yX4_readPull, cX4_readPull, 2, some .boolean, 10, 248, false), (4, yX4_readTies, cX4_readTies, 5, some .boolean, 9, 227, false), (4, yX4_readLit, cX4_readLit, 2, some .boolean, 10, 248, false), (4, yX4_readRing, cX4_readRing, 3, some .boolean, 10, 248, false), (4, yX4_readMend, cX4_readMend, 2, some .boolean, 10, 248, false), (4, yX4_readBurn, cX4_readBurn, 1, some .boolean, 10, 248, false), (4, yX4_readSeed, cX4_readSeed, 1, some .boolean, 10, 248, false), (4, yX4_readLaw, cX4_readLaw, 2, some .boolean, 10, 249, false), (4, yX4_readWorth, cX4_readWorth, 3, some .boolean, 9, 227, false), (4, yX4_takeValue, cX4_takeValue, 1, some .boolean, 3, 62, false), (4, yX4_takeSign, cX4_takeSign, 3, some .boolean, 3, 63, false), (4, yX4_openOne, cX4_openOne, 1, some .boolean, 2, 42, false), (4, yX4_takeKnot, cX4_takeKnot, 1, some .boolean, 1, 21, false), (4, yX4_putOff, cX4_putOff, 2, some .boolean, 1, 21, false), (4, yX4_addStep, cX4_addStep, 2, some .boolean, 1, 21, false), (4, yX4_settle, cX4_settle, 2, none, 2, 42, false), (4, yX4_bindingOf, cX4_bindingOf, 1, some .int, 0, 0, true), (5, yX5_init, cX5_init, 1, none, 1, 20, false), (5, yX5_gather, cX5_gather, 6, none, 0, 0, false), (5, yX5_turnedBy, cX5_turnedBy, 2, some .int, 0, 0, false), (5, yX5_isWay, cX5_isWay, 3, some .boolean, 0, 0, false), (5, yX5_howMany, cX5_howMany, 4, some .int, 1, 22, false), (5, yX5_ofFewest, cX5_ofFewest, 4, some .int, 1, 22, false), (5, yX5_ofFewestSilent, cX5_ofFewestSilent, 3, some .int, 1, 22, false), (5, yX5_ofLeastCost, cX5_ofLeastCost, 7, some .int, 1, 23, false), (5, yX5_inAll, cX5_inAll, 4, some .int, 1, 22, false), (5, yX5_inNone, cX5_inNone, 4, some .int, 1, 22, false), (5, yX5_ofDarkest, cX5_ofDarkest, 4, some .int, 2, 42, false), (5, yX5_darkness, cX5_darkness, 3, some .int, 1, 20, false), (5, yX5_eveningsOf, cX5_eveningsOf, 6, some .int, 1, 20, false), (5, yX5_play, cX5_play, 3, some .int, 2, 47, false), (5, yX5_bestFrom, cX5_bestFrom, 6, some .int, 1, 22, false), (5, yX5_outcomeBy, cX5_outcomeBy, 3, some .int, 0, 0, false), (5, yX5_firstPullTo, cX5_firstPullTo, 5, some .int, 1, 22, false), (6, yX6_init, cX6_init, 1, none, 1, 20, false), (6, yX6_empty, cX6_empty, 2, none, 0, 0, false), (6, yX6_lampCalled, cX6_lampCalled, 3, some .int, 0, 0, false), (6, yX6_pullCalled, cX6_pullCalled, 3, some .int, 0, 0, false), (6, yX6_hasLaw, cX6_hasLaw, 2, some .boolean, 0, 0, false), (6, yX6_burnOdds, cX6_burnOdds, 1, some .int, 0, 0, false), (6, yX6_firstNumber, cX6_firstNumber, 1, some .int, 0, 0, false), (6, yX6_mendsIn, cX6_mendsIn, 3, some .boolean, 0, 0, false), (6, yX6_costOf, cX6_costOf, 4, some .int, 0, 0, false), (7, yX7_init, cX7_init, 1, none, 1, 20, false), (7, yX7_forget, cX7_forget, 1, none, 0, 0, false), (7, yX7_remember, cX7_remember, 4, none, 1, 21, false), (7, yX7_takeBack, cX7_takeBack, 3, some .int, 0, 0, false)]
def mt_2 : List mRow := [(8, yX8_init, cX8_init, 1, none, 3, 60, false), (8, yX8_feed, cX8_feed, 6, some .int, 1, 22, false), (8, yX8_text, cX8_text, 3, some .int, 12, 291, false), (8, yX8_fault, cX8_fault, 2, some .int, 0, 0, false), (8, yX8_named, cX8_named, 3, some .int, 1, 22, false), (8, yX8_pull, cX8_pull, 3, some .int, 1, 21, false), (8, yX8_evening, cX8_evening, 2, some .int, 1, 20, false), (8, yX8_law, cX8_law, 4, some .long, 5, 119, false), (8, yX8_ring, cX8_ring, 2, some .int, 6, 146, false), (8, yX8_tie, cX8_tie, 3, some .int, 2, 44, false), (8, yX8_mend, cX8_mend, 1, some .boolean, 2, 44, false), (8, yX8_go, cX8_go, 2, some .int, 7, 171, false), (8, yX8_ahead, cX8_ahead, 3, some .int, 7, 171, false), (8, yX8_dark, cX8_dark, 3, some .int, 7, 171, false), (8, yX8_ways, cX8_ways, 2, some .int, 2, 45, false), (8, yX8_fewest, cX8_fewest, 2, some .int, 2, 45, false), (8, yX8_cheapest, cX8_cheapest, 4, some .int, 2, 49, false), (8, yX8_must, cX8_must, 4, some .int, 2, 45, false), (8, yX8_rank, cX8_rank, 1, some .int, 3, 68, false), (8, yX8_basis, cX8_basis, 1, some .int, 3, 68, false), (8, yX8_sumOf, cX8_sumOf, 3, some .int, 2, 48, false), (8, yX8_silent, cX8_silent, 2, some .int, 2, 45, false), (8, yX8_darkest, cX8_darkest, 4, some .int, 3, 65, false), (8, yX8_twins, cX8_twins, 6, some .int, 1, 23, false), (8, yX8_fixed, cX8_fixed, 4, some .int, 1, 23, false), (8, yX8_knot, cX8_knot, 6, some .int, 4, 92, false), (8, yX8_apart, cX8_apart, 4, some .int, 2, 45, false), (8, yX8_evenings, cX8_evenings, 2, some .int, 3, 68, false), (8, yX8_game, cX8_game, 4, some .int, 3, 69, false), (8, yX8_holds, cX8_holds, 10, some .long, 1, 20, false), (8, yX8_note, cX8_note, 5, some .int, 1, 23, false), (8, yX8_strike, cX8_strike, 2, some .int, 2, 44, false), (8, yX8_known, cX8_known, 2, some .boolean, 0, 0, false), (8, yX8_fits, cX8_fits, 1, some .int, 4, 90, false), (8, yX8_rang, cX8_rang, 2, some .int, 4, 90, false), (8, yX8_ask, cX8_ask, 2, some .int, 4, 90, false), (8, yX8_chance, cX8_chance, 7, some .int, 7, 171, false), (8, yX8_tried, cX8_tried, 5, some .int, 7, 171, false), (8, yX8_undo, cX8_undo, 1, some .int, 1, 22, false), (8, yX8_keep, cX8_keep, 1, some .int, 2, 81, false), (8, yX8_back, cX8_back, 1, some .int, 2, 81, false), (8, yX8_count, cX8_count, 2, some .int, 2, 42, false), (8, yX8_isLamp, cX8_isLamp, 2, some .boolean, 0, 0, false), (8, yX8_isPull, cX8_isPull, 2, some .boolean, 0, 0, false), (8, yX8_areLamps, cX8_areLamps, 2, some .boolean, 0, 0, false), (8, yX8_gatherFree, cX8_gatherFree, 1, none, 1, 25, false), (8, yX8_basisNow, cX8_basisNow, 1, some .int, 2, 48, false), (8, yX8_lampThatOpens, cX8_lampThatOpens, 5, some .int, 3, 68, false), (8, yX8_lookAtNotes, cX8_lookAtNotes, 1, some .int, 3, 70, false), (9, yX9_init, cX9_init, 1, none, 3, 63, false)]
def mt_3 : List mRow := [(9, yX9_thrown, cX9_thrown, 1, some .int, 0, 0, false), (9, yX9_feed, cX9_feed, 8, some .int, 0, 0, false), (9, yX9_isIn, cX9_isIn, 3, some .boolean, 0, 0, true), (9, yX9_isOf, cX9_isOf, 2, some .boolean, 0, 0, true), (9, yX9_wrong, cX9_wrong, 2, some .boolean, 0, 0, false), (9, yX9_wordAt, cX9_wordAt, 8, some .int, 0, 0, false), (9, yX9_isSmall, cX9_isSmall, 2, some .boolean, 0, 0, false), (9, yX9_isDigit, cX9_isDigit, 2, some .boolean, 0, 0, false), (9, yX9_token, cX9_token, 1, none, 1, 27, false), (9, yX9_signToken, cX9_signToken, 4, none, 0, 0, false), (9, yX9_packed, cX9_packed, 5, some .int, 0, 0, false), (9, yX9_isKey, cX9_isKey, 2, some .boolean, 0, 0, false), (9, yX9_isSign, cX9_isSign, 2, some .boolean, 0, 0, false), (9, yX9_number, cX9_number, 3, some .boolean, 2, 47, false), (9, yX9_plain, cX9_plain, 2, none, 0, 0, false), (9, yX9_copies, cX9_copies, 3, none, 0, 0, true), (9, yX9_keepText, cX9_keepText, 2, none, 2, 42, false), (9, yX9_find, cX9_find, 5, some .int, 0, 0, true), (9, yX9_newName, cX9_newName, 4, some .boolean, 2, 47, false), (9, yX9_thereIn, cX9_thereIn, 5, some .boolean, 2, 47, false), (9, yX9_lampLine, cX9_lampLine, 1, some .boolean, 3, 70, false), (9, yX9_lampFor, cX9_lampFor, 3, some .boolean, 3, 71, false), (9, yX9_pullLine, cX9_pullLine, 2, some .boolean, 4, 93, false), (9, yX9_litLine, cX9_litLine, 1, some .boolean, 4, 93, false), (9, yX9_ringLine, cX9_ringLine, 2, some .boolean, 3, 71, false), (9, yX9_mendLine, cX9_mendLine, 1, some .boolean, 3, 69, false), (9, yX9_onceLine, cX9_onceLine, 3, some .boolean, 3, 69, false), (9, yX9_lineRead, cX9_lineRead, 3, some .boolean, 5, 114, false), (9, yX9_text, cX9_text, 3, some .int, 6, 136, false), (9, yX9_fault, cX9_fault, 2, some .int, 0, 0, false), (9, yX9_named, cX9_named, 3, some .int, 1, 24, false), (9, yX9_standing, cX9_standing, 1, some .int, 0, 0, true), (9, yX9_grown, cX9_grown, 4, none, 0, 0, false), (9, yX9_dropHeld, cX9_dropHeld, 1, some .int, 0, 0, false), (9, yX9_bind, cX9_bind, 5, none, 1, 23, false), (9, yX9_isCounted, cX9_isCounted, 1, some .boolean, 1, 21, false), (9, yX9_waitsFor, cX9_waitsFor, 2, none, 0, 0, false), (9, yX9_nameMet, cX9_nameMet, 1, some .int, 0, 0, false), (9, yX9_leafRead, cX9_leafRead, 2, some .boolean, 2, 47, false), (9, yX9_signs, cX9_signs, 2, some .boolean, 2, 47, false), (9, yX9_sumRead, cX9_sumRead, 1, some .boolean, 3, 68, false), (9, yX9_bounded, cX9_bounded, 3, some .long, 0, 0, false), (9, yX9_compares, cX9_compares, 5, some .boolean, 0, 0, true), (9, yX9_times, cX9_times, 6, some .long, 0, 0, false), (9, yX9_valueOf, cX9_valueOf, 6, some .long, 1, 25, false), (9, yX9_begin, cX9_begin, 1, none, 1, 22, false), (9, yX9_atFirst, cX9_atFirst, 3, none, 0, 0, false), (9, yX9_plainTried, cX9_plainTried, 1, none, 0, 0, false), (9, yX9_layTried, cX9_layTried, 2, none, 1, 20, false), (9, yX9_isLamp, cX9_isLamp, 2, some .boolean, 0, 0, false)]
def mt_4 : List mRow := [(9, yX9_isPull, cX9_isPull, 2, some .boolean, 0, 0, false), (9, yX9_areLamps, cX9_areLamps, 2, some .boolean, 0, 0, false), (9, yX9_manyOf, cX9_manyOf, 3, some .int, 0, 0, true), (9, yX9_shown2, cX9_shown2, 2, some .int, 0, 0, false), (9, yX9_tiedTo, cX9_tiedTo, 6, some .int, 1, 21, false), (9, yX9_layAll, cX9_layAll, 2, none, 1, 22, false), (9, yX9_layPull, cX9_layPull, 3, none, 2, 43, false), (9, yX9_layLamp, cX9_layLamp, 3, none, 2, 46, false), (9, yX9_lawOf, cX9_lawOf, 3, some .long, 2, 50, false), (9, yX9_boundLaw, cX9_boundLaw, 6, some .int, 3, 72, false), (9, yX9_ringsOne, cX9_ringsOne, 5, none, 4, 97, false), (9, yX9_number1, cX9_number1, 2, some .int, 0, 0, false), (9, yX9_isFate, cX9_isFate, 4, some .boolean, 4, 97, false), (9, yX9_minuteGoes, cX9_minuteGoes, 4, none, 5, 121, false), (9, yX9_goMany, cX9_goMany, 3, none, 6, 144, false), (9, yX9_fails, cX9_fails, 2, some .int, 0, 0, false), (9, yX9_lamp, cX9_lamp, 3, some .int, 2, 46, false), (9, yX9_pull, cX9_pull, 3, some .int, 1, 21, false), (9, yX9_evening, cX9_evening, 2, some .int, 1, 21, false), (9, yX9_law, cX9_law, 5, some .long, 3, 72, false), (9, yX9_ring, cX9_ring, 2, some .int, 5, 121, false), (9, yX9_tie, cX9_tie, 3, some .int, 2, 44, false), (9, yX9_mend, cX9_mend, 1, some .boolean, 2, 44, false), (9, yX9_go, cX9_go, 3, some .int, 6, 144, false), (9, yX9_ahead, cX9_ahead, 3, some .int, 7, 166, false), (9, yX9_dark, cX9_dark, 3, some .int, 6, 144, false), (9, yX9_layTurns, cX9_layTurns, 3, none, 1, 21, false), (9, yX9_turnsTo, cX9_turnsTo, 3, some .boolean, 0, 0, false), (9, yX9_costOf, cX9_costOf, 4, some .int, 1, 21, false), (9, yX9_ways, cX9_ways, 4, some .int, 2, 43, false), (9, yX9_fewestTo, cX9_fewestTo, 4, some .int, 1, 22, false), (9, yX9_fewest, cX9_fewest, 2, some .int, 2, 45, false), (9, yX9_cheapest, cX9_cheapest, 5, some .int, 2, 44, false), (9, yX9_must, cX9_must, 7, some .int, 2, 43, false), (9, yX9_silentMany, cX9_silentMany, 3, some .int, 1, 22, false), (9, yX9_rankNow, cX9_rankNow, 3, some .int, 2, 44, false), (9, yX9_rank, cX9_rank, 1, some .int, 3, 66, false), (9, yX9_isSum, cX9_isSum, 4, some .boolean, 1, 22, false), (9, yX9_basisNow, cX9_basisNow, 3, some .int, 2, 45, false), (9, yX9_basis, cX9_basis, 1, some .int, 3, 67, false), (9, yX9_sumOf, cX9_sumOf, 4, some .int, 3, 67, false), (9, yX9_silent, cX9_silent, 4, some .int, 2, 44, false), (9, yX9_darkest, cX9_darkest, 5, some .int, 2, 43, false), (9, yX9_twins, cX9_twins, 4, some .int, 2, 46, false), (9, yX9_fixed, cX9_fixed, 3, some .int, 2, 46, false), (9, yX9_rankBy, cX9_rankBy, 5, some .int, 1, 21, false), (9, yX9_knot, cX9_knot, 6, some .int, 2, 45, false), (9, yX9_apart, cX9_apart, 4, some .int, 2, 45, false), (9, yX9_evenings, cX9_evenings, 4, some .int, 2, 44, false), (9, yX9_worthBy, cX9_worthBy, 3, some .int, 0, 0, false)]
def mt_5 : List mRow := [(9, yX9_layWorth, cX9_layWorth, 5, none, 2, 43, false), (9, yX9_game, cX9_game, 3, some .int, 3, 67, false), (9, yX9_holds, cX9_holds, 13, some .long, 1, 22, false), (9, yX9_notes1, cX9_notes1, 5, some .int, 0, 0, false), (9, yX9_note, cX9_note, 4, some .int, 1, 24, false), (9, yX9_strike, cX9_strike, 2, some .int, 1, 24, false), (9, yX9_known, cX9_known, 2, some .boolean, 1, 22, false), (9, yX9_knownBy, cX9_knownBy, 1, some .int, 0, 0, false), (9, yX9_layCounts, cX9_layCounts, 2, none, 1, 20, false), (9, yX9_eveningBy, cX9_eveningBy, 4, some .int, 1, 21, false), (9, yX9_isSo, cX9_isSo, 5, some .boolean, 2, 44, false), (9, yX9_fits, cX9_fits, 3, some .int, 3, 68, false), (9, yX9_rang, cX9_rang, 5, some .int, 3, 68, false), (9, yX9_ask, cX9_ask, 4, some .int, 3, 68, false), (9, yX9_chance, cX9_chance, 8, some .int, 7, 166, false), (9, yX9_tried, cX9_tried, 4, some .int, 7, 166, false), (9, yX9_put, cX9_put, 4, none, 0, 0, false), (9, yX9_take, cX9_take, 4, none, 0, 0, false), (9, yX9_remember, cX9_remember, 2, none, 1, 23, false), (9, yX9_undo, cX9_undo, 1, some .int, 1, 23, false), (9, yX9_keep, cX9_keep, 2, some .int, 1, 23, false), (9, yX9_back, cX9_back, 2, some .int, 1, 23, false), (9, yX9_count, cX9_count, 4, some .int, 1, 22, false), (10, yL_law, cL_law, 7, some .boolean, 13, 313, true), (11, yJ6_numberOfLeadingZeros_0f7a4, cJ6_numberOfLeadingZeros_0f7a4, 2, some .int, 0, 0, true), (11, yJ6_numberOfTrailingZeros_0f7a4, cJ6_numberOfTrailingZeros_0f7a4, 2, some .int, 0, 0, true), (11, yJ6_bitCount_0f7a4, cJ6_bitCount_0f7a4, 1, some .int, 0, 0, true), (12, yJ9_abs_067f4, cJ9_abs_067f4, 2, some .long, 0, 0, true), (12, yJ9_max_7cf53, cJ9_max_7cf53, 2, some .int, 0, 0, true), (12, yJ9_max_f86c9, cJ9_max_f86c9, 4, some .long, 0, 0, true), (12, yJ9_min_7cf53, cJ9_min_7cf53, 2, some .int, 0, 0, true), (12, yJ9_min_f86c9, cJ9_min_f86c9, 4, some .long, 0, 0, true), (13, yJ0_length_8abf5, cJ0_length_8abf5, 1, some .int, 1, 20, false), (13, yJ0_charAt_5068e, cJ0_charAt_5068e, 2, some .char, 5, 141, false), (13, yJ0_indexOf_0f7a4, cJ0_indexOf_0f7a4, 2, some .int, 3, 70, false), (13, yJ0_indexOf_7cf53, cJ0_indexOf_7cf53, 3, some .int, 2, 48, false), (13, yJ0_coder_7d493, cJ0_coder_7d493, 1, some .byte, 0, 0, false), (13, yJ0_isLatin1_aae02, cJ0_isLatin1_aae02, 1, some .boolean, 0, 0, false), (13, yJ0_checkIndex_df160, cJ0_checkIndex_df160, 2, none, 0, 0, true), (13, yJ0_checkBoundsBeginEnd_23922, cJ0_checkBoundsBeginEnd_23922, 3, none, 0, 0, true), (14, yJ1_charAt_3b067, cJ1_charAt_3b067, 2, some .char, 4, 120, true), (14, yJ1_canEncode_9a6ad, cJ1_canEncode_9a6ad, 1, some .boolean, 0, 0, true), (14, yJ1_indexOf_4cfef, cJ1_indexOf_4cfef, 4, some .int, 1, 25, true), (14, yJ1_indexOfChar_4cfef, cJ1_indexOfChar_4cfef, 6, some .int, 0, 0, true)]
abbrev cX8_lamp : ByteArray := prog_1_method_6_code
def yX8_lamp : MethodName := ⟨RX8, "lamp", "(II)I"⟩
abbrev cL_lamp : ByteArray := method_3_code
def yL_lamp : MethodName := ⟨RL, "lamp", "(LBellPulls;II[J)I"⟩
/-- the class's lamp, which throws: number 300, called by no row of the tables below -/
def mt_6 : List mRow := [(8, yX8_lamp, cX8_lamp, 3, some .int, 6, 82, false)]
def mtab : List (List mRow) := [mt_0, mt_1, mt_2, mt_3, mt_4, mt_5, mt_6]
def mrow (M : Nat) : Option mRow := match mtab[M / 50]? with
  | some l => l[M % 50]?
  | none => none
def oM (M : Nat) : Nat := match mrow M with
  | some e => e.1
  | none => 0
def yM (M : Nat) : MethodName := match mrow M with
  | some e => e.2.1
  | none => ⟨"", "", ""⟩
def cM (M : Nat) : ByteArray := match mrow M with
  | some e => e.2.2.1
  | none => ⟨#[]⟩
def xM (M : Nat) : Nat := match mrow M with
  | some e => e.2.2.2.1
  | none => 0
def rM (M : Nat) : Option FieldType := match mrow M with
  | some e => e.2.2.2.2.1
  | none => none
def frM (M : Nat) : Nat := match mrow M with
  | some e => e.2.2.2.2.2.1
  | none => 0
def loM (M : Nat) : Nat := match mrow M with
  | some e => e.2.2.2.2.2.2.1
  | none => 0
def stM (M : Nat) : Bool := match mrow M with
  | some e => e.2.2.2.2.2.2.2
  | none => false
abbrev mX0_init : Nat := 0
abbrev mX0_settle : Nat := 1
abbrev mX0_partsOf : Nat := 2
abbrev mX0_reduce : Nat := 3
abbrev mX1_init : Nat := 4
abbrev mX1_asDrawn : Nat := 5
abbrev mX1_asItGoes : Nat := 6
abbrev mX1_otherwise : Nat := 7
abbrev mX1_run : Nat := 8
abbrev mX1_rung : Nat := 9
abbrev mX1_age : Nat := 10
abbrev mX1_worth : Nat := 11
abbrev mX1_reckon : Nat := 12
abbrev mX1_joined : Nat := 13
abbrev mX1_asValue : Nat := 14
abbrev mX1_bounded : Nat := 15
abbrev mX1_product : Nat := 16
abbrev mX2_init : Nat := 17
abbrev mX2_begin : Nat := 18
abbrev mX2_become : Nat := 19
abbrev mX2_shownLamps : Nat := 20
abbrev mX2_freePulls : Nat := 21
abbrev mX2_pullsTiedTo : Nat := 22
abbrev mX2_howManyTies : Nat := 23
abbrev mX2_makeWhole : Nat := 24
abbrev mX2_draw : Nat := 25
abbrev mX3_init : Nat := 26
abbrev mX3_forget : Nat := 27
abbrev mX3_write : Nat := 28
abbrev mX3_writeStrike : Nat := 29
abbrev mX3_howManyKnown : Nat := 30
abbrev mX3_look : Nat := 31
abbrev mX3_isFitting : Nat := 32
abbrev mX3_gatherKnown : Nat := 33
abbrev mX3_gatherOne : Nat := 34
abbrev mX4_init : Nat := 35
abbrev mX4_take : Nat := 36
abbrev mX4_giveFor : Nat := 37
abbrev mX4_begin : Nat := 38
abbrev mX4_hasMore : Nat := 39
abbrev mX4_refuse : Nat := 40
abbrev mX4_at : Nat := 41
abbrev mX4_isLetter : Nat := 42
abbrev mX4_isDigit : Nat := 43
abbrev mX4_next : Nat := 44
abbrev mX4_nextWord : Nat := 45
abbrev mX4_kindOfWord : Nat := 46
abbrev mX4_nextNumber : Nat := 47
abbrev mX4_nextSign : Nat := 48
abbrev mX4_wants : Nat := 49
abbrev mX4_wantsNumber : Nat := 50
abbrev mX4_readLine : Nat := 51
abbrev mX4_readLamp : Nat := 52
abbrev mX4_readPull : Nat := 53
abbrev mX4_readTies : Nat := 54
abbrev mX4_readLit : Nat := 55
abbrev mX4_readRing : Nat := 56
abbrev mX4_readMend : Nat := 57
abbrev mX4_readBurn : Nat := 58
abbrev mX4_readSeed : Nat := 59
abbrev mX4_readLaw : Nat := 60
abbrev mX4_readWorth : Nat := 61
abbrev mX4_takeValue : Nat := 62
abbrev mX4_takeSign : Nat := 63
abbrev mX4_openOne : Nat := 64
abbrev mX4_takeKnot : Nat := 65
abbrev mX4_putOff : Nat := 66
abbrev mX4_addStep : Nat := 67
abbrev mX4_settle : Nat := 68
abbrev mX4_bindingOf : Nat := 69
abbrev mX5_init : Nat := 70
abbrev mX5_gather : Nat := 71
abbrev mX5_turnedBy : Nat := 72
abbrev mX5_isWay : Nat := 73
abbrev mX5_howMany : Nat := 74
abbrev mX5_ofFewest : Nat := 75
abbrev mX5_ofFewestSilent : Nat := 76
abbrev mX5_ofLeastCost : Nat := 77
abbrev mX5_inAll : Nat := 78
abbrev mX5_inNone : Nat := 79
abbrev mX5_ofDarkest : Nat := 80
abbrev mX5_darkness : Nat := 81
abbrev mX5_eveningsOf : Nat := 82
abbrev mX5_play : Nat := 83
abbrev mX5_bestFrom : Nat := 84
abbrev mX5_outcomeBy : Nat := 85
abbrev mX5_firstPullTo : Nat := 86
abbrev mX6_init : Nat := 87
abbrev mX6_empty : Nat := 88
abbrev mX6_lampCalled : Nat := 89
abbrev mX6_pullCalled : Nat := 90
abbrev mX6_hasLaw : Nat := 91
abbrev mX6_burnOdds : Nat := 92
abbrev mX6_firstNumber : Nat := 93
abbrev mX6_mendsIn : Nat := 94
abbrev mX6_costOf : Nat := 95
abbrev mX7_init : Nat := 96
abbrev mX7_forget : Nat := 97
abbrev mX7_remember : Nat := 98
abbrev mX7_takeBack : Nat := 99
abbrev mX8_init : Nat := 100
abbrev mX8_feed : Nat := 101
abbrev mX8_text : Nat := 102
abbrev mX8_fault : Nat := 103
abbrev mX8_named : Nat := 104
abbrev mX8_pull : Nat := 105
abbrev mX8_evening : Nat := 106
abbrev mX8_law : Nat := 107
abbrev mX8_ring : Nat := 108
abbrev mX8_tie : Nat := 109
abbrev mX8_mend : Nat := 110
abbrev mX8_go : Nat := 111
abbrev mX8_ahead : Nat := 112
abbrev mX8_dark : Nat := 113
abbrev mX8_ways : Nat := 114
abbrev mX8_fewest : Nat := 115
abbrev mX8_cheapest : Nat := 116
abbrev mX8_must : Nat := 117
abbrev mX8_rank : Nat := 118
abbrev mX8_basis : Nat := 119
abbrev mX8_sumOf : Nat := 120
abbrev mX8_silent : Nat := 121
abbrev mX8_darkest : Nat := 122
abbrev mX8_twins : Nat := 123
abbrev mX8_fixed : Nat := 124
abbrev mX8_knot : Nat := 125
abbrev mX8_apart : Nat := 126
abbrev mX8_evenings : Nat := 127
abbrev mX8_game : Nat := 128
abbrev mX8_holds : Nat := 129
abbrev mX8_note : Nat := 130
abbrev mX8_strike : Nat := 131
abbrev mX8_known : Nat := 132
abbrev mX8_fits : Nat := 133
abbrev mX8_rang : Nat := 134
abbrev mX8_ask : Nat := 135
abbrev mX8_chance : Nat := 136
abbrev mX8_tried : Nat := 137
abbrev mX8_undo : Nat := 138
abbrev mX8_keep : Nat := 139
abbrev mX8_back : Nat := 140
abbrev mX8_count : Nat := 141
abbrev mX8_isLamp : Nat := 142
abbrev mX8_isPull : Nat := 143
abbrev mX8_areLamps : Nat := 144
abbrev mX8_gatherFree : Nat := 145
abbrev mX8_basisNow : Nat := 146
abbrev mX8_lampThatOpens : Nat := 147
abbrev mX8_lookAtNotes : Nat := 148
abbrev mX9_init : Nat := 149
abbrev mX9_thrown : Nat := 150
abbrev mX9_feed : Nat := 151
abbrev mX9_isIn : Nat := 152
abbrev mX9_isOf : Nat := 153
abbrev mX9_wrong : Nat := 154
abbrev mX9_wordAt : Nat := 155
abbrev mX9_isSmall : Nat := 156
abbrev mX9_isDigit : Nat := 157
abbrev mX9_token : Nat := 158
abbrev mX9_signToken : Nat := 159
abbrev mX9_packed : Nat := 160
abbrev mX9_isKey : Nat := 161
abbrev mX9_isSign : Nat := 162
abbrev mX9_number : Nat := 163
abbrev mX9_plain : Nat := 164
abbrev mX9_copies : Nat := 165
abbrev mX9_keepText : Nat := 166
abbrev mX9_find : Nat := 167
abbrev mX9_newName : Nat := 168
abbrev mX9_thereIn : Nat := 169
abbrev mX9_lampLine : Nat := 170
abbrev mX9_lampFor : Nat := 171
abbrev mX9_pullLine : Nat := 172
abbrev mX9_litLine : Nat := 173
abbrev mX9_ringLine : Nat := 174
abbrev mX9_mendLine : Nat := 175
abbrev mX9_onceLine : Nat := 176
abbrev mX9_lineRead : Nat := 177
abbrev mX9_text : Nat := 178
abbrev mX9_fault : Nat := 179
abbrev mX9_named : Nat := 180
abbrev mX9_standing : Nat := 181
abbrev mX9_grown : Nat := 182
abbrev mX9_dropHeld : Nat := 183
abbrev mX9_bind : Nat := 184
abbrev mX9_isCounted : Nat := 185
abbrev mX9_waitsFor : Nat := 186
abbrev mX9_nameMet : Nat := 187
abbrev mX9_leafRead : Nat := 188
abbrev mX9_signs : Nat := 189
abbrev mX9_sumRead : Nat := 190
abbrev mX9_bounded : Nat := 191
abbrev mX9_compares : Nat := 192
abbrev mX9_times : Nat := 193
abbrev mX9_valueOf : Nat := 194
abbrev mX9_begin : Nat := 195
abbrev mX9_atFirst : Nat := 196
abbrev mX9_plainTried : Nat := 197
abbrev mX9_layTried : Nat := 198
abbrev mX9_isLamp : Nat := 199
abbrev mX9_isPull : Nat := 200
abbrev mX9_areLamps : Nat := 201
abbrev mX9_manyOf : Nat := 202
abbrev mX9_shown2 : Nat := 203
abbrev mX9_tiedTo : Nat := 204
abbrev mX9_layAll : Nat := 205
abbrev mX9_layPull : Nat := 206
abbrev mX9_layLamp : Nat := 207
abbrev mX9_lawOf : Nat := 208
abbrev mX9_boundLaw : Nat := 209
abbrev mX9_ringsOne : Nat := 210
abbrev mX9_number1 : Nat := 211
abbrev mX9_isFate : Nat := 212
abbrev mX9_minuteGoes : Nat := 213
abbrev mX9_goMany : Nat := 214
abbrev mX9_fails : Nat := 215
abbrev mX9_lamp : Nat := 216
abbrev mX9_pull : Nat := 217
abbrev mX9_evening : Nat := 218
abbrev mX9_law : Nat := 219
abbrev mX9_ring : Nat := 220
abbrev mX9_tie : Nat := 221
abbrev mX9_mend : Nat := 222
abbrev mX9_go : Nat := 223
abbrev mX9_ahead : Nat := 224
abbrev mX9_dark : Nat := 225
abbrev mX9_layTurns : Nat := 226
abbrev mX9_turnsTo : Nat := 227
abbrev mX9_costOf : Nat := 228
abbrev mX9_ways : Nat := 229
abbrev mX9_fewestTo : Nat := 230
abbrev mX9_fewest : Nat := 231
abbrev mX9_cheapest : Nat := 232
abbrev mX9_must : Nat := 233
abbrev mX9_silentMany : Nat := 234
abbrev mX9_rankNow : Nat := 235
abbrev mX9_rank : Nat := 236
abbrev mX9_isSum : Nat := 237
abbrev mX9_basisNow : Nat := 238
abbrev mX9_basis : Nat := 239
abbrev mX9_sumOf : Nat := 240
abbrev mX9_silent : Nat := 241
abbrev mX9_darkest : Nat := 242
abbrev mX9_twins : Nat := 243
abbrev mX9_fixed : Nat := 244
abbrev mX9_rankBy : Nat := 245
abbrev mX9_knot : Nat := 246
abbrev mX9_apart : Nat := 247
abbrev mX9_evenings : Nat := 248
abbrev mX9_worthBy : Nat := 249
abbrev mX9_layWorth : Nat := 250
abbrev mX9_game : Nat := 251
abbrev mX9_holds : Nat := 252
abbrev mX9_notes1 : Nat := 253
abbrev mX9_note : Nat := 254
abbrev mX9_strike : Nat := 255
abbrev mX9_known : Nat := 256
abbrev mX9_knownBy : Nat := 257
abbrev mX9_layCounts : Nat := 258
abbrev mX9_eveningBy : Nat := 259
abbrev mX9_isSo : Nat := 260
abbrev mX9_fits : Nat := 261
abbrev mX9_rang : Nat := 262
abbrev mX9_ask : Nat := 263
abbrev mX9_chance : Nat := 264
abbrev mX9_tried : Nat := 265
abbrev mX9_put : Nat := 266
abbrev mX9_take : Nat := 267
abbrev mX9_remember : Nat := 268
abbrev mX9_undo : Nat := 269
abbrev mX9_keep : Nat := 270
abbrev mX9_back : Nat := 271
abbrev mX9_count : Nat := 272
abbrev mL_law : Nat := 273
abbrev mJ6_numberOfLeadingZeros_0f7a4 : Nat := 274
abbrev mJ6_numberOfTrailingZeros_0f7a4 : Nat := 275
abbrev mJ6_bitCount_0f7a4 : Nat := 276
abbrev mJ9_abs_067f4 : Nat := 277
abbrev mJ9_max_7cf53 : Nat := 278
abbrev mJ9_max_f86c9 : Nat := 279
abbrev mJ9_min_7cf53 : Nat := 280
abbrev mJ9_min_f86c9 : Nat := 281
abbrev mJ0_length_8abf5 : Nat := 282
abbrev mJ0_charAt_5068e : Nat := 283
abbrev mJ0_indexOf_0f7a4 : Nat := 284
abbrev mJ0_indexOf_7cf53 : Nat := 285
abbrev mJ0_coder_7d493 : Nat := 286
abbrev mJ0_isLatin1_aae02 : Nat := 287
abbrev mJ0_checkIndex_df160 : Nat := 288
abbrev mJ0_checkBoundsBeginEnd_23922 : Nat := 289
abbrev mJ1_charAt_3b067 : Nat := 290
abbrev mJ1_canEncode_9a6ad : Nat := 291
abbrev mJ1_indexOf_4cfef : Nat := 292
abbrev mJ1_indexOfChar_4cfef : Nat := 293
def fldT : List (List (Nat × Nat × Nat × Nat)) := [[(9, (0, 0, 2)), (15, (0, 1, 2)), (22, (0, 2, 0)), (32, (0, 3, 0))],
  [(9, (1, 5, 2)), (15, (1, 6, 2)), (19, (1, 0, 3)), (27, (1, 1, 3)), (30, (1, 2, 3)), (33, (1, 4, 0)), (37, (1, 3, 3)), (40, (2, 0, 0)), (54, (6, 3, 0)), (57, (6, 13, 2)), (60, (6, 12, 2)), (67, (6, 0, 0)), (77, (6, 1, 0)), (80, (2, 3, 0)), (83, (2, 5, 0)), (92, (6, 10, 2)), (106, (2, 1, 0)), (109, (2, 8, 2)), (113, (2, 4, 0)), (119, (2, 9, 2)), (122, (2, 7, 2)), (133, (2, 2, 0)), (152, (6, 16, 2)), (155, (6, 17, 2)), (158, (6, 15, 2))],
  [(9, (2, 7, 2)), (15, (2, 8, 2)), (18, (2, 9, 2)), (21, (2, 0, 0)), (25, (6, 2, 0)), (30, (2, 1, 0)), (33, (2, 2, 0)), (36, (2, 3, 0)), (39, (2, 4, 0)), (42, (2, 5, 0)), (49, (2, 6, 0)), (52, (6, 1, 0)), (55, (6, 11, 2))],
  [(9, (3, 10, 2)), (15, (3, 11, 2)), (18, (3, 12, 2)), (22, (3, 1, 0)), (26, (3, 0, 0)), (36, (3, 2, 0)), (39, (3, 3, 0)), (42, (3, 4, 0)), (45, (3, 5, 0)), (48, (5, 0, 0)), (51, (5, 1, 2)), (58, (3, 6, 0)), (61, (3, 7, 0)), (64, (3, 8, 0)), (67, (3, 9, 0))],
  [(9, (4, 3, 2)), (18, (4, 9, 2)), (22, (4, 11, 2)), (26, (4, 1, 0)), (30, (4, 2, 0)), (39, (4, 4, 0)), (42, (4, 5, 0)), (48, (4, 10, 0)), (51, (4, 0, 0)), (57, (4, 6, 0)), (60, (4, 7, 0)), (67, (4, 8, 0)), (116, (6, 1, 0)), (143, (6, 0, 0)), (149, (6, 8, 2)), (155, (6, 9, 2)), (161, (6, 10, 2)), (164, (6, 11, 2)), (167, (6, 2, 0)), (170, (6, 3, 0)), (173, (6, 12, 2)), (176, (6, 13, 2)), (179, (6, 4, 0)), (182, (6, 14, 2)), (185, (6, 5, 0)), (188, (6, 6, 0)), (195, (6, 16, 2)), (198, (6, 7, 0)), (204, (6, 17, 2)), (207, (4, 12, 0)), (210, (4, 13, 0)), (213, (4, 14, 0)), (216, (4, 15, 3)), (220, (4, 16, 3)), (248, (6, 15, 2))],
  [(9, (5, 1, 2)), (15, (5, 3, 2)), (18, (5, 0, 0)), (22, (5, 2, 0))],
  [(9, (6, 8, 2)), (15, (6, 9, 2)), (18, (6, 10, 2)), (21, (6, 11, 2)), (24, (6, 12, 2)), (27, (6, 13, 2)), (30, (6, 14, 2)), (33, (6, 15, 2)), (36, (6, 16, 2)), (39, (6, 17, 2)), (42, (6, 5, 0)), (46, (6, 6, 0)), (49, (6, 0, 0)), (52, (6, 1, 0)), (55, (6, 2, 0)), (58, (6, 3, 0)), (61, (6, 4, 0)), (64, (6, 7, 0))],
  [(9, (7, 2, 2)), (15, (7, 3, 2)), (18, (7, 4, 2)), (21, (7, 5, 2)), (24, (7, 6, 2)), (27, (7, 7, 2)), (30, (7, 8, 2)), (33, (7, 0, 0)), (37, (7, 1, 0)), (40, (2, 1, 0)), (45, (2, 2, 0)), (48, (2, 3, 0)), (51, (2, 4, 0)), (54, (2, 8, 2)), (55, (2, 9, 2))],
  [(14, (8, 0, 2)), (21, (8, 1, 2)), (28, (8, 2, 2)), (32, (8, 3, 2)), (35, (8, 4, 2)), (41, (8, 6, 2)), (48, (8, 7, 2)), (55, (8, 8, 2)), (62, (8, 9, 2)), (69, (8, 10, 2)), (73, (8, 5, 3)), (77, (4, 2, 0)), (95, (4, 0, 0)), (109, (4, 1, 0)), (130, (2, 1, 0)), (133, (2, 2, 0)), (136, (2, 7, 2)), (151, (6, 10, 2)), (154, (2, 3, 0)), (157, (2, 9, 2)), (160, (2, 8, 2)), (192, (2, 0, 0)), (205, (2, 4, 0)), (208, (2, 5, 0)), (259, (6, 0, 0)), (262, (6, 1, 0)), (291, (3, 0, 0)), (294, (3, 1, 0)), (300, (3, 2, 0)), (303, (3, 3, 0)), (306, (3, 5, 0)), (309, (3, 4, 0)), (315, (2, 6, 0)), (326, (6, 3, 0)), (329, (6, 7, 0)), (338, (7, 0, 0)), (343, (6, 11, 2)), (344, (6, 2, 0))],
  [(7, (9, 0, 2)), (13, (9, 3, 2)), (16, (9, 5, 0)), (20, (9, 22, 2)), (23, (9, 23, 2)), (27, (9, 24, 2)), (30, (9, 25, 2)), (33, (9, 26, 2)), (36, (9, 27, 2)), (39, (9, 28, 2)), (42, (9, 29, 2)), (45, (9, 30, 2)), (48, (9, 31, 2)), (51, (9, 32, 2)), (54, (9, 33, 2)), (57, (9, 34, 2)), (60, (9, 35, 2)), (63, (9, 36, 2)), (66, (9, 37, 2)), (69, (9, 38, 2)), (72, (9, 39, 2)), (75, (9, 46, 2)), (79, (9, 47, 2)), (82, (9, 49, 2)), (85, (9, 50, 2)), (88, (9, 51, 2)), (91, (9, 52, 2)), (94, (9, 53, 2)), (97, (9, 54, 2)), (100, (9, 55, 2)), (103, (9, 56, 2)), (106, (9, 57, 2)), (109, (9, 64, 2)), (112, (9, 66, 2)), (115, (9, 67, 2)), (118, (9, 69, 0)), (121, (9, 70, 2)), (124, (9, 71, 2)), (127, (9, 73, 2)), (130, (9, 75, 2)), (133, (9, 76, 2)), (142, (9, 2, 0)), (145, (9, 1, 0)), (148, (9, 4, 0)), (151, (9, 10, 0)), (154, (9, 6, 0)), (157, (9, 7, 0)), (160, (9, 8, 0)), (171, (9, 9, 0)), (191, (9, 11, 0)), (204, (9, 17, 0)), (207, (9, 18, 0)), (210, (9, 19, 0)), (213, (9, 20, 0)), (216, (9, 21, 0)), (219, (9, 43, 0)), (222, (9, 12, 0)), (225, (9, 13, 0)), (228, (9, 14, 0)), (231, (9, 15, 0)), (234, (9, 16, 0)), (286, (9, 41, 0)), (289, (9, 40, 0)), (304, (9, 42, 0)), (311, (9, 45, 3)), (324, (9, 44, 3)), (336, (9, 48, 3)), (358, (9, 58, 1)), (365, (9, 68, 0)), (368, (9, 72, 0)), (371, (9, 74, 3)), (374, (9, 59, 3)), (377, (9, 60, 3)), (380, (9, 61, 3)), (383, (9, 62, 3)), (386, (9, 63, 0)), (459, (9, 65, 0)), (523, (9, 77, 1))],
  [],
  [],
  [],
  [(9, (20, 0, 2)), (15, (20, 1, 0))],
  []]
def fld (o idx : Nat) : Option (Nat × Nat × Nat) := lk2 fldT o idx
def callUT : List (List (Nat × Nat × Nat × Nat)) := [[(3, (4, 0, 0)), (18, (0, 3, 1)), (26, (1, 274, 1))],
  [(3, (4, 0, 0)), (23, (0, 7, 2)), (45, (0, 94, 1)), (51, (0, 24, 0)), (63, (0, 9, 3)), (70, (0, 20, 0)), (74, (0, 10, 3)), (86, (0, 11, 4)), (97, (1, 281, 2)), (103, (1, 279, 2)), (116, (1, 280, 2)), (125, (0, 92, 0)), (130, (0, 25, 0)), (136, (0, 91, 1)), (139, (1, 276, 1)), (145, (0, 22, 1)), (148, (0, 12, 2)), (161, (1, 14, 1)), (165, (1, 13, 3)), (169, (1, 15, 1)), (173, (1, 16, 2)), (180, (1, 277, 1))],
  [(3, (4, 0, 0)), (45, (0, 93, 0)), (56, (5, 0, 5)), (62, (1, 276, 1))],
  [(3, (4, 0, 0)), (29, (0, 28, 3)), (33, (0, 33, 0)), (54, (0, 32, 2)), (70, (0, 30, 0)), (74, (1, 280, 2)), (80, (0, 34, 3))],
  [(3, (4, 0, 0)), (17, (2, 87, 0)), (33, (1, 280, 2)), (45, (0, 88, 0)), (54, (0, 44, 0)), (63, (0, 41, 1)), (70, (1, 42, 1)), (74, (0, 45, 0)), (77, (1, 43, 1)), (80, (0, 47, 0)), (83, (0, 48, 0)), (86, (0, 46, 0)), (92, (0, 282, 0)), (96, (0, 283, 1)), (103, (0, 284, 1)), (106, (0, 40, 1)), (109, (0, 52, 0)), (113, (0, 53, 0)), (119, (0, 54, 1)), (122, (0, 55, 0)), (125, (0, 56, 0)), (128, (0, 57, 0)), (131, (0, 58, 0)), (134, (0, 59, 0)), (137, (0, 60, 0)), (140, (0, 49, 1)), (146, (0, 89, 1)), (152, (0, 90, 1)), (158, (0, 50, 1)), (192, (0, 91, 1)), (201, (0, 61, 0)), (223, (0, 68, 1)), (227, (0, 62, 0)), (230, (0, 63, 0)), (233, (0, 64, 0)), (236, (0, 65, 0)), (239, (0, 66, 1)), (242, (0, 67, 1)), (245, (1, 69, 1))],
  [(3, (4, 0, 0)), (25, (0, 73, 2)), (29, (1, 276, 1)), (35, (0, 95, 1)), (40, (0, 81, 2)), (44, (0, 84, 2)), (47, (0, 85, 2)), (50, (1, 278, 2))],
  [(3, (4, 0, 0))],
  [(3, (4, 0, 0)), (58, (1, 280, 2))],
  [(5, (4, 0, 0)), (13, (2, 35, 0)), (20, (2, 87, 0)), (27, (3, 17, 0)), (40, (3, 4, 0)), (47, (3, 96, 0)), (54, (2, 26, 0)), (61, (2, 70, 0)), (68, (3, 0, 0)), (81, (0, 36, 1)), (85, (0, 38, 1)), (88, (0, 39, 0)), (92, (0, 51, 0)), (98, (0, 37, 1)), (102, (0, 18, 1)), (105, (0, 27, 0)), (108, (0, 97, 0)), (112, (0, 89, 1)), (116, (0, 90, 1)), (119, (0, 142, 1)), (140, (0, 22, 1)), (148, (0, 143, 1)), (163, (0, 20, 0)), (169, (0, 11, 4)), (173, (0, 98, 2)), (177, (0, 5, 0)), (180, (0, 9, 3)), (184, (1, 276, 1)), (189, (0, 24, 0)), (195, (0, 8, 3)), (198, (0, 19, 1)), (202, (0, 6, 0)), (211, (0, 144, 1)), (214, (0, 145, 0)), (217, (0, 74, 1)), (220, (0, 75, 1)), (223, (0, 77, 2)), (227, (0, 95, 1)), (230, (0, 78, 1)), (233, (0, 79, 1)), (236, (0, 146, 0)), (239, (0, 21, 1)), (243, (0, 1, 3)), (247, (0, 2, 1)), (250, (0, 76, 0)), (253, (0, 80, 1)), (256, (0, 72, 1)), (265, (0, 147, 2)), (269, (0, 82, 3)), (273, (0, 83, 1)), (276, (0, 86, 2)), (281, (0, 92, 0)), (284, (0, 28, 3)), (288, (0, 29, 1)), (297, (0, 148, 0)), (312, (1, 275, 1)), (318, (0, 7, 2)), (322, (0, 99, 1)), (332, (0, 23, 0)), (335, (0, 30, 0)), (339, (0, 71, 3)), (347, (0, 31, 2))],
  [(1, (4, 0, 0)), (136, (0, 164, 0)), (139, (0, 166, 0)), (163, (0, 156, 1)), (167, (0, 155, 2)), (174, (0, 160, 2)), (177, (0, 157, 1)), (181, (0, 159, 0)), (184, (0, 154, 1)), (187, (1, 152, 3)), (194, (0, 158, 0)), (197, (0, 162, 1)), (200, (0, 163, 2)), (237, (1, 165, 2)), (241, (0, 195, 0)), (244, (1, 167, 4)), (248, (0, 168, 3)), (252, (0, 169, 3)), (255, (1, 153, 2)), (258, (0, 171, 1)), (261, (0, 170, 0)), (265, (0, 172, 0)), (268, (0, 173, 0)), (271, (0, 174, 0)), (274, (0, 175, 0)), (277, (0, 176, 2)), (280, (0, 190, 0)), (283, (0, 177, 0)), (292, (1, 181, 1)), (296, (0, 183, 0)), (300, (0, 182, 3)), (307, (0, 186, 1)), (315, (0, 161, 1)), (318, (0, 185, 0)), (321, (0, 187, 0)), (327, (0, 184, 1)), (330, (0, 188, 0)), (333, (0, 189, 0)), (343, (0, 191, 1)), (347, (0, 193, 2)), (351, (1, 192, 3)), (355, (0, 196, 1)), (362, (0, 197, 0)), (389, (0, 203, 1)), (392, (1, 202, 1)), (395, (0, 205, 1)), (398, (0, 204, 3)), (402, (0, 194, 1)), (406, (0, 208, 1)), (409, (0, 206, 2)), (413, (0, 209, 3)), (424, (0, 207, 2)), (427, (0, 211, 1)), (430, (0, 210, 2)), (433, (0, 212, 2)), (436, (0, 213, 1)), (439, (0, 199, 1)), (442, (0, 215, 1)), (445, (0, 200, 1)), (450, (0, 268, 0)), (453, (0, 198, 0)), (456, (0, 214, 1)), (462, (0, 201, 1)), (465, (0, 226, 0)), (468, (0, 227, 2)), (471, (0, 230, 1)), (474, (0, 228, 1)), (477, (0, 234, 0)), (480, (0, 235, 0)), (483, (0, 237, 2)), (486, (0, 238, 0)), (489, (0, 245, 0)), (492, (0, 249, 2)), (495, (0, 250, 0)), (502, (0, 253, 3)), (505, (0, 257, 0)), (508, (0, 259, 1)), (511, (0, 258, 0)), (514, (0, 260, 1)), (517, (0, 266, 2)), (520, (0, 267, 2))],
  [(17, (2, 100, 0)), (20, (2, 149, 0)), (21, (0, 101, 5)), (25, (0, 151, 5)), (26, (0, 102, 1)), (30, (0, 178, 1)), (31, (0, 103, 1)), (34, (0, 179, 1)), (35, (0, 104, 2)), (38, (0, 180, 2)), (39, (7, 0, 4)), (44, (0, 216, 2)), (45, (0, 150, 0)), (49, (0, 105, 2)), (52, (0, 217, 2)), (53, (0, 106, 1)), (56, (0, 218, 1)), (57, (0, 107, 2)), (61, (0, 219, 2)), (62, (0, 108, 1)), (65, (0, 220, 1)), (66, (0, 109, 2)), (69, (0, 221, 2)), (70, (0, 110, 0)), (74, (0, 222, 0)), (75, (0, 111, 1)), (78, (0, 223, 1)), (79, (0, 112, 2)), (82, (0, 224, 2)), (83, (0, 113, 1)), (86, (0, 225, 1)), (87, (0, 114, 1)), (90, (0, 229, 1)), (91, (0, 115, 1)), (94, (0, 231, 1)), (95, (0, 116, 2)), (98, (0, 232, 2)), (99, (0, 117, 2)), (102, (0, 233, 2)), (103, (0, 118, 0)), (106, (0, 236, 0)), (107, (0, 119, 0)), (110, (0, 239, 0)), (111, (0, 120, 1)), (114, (0, 240, 1)), (115, (0, 121, 1)), (118, (0, 241, 1)), (119, (0, 122, 1)), (122, (0, 242, 1)), (123, (0, 123, 1)), (126, (0, 243, 1)), (127, (0, 124, 0)), (130, (0, 244, 0)), (131, (0, 125, 1)), (134, (0, 246, 1)), (135, (0, 126, 2)), (138, (0, 247, 2)), (139, (0, 127, 1)), (142, (0, 248, 1)), (143, (0, 128, 1)), (146, (0, 251, 1)), (147, (0, 129, 2)), (150, (0, 252, 2)), (151, (0, 130, 3)), (155, (0, 254, 3)), (156, (0, 131, 1)), (159, (0, 255, 1)), (160, (0, 132, 1)), (164, (0, 256, 1)), (165, (0, 133, 0)), (168, (0, 261, 0)), (169, (0, 134, 1)), (172, (0, 262, 1)), (173, (0, 135, 0)), (176, (0, 263, 0)), (177, (0, 136, 3)), (181, (0, 264, 3)), (182, (0, 137, 3)), (185, (0, 265, 3)), (186, (0, 138, 0)), (189, (0, 269, 0)), (190, (0, 139, 0)), (193, (0, 270, 0)), (194, (0, 140, 0)), (197, (0, 271, 0)), (198, (0, 141, 1)), (201, (0, 272, 1))],
  [],
  [],
  [(335, (0, 286, 0)), (492, (0, 287, 0)), (495, (1, 290, 2)), (505, (0, 282, 0)), (633, (0, 285, 2)), (637, (1, 292, 4))],
  [(9, (6, 0, 2)), (38, (1, 280, 2)), (88, (1, 291, 1)), (92, (1, 278, 2)), (95, (1, 293, 4))]]
def callU (o idx : Nat) : Option (Nat × Nat × Nat) := lk2 callUT o idx
def callT (o idx : Nat) : Option (Nat × Nat × Nat) := callU o idx
def cstIT : List (List (Nat × Int32)) := [[],
  [(112, 99999)],
  [(68, 1103515245), (69, 2147483647), (70, 65536)],
  [],
  [(100, 1000000), (191, 99999)],
  [],
  [],
  [],
  [],
  [(180, 99999)],
  [],
  [(264, 65536), (265, 1431655765), (266, 858993459), (267, 252645135)],
  [],
  [],
  []]
def cstI (o idx : Nat) : Option (Int32) := lk2 cstIT o idx
def cstLT : List (List (Nat × Int64)) := [[],
  [(90, -9223372036854775808), (95, 999), (128, 100), (176, 1000000000000), (178, -1000000000000)],
  [],
  [],
  [],
  [],
  [],
  [],
  [(167, -9223372036854775808), (279, -1)],
  [(339, 1000000000000), (341, -1000000000000), (416, 1103515245), (418, 12345), (420, 2147483647), (422, 65536), (448, -9223372036854775808), (498, -1), (500, 100)],
  [],
  [],
  [],
  [],
  []]
def cstL (o idx : Nat) : Option (Int64) := lk2 cstLT o idx
def cstST : List (List (Nat × Nat)) := [[],
  [],
  [],
  [],
  [(90, 1000000), (101, 1000001)],
  [],
  [],
  [],
  [],
  [],
  [],
  [],
  [],
  [],
  []]
def cstS (o idx : Nat) : Option (Nat) := lk2 cstST o idx
def newTT : List (List (Nat × Nat × Nat)) := [[],
  [],
  [],
  [],
  [(15, (6, 18))],
  [],
  [],
  [],
  [(11, (4, 17)), (18, (6, 18)), (25, (2, 10)), (38, (1, 7)), (45, (7, 9)), (52, (3, 13)), (59, (5, 4)), (66, (0, 4))],
  [],
  [(8, (8, 11)), (18, (9, 78))],
  [],
  [],
  [],
  []]
def newT (o idx : Nat) : Option (Nat × Nat) := lk2 newTT o idx
abbrev stIdx : Nat := 38
def arT (t : ArrayType) : Option Nat := match t with
  | .byte => some 10
  | .int => some 11
  | .long => some 12
  | .boolean => some 13
  | _ => none
def sb_0 : List Int32 := [108, 97, 109, 112, 32, 32, 112, 117, 108, 108, 32, 32, 108, 105, 116, 32, 32, 32, 114, 105, 110, 103, 32, 32, 109, 101, 110, 100, 32, 32, 98, 117, 114, 110, 32, 32, 115, 101, 101, 100, 32, 32, 108, 97, 119, 32, 32, 32, 116, 111, 108, 108, 32, 32, 115, 116, 105, 99, 107, 32, 102, 97, 116, 101, 32, 32, 111, 114, 32, 32, 32, 32, 97, 110, 100, 32, 32, 32, 110, 111, 116, 32, 32, 32, 99, 111, 115, 116, 32, 32, 119, 111, 114, 110, 32, 32, 115, 104, 111, 119, 110, 32, 116, 105, 101, 115, 32, 32, 111, 117, 116, 32, 32, 32, 97, 103, 101, 32, 32, 32, 109, 105, 110, 117, 116, 101]
def sb_1 : List Int32 := [43, 45, 42, 47, 60, 61, 62, 40, 41, 59]
def tx_0 : String := "lamp  pull  lit   ring  mend  burn  seed  law   toll  stick fate  or    and   not   cost  worn  shown ties  out   age   minute"
def tx_1 : String := "+-*/<=>();"
def sbyt (n k : Nat) : Int32 := if n = 0 then sb_0.getD k 0 else sb_1.getD k 0
def fkT : List (List Nat) := [[2, 2, 0, 0], [3, 3, 3, 3, 0, 2, 2], [0, 0, 0, 0, 0, 0, 0, 2, 2, 2], [0, 0, 0, 0, 0, 0, 0, 0, 0, 0, 2, 2, 2], [0, 0, 0, 2, 0, 0, 0, 0, 0, 2, 0, 2, 0, 0, 0, 3, 3], [0, 2, 0, 2], [0, 0, 0, 0, 0, 0, 0, 0, 2, 2, 2, 2, 2, 2, 2, 2, 2, 2], [0, 0, 2, 2, 2, 2, 2, 2, 2], [2, 2, 2, 2, 2, 3, 2, 2, 2, 2, 2], [2, 0, 0, 2, 0, 0, 0, 0, 0, 0, 0, 0, 0, 0, 0, 0, 0, 0, 0, 0, 0, 0, 2, 2, 2, 2, 2, 2, 2, 2, 2, 2, 2, 2, 2, 2, 2, 2, 2, 2, 0, 0, 0, 0, 3, 3, 2, 2, 3, 2, 2, 2, 2, 2, 2, 2, 2, 2, 1, 3, 3, 3, 3, 0, 2, 0, 2, 2, 0, 0, 2, 2, 0, 2, 3, 2, 2, 1]]
def fTy (c j : Nat) : Nat := (fkT.getD c []).getD j 0
def nF (c : Nat) : Nat := (fkT.getD c []).length
def ffT : List (List Bool) := [[true, true, false, false], [false, false, false, false, false, true, true], [false, false, false, false, false, false, false, true, true, true], [false, false, false, false, false, false, false, false, false, false, true, true, true], [false, false, false, true, false, false, false, false, false, false, false, true, false, false, false, false, false], [false, true, false, true], [false, false, false, false, false, false, false, false, true, true, true, true, true, true, true, true, true, true], [false, false, true, true, true, true, true, true, true], [true, false, true, true, true, false, true, true, true, true, true], [true, false, false, true, false, false, false, false, false, false, false, false, false, false, false, false, false, false, false, false, false, false, true, true, true, true, true, true, true, true, true, true, true, true, true, true, true, true, true, true, false, false, false, false, false, false, true, true, false, true, true, true, true, true, true, true, true, true, false, false, false, false, false, false, true, false, true, true, false, false, true, true, false, true, false, true, true, false]]
def fFin (c j : Nat) : Bool := (ffT.getD c []).getD j true
def inM (M : Nat) : Bool := (yM M).name == "<init>"
