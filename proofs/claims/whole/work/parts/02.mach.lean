-- the abstract machine: cells by number, one memory of ints, refs by number; written by wip/gen/mk02.py
abbrev CLS : List vw_C := [(RX0, TX0, 3), (RX1, TX1, 12), (RX2, TX2, 7), (RX3, TX3, 3), (RX4, TX4, 4), (RX5, TX5, 4), (RX6, TX6, 6), (RX7, TX7, 3), (RX8, TX8, 11), (RX9, TX9, 33)]
def CNM : List String := [RX0, RX1, RX2, RX3, RX4, RX5, RX6, RX7, RX8, RX9, RJ0, RJ1, RJ9, RJ3, RL]
def cnm (c : Nat) : String := CNM.getD c ""
def clC (ci : Nat) : vw_C := CLS.getD ci (RX0, TX0, 3)
def tyN (ci : Nat) : Nat → FieldType := match ci with
  | 0 => tyX0 | 1 => tyX1 | 2 => tyX2 | 3 => tyX3 | 4 => tyX4 | 5 => tyX5 | 6 => tyX6 | 7 => tyX7 | 8 => tyX8 | _ => tyX9
def MTB0 : List (Nat × MethodName × ByteArray × Nat × Option FieldType) := [
  (0, yX0_rowOf, cX0_rowOf, 2, (Option.some (FieldType.object "TurtleBet$Text"))),
  (0, yX0_gives, cX0_gives, 10, (Option.some FieldType.int)),
  (0, yX0_joined, cX0_joined, 3, (Option.some FieldType.int)),
  (1, yX1_become, cX1_become, 3, none),
  (1, yX1_hasTurtle, cX1_hasTurtle, 2, (Option.some FieldType.boolean)),
  (1, yX1_hasWager, cX1_hasWager, 2, (Option.some FieldType.boolean)),
  (1, yX1_addTurtle, cX1_addTurtle, 3, (Option.some FieldType.int)),
  (1, yX1_addWager, cX1_addWager, 5, (Option.some FieldType.int)),
  (1, yX1_draw, cX1_draw, 1, (Option.some FieldType.int)),
  (1, yX1_lapsOf, cX1_lapsOf, 2, (Option.some FieldType.int)),
  (1, yX1_yardOf, cX1_yardOf, 2, (Option.some FieldType.int)),
  (1, yX1_stepOf, cX1_stepOf, 3, (Option.some FieldType.int)),
  (1, yX1_plainStep, cX1_plainStep, 4, (Option.some FieldType.int)),
  (1, yX1_haste, cX1_haste, 1, (Option.some FieldType.int)),
  (1, yX1_goDays, cX1_goDays, 3, none),
  (1, yX1_goDay, cX1_goDay, 5, none),
  (1, yX1_ahead, cX1_ahead, 3, (Option.some FieldType.int)),
  (1, yX1_pathsOfAll, cX1_pathsOfAll, 3, (Option.some FieldType.int)),
  (1, yX1_deadOnes, cX1_deadOnes, 3, (Option.some FieldType.int)),
  (1, yX1_stakesOfAll, cX1_stakesOfAll, 3, (Option.some FieldType.int)),
  (1, yX1_stakesOn, cX1_stakesOn, 4, (Option.some FieldType.int)),
  (1, yX1_paidFor, cX1_paidFor, 6, (Option.some FieldType.int)),
  (1, yX1_paidTo, cX1_paidTo, 5, (Option.some FieldType.int)),
  (1, yX1_fineFor, cX1_fineFor, 3, (Option.some FieldType.int)),
  (2, yX2_init, cX2_init, 4, none),
  (2, yX2_fault, cX2_fault, 2, (Option.some FieldType.int)),
  (2, yX2_advance, cX2_advance, 3, none),
  (2, yX2_sortOf, cX2_sortOf, 1, (Option.some FieldType.int)),
  (2, yX2_readKey, cX2_readKey, 1, (Option.some FieldType.boolean)),
  (2, yX2_isWord, cX2_isWord, 3, (Option.some FieldType.boolean)),
  (2, yX2_readJoined, cX2_readJoined, 7, (Option.some FieldType.boolean)),
  (2, yX2_loosenessHere, cX2_loosenessHere, 1, (Option.some FieldType.int)),
  (2, yX2_readPiece, cX2_readPiece, 4, (Option.some FieldType.boolean)),
  (2, yX2_isMark, cX2_isMark, 2, (Option.some FieldType.boolean)),
  (2, yX2_numberHere, cX2_numberHere, 3, (Option.some FieldType.int)),
  (2, yX2_nameHere, cX2_nameHere, 2, (Option.some FieldType.int)),
  (2, yX2_namesOf, cX2_namesOf, 1, (Option.some (FieldType.object "java/lang/String"))),
  (3, yX3_clear, cX3_clear, 4, none),
  (3, yX3_become, cX3_become, 2, none),
  (3, yX3_isMissing, cX3_isMissing, 1, (Option.some FieldType.boolean)),
  (3, yX3_hasPlace, cX3_hasPlace, 2, (Option.some FieldType.boolean)),
  (3, yX3_hasRow, cX3_hasRow, 3, (Option.some FieldType.boolean)),
  (3, yX3_isNumber, cX3_isNumber, 2, (Option.some FieldType.boolean)),
  (4, yX4_finding, cX4_finding, 1, (Option.some FieldType.int)),
  (5, yX5_clear, cX5_clear, 1, none),
  (5, yX5_add, cX5_add, 2, none),
  (5, yX5_addWord, cX5_addWord, 2, none),
  (6, yX6_init, cX6_init, 1, none),
  (6, yX6_hatch, cX6_hatch, 3, none),
  (6, yX6_become, cX6_become, 2, none),
  (6, yX6_isOf, cX6_isOf, 4, (Option.some FieldType.boolean)),
  (6, yX6_worth, cX6_worth, 1, (Option.some FieldType.int)),
  (7, yX7_init, cX7_init, 1, none),
  (7, yX7_become, cX7_become, 2, none),
  (8, yX8_turtle, cX8_turtle, 3, (Option.some FieldType.int)),
  (8, yX8_told, cX8_told, 4, (Option.some FieldType.int)),
  (8, yX8_step, cX8_step, 3, (Option.some FieldType.int)),
  (8, yX8_as, cX8_as, 4, (Option.some FieldType.int)),
  (8, yX8_turns, cX8_turns, 5, (Option.some FieldType.int)),
  (8, yX8_set, cX8_set, 6, (Option.some FieldType.int)),
  (8, yX8_isSettable, cX8_isSettable, 2, (Option.some FieldType.boolean)),
  (8, yX8_push, cX8_push, 4, (Option.some FieldType.int)),
  (8, yX8_egg, cX8_egg, 4, (Option.some FieldType.int)),
  (8, yX8_rule, cX8_rule, 4, (Option.some FieldType.int))]
def MTB1 : List (Nat × MethodName × ByteArray × Nat × Option FieldType) := [
  (8, yX8_deal, cX8_deal, 6, (Option.some FieldType.int)),
  (8, yX8_seed, cX8_seed, 3, (Option.some FieldType.int)),
  (8, yX8_days, cX8_days, 2, (Option.some FieldType.int)),
  (8, yX8_leads, cX8_leads, 1, (Option.some FieldType.int)),
  (8, yX8_wager, cX8_wager, 4, (Option.some FieldType.int)),
  (8, yX8_wagerTold, cX8_wagerTold, 4, (Option.some FieldType.int)),
  (8, yX8_inherit, cX8_inherit, 6, (Option.some FieldType.int)),
  (8, yX8_pool, cX8_pool, 1, (Option.some FieldType.int)),
  (8, yX8_pays, cX8_pays, 3, (Option.some FieldType.int)),
  (8, yX8_behind, cX8_behind, 4, (Option.some FieldType.int)),
  (8, yX8_toLaps, cX8_toLaps, 4, (Option.some FieldType.int)),
  (8, yX8_meet, cX8_meet, 4, (Option.some FieldType.int)),
  (8, yX8_colder, cX8_colder, 4, (Option.some FieldType.int)),
  (8, yX8_stick, cX8_stick, 4, (Option.some FieldType.int)),
  (8, yX8_paced, cX8_paced, 9, (Option.some FieldType.int)),
  (8, yX8_differences, cX8_differences, 7, (Option.some FieldType.int)),
  (8, yX8_fine, cX8_fine, 2, (Option.some FieldType.int)),
  (8, yX8_feed, cX8_feed, 4, (Option.some FieldType.int)),
  (8, yX8_feedFour, cX8_feedFour, 3, none),
  (8, yX8_trim, cX8_trim, 2, (Option.some FieldType.int)),
  (8, yX8_textTold, cX8_textTold, 3, (Option.some FieldType.int)),
  (8, yX8_why, cX8_why, 2, (Option.some FieldType.int)),
  (8, yX8_sheet, cX8_sheet, 4, (Option.some FieldType.int)),
  (8, yX8_mark, cX8_mark, 5, (Option.some FieldType.int)),
  (8, yX8_pour, cX8_pour, 7, (Option.some FieldType.int)),
  (8, yX8_reads, cX8_reads, 4, (Option.some FieldType.int)),
  (8, yX8_isYard, cX8_isYard, 3, (Option.some FieldType.boolean)),
  (8, yX8_copy, cX8_copy, 8, (Option.some FieldType.int)),
  (8, yX8_lay, cX8_lay, 6, (Option.some FieldType.int)),
  (8, yX8_ask, cX8_ask, 4, (Option.some FieldType.int)),
  (8, yX8_item, cX8_item, 4, (Option.some FieldType.int)),
  (8, yX8_rest, cX8_rest, 4, (Option.some FieldType.int)),
  (8, yX8_tell, cX8_tell, 2, (Option.some FieldType.int)),
  (8, yX8_check, cX8_check, 5, (Option.some FieldType.int)),
  (8, yX8_waitsAt, cX8_waitsAt, 4, (Option.some FieldType.boolean)),
  (8, yX8_keep, cX8_keep, 1, (Option.some FieldType.int)),
  (8, yX8_back, cX8_back, 1, (Option.some FieldType.int)),
  (8, yX8_count, cX8_count, 2, (Option.some FieldType.int)),
  (8, yX8_within, cX8_within, 3, (Option.some FieldType.boolean)),
  (8, yX8_held, cX8_held, 2, (Option.some FieldType.int)),
  (8, yX8_isKind, cX8_isKind, 1, (Option.some FieldType.boolean)),
  (8, yX8_isOwner, cX8_isOwner, 1, (Option.some FieldType.boolean)),
  (8, yX8_isSheet, cX8_isSheet, 1, (Option.some FieldType.boolean)),
  (8, yX8_isSlot, cX8_isSlot, 1, (Option.some FieldType.boolean)),
  (9, yX9_in, cX9_in, 3, (Option.some FieldType.boolean)),
  (9, yX9_within, cX9_within, 3, (Option.some FieldType.int)),
  (9, yX9_copyAll, cX9_copyAll, 3, none),
  (9, yX9_told0, cX9_told0, 1, (Option.some FieldType.int)),
  (9, yX9_isTurtle, cX9_isTurtle, 2, (Option.some FieldType.boolean)),
  (9, yX9_isWager, cX9_isWager, 2, (Option.some FieldType.boolean)),
  (9, yX9_of, cX9_of, 3, (Option.some FieldType.int)),
  (9, yX9_put, cX9_put, 4, none),
  (9, yX9_becomes, cX9_becomes, 4, (Option.some FieldType.int)),
  (9, yX9_comes, cX9_comes, 5, (Option.some FieldType.int)),
  (9, yX9_turtle, cX9_turtle, 3, (Option.some FieldType.int)),
  (9, yX9_yardOf, cX9_yardOf, 3, (Option.some FieldType.int)),
  (9, yX9_lapsOf, cX9_lapsOf, 2, (Option.some FieldType.int)),
  (9, yX9_worthOf, cX9_worthOf, 3, (Option.some FieldType.int)),
  (9, yX9_told, cX9_told, 3, (Option.some FieldType.int)),
  (9, yX9_stepBy, cX9_stepBy, 7, (Option.some FieldType.int)),
  (9, yX9_step, cX9_step, 3, (Option.some FieldType.int)),
  (9, yX9_isUnder, cX9_isUnder, 2, (Option.some FieldType.boolean)),
  (9, yX9_as, cX9_as, 3, (Option.some FieldType.int)),
  (9, yX9_turns, cX9_turns, 3, (Option.some FieldType.int))]
def MTB2 : List (Nat × MethodName × ByteArray × Nat × Option FieldType) := [
  (9, yX9_mostOf, cX9_mostOf, 1, (Option.some FieldType.int)),
  (9, yX9_set, cX9_set, 4, (Option.some FieldType.int)),
  (9, yX9_push, cX9_push, 3, (Option.some FieldType.int)),
  (9, yX9_egg, cX9_egg, 3, (Option.some FieldType.int)),
  (9, yX9_rule, cX9_rule, 3, (Option.some FieldType.int)),
  (9, yX9_draw, cX9_draw, 1, (Option.some FieldType.int)),
  (9, yX9_deal, cX9_deal, 5, (Option.some FieldType.int)),
  (9, yX9_seed, cX9_seed, 2, (Option.some FieldType.int)),
  (9, yX9_day, cX9_day, 4, none),
  (9, yX9_goesOn, cX9_goesOn, 3, none),
  (9, yX9_ahead, cX9_ahead, 3, (Option.some FieldType.int)),
  (9, yX9_days, cX9_days, 2, (Option.some FieldType.int)),
  (9, yX9_leads, cX9_leads, 1, (Option.some FieldType.int)),
  (9, yX9_bets, cX9_bets, 5, (Option.some FieldType.int)),
  (9, yX9_wager, cX9_wager, 4, (Option.some FieldType.int)),
  (9, yX9_wagerTold, cX9_wagerTold, 3, (Option.some FieldType.int)),
  (9, yX9_inherit, cX9_inherit, 7, (Option.some FieldType.int)),
  (9, yX9_stakes, cX9_stakes, 4, (Option.some FieldType.int)),
  (9, yX9_pool, cX9_pool, 1, (Option.some FieldType.int)),
  (9, yX9_paysFor, cX9_paysFor, 7, (Option.some FieldType.int)),
  (9, yX9_pays, cX9_pays, 3, (Option.some FieldType.int)),
  (9, yX9_thinks, cX9_thinks, 2, none),
  (9, yX9_putsBack, cX9_putsBack, 2, none),
  (9, yX9_paidTo, cX9_paidTo, 5, (Option.some FieldType.int)),
  (9, yX9_behind, cX9_behind, 5, (Option.some FieldType.int)),
  (9, yX9_farthest, cX9_farthest, 4, (Option.some FieldType.int)),
  (9, yX9_toLaps, cX9_toLaps, 4, (Option.some FieldType.int)),
  (9, yX9_meet, cX9_meet, 4, (Option.some FieldType.int)),
  (9, yX9_leadsBehind, cX9_leadsBehind, 4, (Option.some FieldType.boolean)),
  (9, yX9_colder, cX9_colder, 4, (Option.some FieldType.int)),
  (9, yX9_stick, cX9_stick, 4, (Option.some FieldType.int)),
  (9, yX9_offBy, cX9_offBy, 10, (Option.some FieldType.long)),
  (9, yX9_paced, cX9_paced, 10, (Option.some FieldType.int)),
  (9, yX9_fine, cX9_fine, 3, (Option.some FieldType.int)),
  (9, yX9_feed, cX9_feed, 6, (Option.some FieldType.int)),
  (9, yX9_trim, cX9_trim, 2, (Option.some FieldType.int)),
  (9, yX9_isLetter, cX9_isLetter, 2, (Option.some FieldType.boolean)),
  (9, yX9_isFigure, cX9_isFigure, 2, (Option.some FieldType.boolean)),
  (9, yX9_go, cX9_go, 2, none),
  (9, yX9_takesKey, cX9_takesKey, 5, (Option.some FieldType.boolean)),
  (9, yX9_nameOf, cX9_nameOf, 2, (Option.some FieldType.int)),
  (9, yX9_rank, cX9_rank, 1, (Option.some FieldType.int)),
  (9, yX9_settle, cX9_settle, 2, none),
  (9, yX9_signHere, cX9_signHere, 1, (Option.some FieldType.int)),
  (9, yX9_takesPart, cX9_takesPart, 2, (Option.some FieldType.boolean)),
  (9, yX9_takesE, cX9_takesE, 5, (Option.some FieldType.boolean)),
  (9, yX9_notsOpen, cX9_notsOpen, 3, (Option.some FieldType.int)),
  (9, yX9_text, cX9_text, 4, (Option.some FieldType.int)),
  (9, yX9_textTold, cX9_textTold, 3, (Option.some FieldType.int)),
  (9, yX9_counts, cX9_counts, 3, (Option.some FieldType.int)),
  (9, yX9_why, cX9_why, 3, (Option.some FieldType.int)),
  (9, yX9_two, cX9_two, 3, (Option.some FieldType.int)),
  (9, yX9_worksOut, cX9_worksOut, 6, (Option.some FieldType.int)),
  (9, yX9_isSheet, cX9_isSheet, 1, (Option.some FieldType.boolean)),
  (9, yX9_isSlot, cX9_isSlot, 1, (Option.some FieldType.boolean)),
  (9, yX9_sheet, cX9_sheet, 5, (Option.some FieldType.int)),
  (9, yX9_mark, cX9_mark, 4, (Option.some FieldType.int)),
  (9, yX9_pour, cX9_pour, 6, (Option.some FieldType.int)),
  (9, yX9_reads, cX9_reads, 4, (Option.some FieldType.int)),
  (9, yX9_copy, cX9_copy, 7, (Option.some FieldType.int)),
  (9, yX9_lay, cX9_lay, 6, (Option.some FieldType.int)),
  (9, yX9_ask, cX9_ask, 3, (Option.some FieldType.int)),
  (9, yX9_item, cX9_item, 4, (Option.some FieldType.int)),
  (9, yX9_rest, cX9_rest, 3, (Option.some FieldType.int))]
def MTB3 : List (Nat × MethodName × ByteArray × Nat × Option FieldType) := [
  (9, yX9_tell, cX9_tell, 2, (Option.some FieldType.int)),
  (9, yX9_sumOf, cX9_sumOf, 4, (Option.some FieldType.int)),
  (9, yX9_check, cX9_check, 6, (Option.some FieldType.int)),
  (9, yX9_keep, cX9_keep, 1, (Option.some FieldType.int)),
  (9, yX9_back, cX9_back, 1, (Option.some FieldType.int)),
  (9, yX9_count, cX9_count, 2, (Option.some FieldType.int)),
  (12, yJ9_floorDiv_7cf53, cJ9_floorDiv_7cf53, 3, (Option.some FieldType.int)),
  (12, yJ9_floorMod_7cf53, cJ9_floorMod_7cf53, 3, (Option.some FieldType.int)),
  (12, yJ9_abs_0f7a4, cJ9_abs_0f7a4, 1, (Option.some FieldType.int)),
  (12, yJ9_max_7cf53, cJ9_max_7cf53, 2, (Option.some FieldType.int)),
  (12, yJ9_min_7cf53, cJ9_min_7cf53, 2, (Option.some FieldType.int)),
  (10, yJ0_length_8abf5, cJ0_length_8abf5, 1, (Option.some FieldType.int)),
  (10, yJ0_charAt_5068e, cJ0_charAt_5068e, 2, (Option.some FieldType.char)),
  (10, yJ0_indexOf_0f7a4, cJ0_indexOf_0f7a4, 2, (Option.some FieldType.int)),
  (10, yJ0_indexOf_7cf53, cJ0_indexOf_7cf53, 3, (Option.some FieldType.int)),
  (10, yJ0_coder_7d493, cJ0_coder_7d493, 1, (Option.some FieldType.byte)),
  (10, yJ0_isLatin1_aae02, cJ0_isLatin1_aae02, 1, (Option.some FieldType.boolean)),
  (10, yJ0_checkIndex_df160, cJ0_checkIndex_df160, 2, none),
  (11, yJ1_charAt_3b067, cJ1_charAt_3b067, 2, (Option.some FieldType.char)),
  (11, yJ1_canEncode_9a6ad, cJ1_canEncode_9a6ad, 1, (Option.some FieldType.boolean)),
  (11, yJ1_indexOf_4cfef, cJ1_indexOf_4cfef, 4, (Option.some FieldType.int)),
  (11, yJ1_indexOfChar_4cfef, cJ1_indexOfChar_4cfef, 6, (Option.some FieldType.int)),
  (13, yJ3_checkIndex_8e157, cJ3_checkIndex_8e157, 3, (Option.some FieldType.int)),
  (5, yX5_init, cX5_init, 1, none),
  (0, yX0_init, cX0_init, 2, none),
  (1, yX1_init, cX1_init, 3, none),
  (3, yX3_init, cX3_init, 1, none),
  (4, yX4_init, cX4_init, 1, none),
  (9, yX9_init, cX9_init, 1, none),
  (8, yX8_init, cX8_init, 2, none),
  (8, yX8_text, cX8_text, 4, (Option.some FieldType.int)),
  (14, yL_law, cL_law, 4, (some .boolean))]
def MTB : List (Nat × MethodName × ByteArray × Nat × Option FieldType) := MTB0 ++ (MTB1 ++ (MTB2 ++ (MTB3)))
def mtb (j : Nat) : Nat × MethodName × ByteArray × Nat × Option FieldType := MTB.getD j (0, yX0_init, cX0_init, 0, none)
def cnN (j : Nat) : Nat := (mtb j).1
def yN (j : Nat) : MethodName := (mtb j).2.1
def byN (j : Nat) : ByteArray := (mtb j).2.2.1
def mxN (j : Nat) : Nat := (mtb j).2.2.2.1
def rtN (j : Nat) : Option FieldType := (mtb j).2.2.2.2
def mcN (j : Nat) : Nat := cond (Nat.ble 215 j) (match j - 215 with
  | 0 => 2
  | 1 => 60
  | 2 => 40
  | 3 => 2
  | 4 => 5
  | 5 => 60
  | 6 => 300
  | 7 => 2
  | 8 => 600000
  | _ => 0) 0
def msN (j : Nat) : Nat := cond (Nat.ble 215 j) (match j - 215 with
  | 0 => 100
  | 1 => 3000
  | 2 => 200
  | 3 => 30
  | 4 => 60
  | 5 => 8000
  | 6 => 6000
  | 7 => 10
  | 8 => 7302249
  | _ => 0) 0
def FLL : List (Nat × Nat × Nat × Nat) := [(0, 11, 0, 0), (0, 17, 0, 1), (0, 21, 0, 2), (0, 38, 5, 1), (0, 42, 5, 0), (1, 11, 1, 1), (1, 19, 1, 2), (1, 24, 1, 3), (1, 28, 1, 7), (1, 32, 1, 8), (1, 35, 1, 9), (1, 38, 1, 11), (1, 41, 1, 0), (1, 47, 1, 4), (1, 54, 1, 5), (1, 60, 1, 6), (1, 63, 1, 10), (1, 74, 7, 0), (1, 77, 7, 1), (1, 80, 7, 2), (1, 84, 6, 2), (1, 96, 6, 0), (1, 103, 6, 3), (1, 113, 6, 1), (1, 128, 6, 5), (1, 138, 6, 4), (2, 11, 2, 5), (2, 15, 2, 0), (2, 19, 2, 1), (2, 22, 2, 2), (2, 42, 2, 3), (2, 45, 2, 4), (2, 52, 2, 6), (2, 62, 5, 2), (3, 9, 3, 0), (3, 15, 3, 2), (3, 19, 3, 1), (4, 9, 4, 0), (4, 18, 4, 1), (4, 25, 4, 2), (5, 9, 5, 0), (5, 15, 5, 1), (5, 19, 5, 3), (6, 9, 6, 0), (6, 15, 6, 1), (6, 18, 6, 2), (6, 21, 6, 3), (6, 24, 6, 4), (6, 28, 6, 5), (7, 7, 7, 0), (7, 13, 7, 1), (7, 16, 7, 2), (8, 10, 8, 0), (8, 21, 8, 1), (8, 25, 8, 2), (8, 28, 8, 3), (8, 31, 8, 5), (8, 37, 8, 7), (8, 43, 8, 8), (8, 47, 8, 9), (8, 61, 1, 4), (8, 73, 1, 1), (8, 77, 6, 0), (8, 82, 6, 1), (8, 85, 6, 2), (8, 88, 6, 3), (8, 91, 6, 4), (8, 95, 6, 5), (8, 125, 1, 7), (8, 128, 1, 8), (8, 131, 1, 9), (8, 142, 1, 11), (8, 145, 1, 10), (8, 162, 1, 5), (8, 172, 1, 2), (8, 176, 7, 0), (8, 181, 7, 1), (8, 184, 7, 2), (8, 216, 3, 1), (8, 222, 3, 2), (8, 232, 8, 6), (8, 238, 1, 6), (8, 253, 1, 3), (8, 256, 5, 2), (8, 261, 5, 3), (8, 273, 3, 0), (8, 296, 4, 0), (8, 299, 4, 1), (8, 305, 4, 2), (8, 312, 4, 3), (8, 318, 8, 10), (8, 321, 8, 4), (9, 9, 9, 0), (9, 13, 9, 1), (9, 16, 9, 2), (9, 19, 9, 4), (9, 22, 9, 5), (9, 25, 9, 13), (9, 29, 9, 14), (9, 32, 9, 15), (9, 35, 9, 18), (9, 38, 9, 20), (9, 42, 9, 21), (9, 45, 9, 22), (9, 48, 9, 23), (9, 51, 9, 24), (9, 54, 9, 25), (9, 57, 9, 26), (9, 60, 9, 27), (9, 63, 9, 28), (9, 66, 9, 29), (9, 69, 9, 30), (9, 72, 9, 31), (9, 185, 9, 6), (9, 189, 9, 7), (9, 192, 9, 8), (9, 195, 9, 11), (9, 198, 9, 9), (9, 204, 9, 10), (9, 210, 9, 12), (9, 216, 9, 19), (9, 222, 9, 16), (9, 228, 9, 17), (9, 260, 9, 32), (9, 263, 9, 3)]
def MLL : List (Nat × Nat × Nat) := [(0, 25, 202), (0, 31, 201), (0, 34, 0), (0, 45, 2), (1, 50, 49), (1, 57, 53), (1, 70, 48), (1, 87, 198), (1, 93, 199), (1, 99, 12), (1, 106, 201), (1, 109, 13), (1, 116, 1), (1, 125, 15), (1, 132, 8), (1, 135, 11), (1, 141, 19), (1, 144, 20), (1, 148, 21), (1, 152, 9), (2, 26, 44), (2, 31, 26), (2, 34, 28), (2, 38, 30), (2, 48, 27), (2, 58, 29), (2, 69, 203), (2, 75, 204), (2, 79, 32), (2, 83, 31), (2, 86, 45), (2, 90, 34), (2, 93, 35), (2, 96, 46), (2, 99, 33), (2, 103, 36), (2, 107, 205), (3, 32, 40), (5, 22, 45), (8, 9, 216), (8, 18, 217), (8, 52, 104), (8, 56, 102), (8, 66, 6), (8, 70, 4), (8, 98, 9), (8, 102, 10), (8, 105, 51), (8, 109, 11), (8, 113, 50), (8, 117, 60), (8, 121, 55), (8, 134, 202), (8, 139, 8), (8, 148, 14), (8, 152, 67), (8, 156, 16), (8, 159, 105), (8, 165, 7), (8, 169, 5), (8, 187, 19), (8, 190, 21), (8, 194, 3), (8, 198, 22), (8, 201, 15), (8, 204, 106), (8, 207, 39), (8, 212, 79), (8, 219, 42), (8, 225, 200), (8, 229, 23), (8, 235, 82), (8, 241, 0), (8, 247, 24), (8, 250, 25), (8, 264, 37), (8, 269, 40), (8, 278, 103), (8, 281, 90), (8, 284, 41), (8, 293, 107), (8, 302, 49), (8, 309, 38), (8, 315, 43), (8, 324, 98), (8, 327, 17), (8, 330, 18), (8, 333, 201), (9, 76, 108), (9, 80, 115), (9, 86, 117), (9, 90, 114), (9, 93, 119), (9, 97, 112), (9, 101, 120), (9, 104, 121), (9, 107, 177), (9, 110, 180), (9, 113, 109), (9, 117, 123), (9, 120, 125), (9, 125, 116), (9, 128, 128), (9, 133, 133), (9, 137, 136), (9, 140, 137), (9, 144, 138), (9, 147, 111), (9, 150, 141), (9, 153, 113), (9, 156, 145), (9, 159, 147), (9, 162, 149), (9, 165, 151), (9, 168, 150), (9, 171, 153), (9, 174, 156), (9, 177, 181), (9, 181, 159), (9, 201, 164), (9, 207, 165), (9, 213, 166), (9, 219, 169), (9, 225, 168), (9, 231, 170), (9, 234, 172), (9, 238, 174), (9, 241, 171), (9, 244, 167), (9, 247, 173), (9, 250, 179), (9, 257, 182), (9, 267, 110), (9, 271, 193), (10, 335, 207), (10, 492, 208), (10, 495, 210), (10, 505, 203), (10, 633, 206), (10, 637, 212), (10, 1059, 214), (11, 9, 209), (11, 38, 202), (11, 88, 211), (11, 92, 201), (11, 95, 213), (14, 9, 221), (14, 12, 220), (14, 13, 54), (14, 17, 118), (14, 18, 55), (14, 21, 122), (14, 22, 56), (14, 25, 124), (14, 26, 57), (14, 29, 126), (14, 30, 58), (14, 33, 127), (14, 34, 59), (14, 38, 129), (14, 39, 61), (14, 42, 130), (14, 43, 62), (14, 46, 131), (14, 47, 63), (14, 50, 132), (14, 51, 64), (14, 55, 134), (14, 56, 65), (14, 59, 135), (14, 60, 66), (14, 63, 139), (14, 64, 67), (14, 68, 140), (14, 69, 68), (14, 72, 142), (14, 73, 69), (14, 76, 143), (14, 77, 70), (14, 80, 144), (14, 81, 71), (14, 84, 146), (14, 85, 72), (14, 88, 148), (14, 89, 73), (14, 92, 152), (14, 93, 74), (14, 96, 154), (14, 97, 75), (14, 100, 155), (14, 101, 76), (14, 104, 157), (14, 105, 77), (14, 108, 158), (14, 109, 78), (14, 112, 160), (14, 113, 80), (14, 116, 161), (14, 117, 81), (14, 120, 162), (14, 121, 83), (14, 124, 163), (14, 125, 222), (14, 128, 175), (14, 129, 84), (14, 132, 176), (14, 133, 85), (14, 136, 178), (14, 137, 86), (14, 140, 183), (14, 141, 87), (14, 144, 184), (14, 145, 88), (14, 148, 185), (14, 149, 89), (14, 152, 186), (14, 153, 91), (14, 157, 187), (14, 158, 92), (14, 161, 188), (14, 162, 93), (14, 165, 189), (14, 166, 94), (14, 169, 190), (14, 170, 95), (14, 173, 191), (14, 174, 96), (14, 177, 192), (14, 178, 97), (14, 181, 194), (14, 182, 99), (14, 185, 195), (14, 186, 100), (14, 189, 196), (14, 190, 101), (14, 193, 197)]
def MNL : List (Nat × Nat × Nat) := [(0, 24, 215), (1, 45, 47), (1, 46, 52), (1, 66, 102), (1, 122, 103), (3, 28, 102), (4, 17, 47), (4, 24, 218), (6, 31, 104), (8, 50, 218), (8, 51, 219)]
def CLL : List (Nat × Nat × Nat) := [(0, 9, 5), (1, 9, 6), (1, 17, 7), (4, 15, 6), (4, 22, 3), (8, 7, 0), (8, 16, 1), (8, 35, 3), (8, 41, 4), (8, 245, 2), (14, 7, 8), (14, 10, 9)]
def CSL : List (Nat × Nat × Int32) := [(1, 23, (-1000000005)), (1, 83, 1103515245), (3, 36, (-1000000005)), (4, 29, (-1000000011)), (4, 30, (-1000000012)), (8, 60, (-1000000001)), (8, 65, (-1000000003)), (8, 116, (-1000000012)), (8, 124, (-1000000002)), (8, 155, (-1000000005)), (8, 211, (-1000000011)), (8, 268, (-1000000014)), (8, 272, (-1000000013)), (8, 276, (-99999)), (8, 277, 99999), (9, 75, (-1000000005)), (9, 84, (-1000000001)), (9, 85, (-1000000003)), (9, 124, (-1000000012)), (9, 131, (-1000000002)), (9, 132, 1103515245), (9, 180, (-1000000011)), (9, 253, (-1000000014)), (9, 254, (-1000000013)), (9, 255, (-99999)), (9, 256, 99999)]
def OIL : List (Nat × Nat) := [(8, 1), (0, 3), (1, 3), (2, 3), (3, 3), (4, 3), (5, 3), (6, 3), (7, 1), (9, 1)]
def ACL : List (Nat × Nat) := [(8, 287), (3, 22)]
def STL : List (Nat × String) := [(56, "pace"), (65, "pay"), (67, "fine"), (110, "pacx"), (112, "wst"), (114, "lp")]
abbrev Mem : Type := Nat → Nat → Int32
abbrev Shp : Type := Nat × (Nat → Nat) × (Nat → Nat) × (Nat → Nat → Nat)
abbrev Lvs : Type := List (Option Value)
abbrev Qt : Type := Option Value → Shp → Mem → Prop
abbrev Kt : Type := Nat → Lvs → List Value → Shp → Nat × Nat → Mem → Prop
abbrev En : Type := Instr × Nat × Value × Nat × Nat
def mu (m : Mem) (a i : Nat) (v : Int32) : Mem := fun b k => if b = a ∧ k = i then v else m b k
def nth {α : Type} : List α → Nat → Option α
  | [], _ => none
  | a :: _, 0 => some a
  | _ :: l, k + 1 => nth l k
/-- a store into place i of the names: a long that reaches into it is gone -/
def kil (a : Option Value) : Option Value := match a with
  | some (.long _) => none
  | some (.double _) => none
  | a => a
def st1 : Lvs → Nat → Value → Lvs
  | [], _, _ => []
  | _ :: L, 0, v => some v :: L
  | a :: L, 1, v => kil a :: st1 L 0 v
  | a :: L, k + 2, v => a :: st1 L (k + 1) v
def st2 (L : Lvs) (i : Nat) (v : Value) : Lvs := (st1 L i v).set (i + 1) none
def cv (kc : Nat → Value) (ad : Nat → Nat) (v : Value) : Value := match v with
  | .ref a => .ref (ad a)
  | .retAddr k => kc k
  | v => v
def rop (ad : Nat → Nat) (r : Nat) : Option Nat := match r with
  | 0 => none
  | k + 1 => some (ad k)
def fval (ad : Nat → Nat) (ty : FieldType) (r : Nat) (x : Int32) : Value := match ty with
  | .object _ => va_rf (rop ad r)
  | .array _ => va_rf (rop ad r)
  | _ => .int x
def cellE (tA : Nat → ClassId) (ad : Nat → Nat) (S : Shp) (mem : Mem) (k : Nat) : va_E :=
  if S.2.1 k < 20 then .inr (S.2.1 k, (List.range (clC (S.2.1 k)).2.2).map (fun f => fval ad (tyN (S.2.1 k) f) (S.2.2.2 k f) (mem k f)))
  else if S.2.1 k < 23 then .inl (tA (S.2.1 k), S.2.2.1 k, .inl (mem k))
  else .inl (tA (S.2.1 k), S.2.2.1 k, .inr (.inr (.inr (.inr (fun i => rop ad (S.2.2.2 k i))))))
def wl (tA : Nat → ClassId) (ad : Nat → Nat) (S : Shp) (mem : Mem) : va_W := (List.range S.1).map (fun k => (ad k, cellE tA ad S mem k))
def tysL (tA : Nat → ClassId) : List (ClassId × FieldType) := [(tA 20, .int), (tA 21, .boolean), (tA 22, .char), (tA 23, .object RX5), (tA 24, .object RX6), (tA 25, .object RX7), (tA 26, .object RX3), (tA 27, .object RX4)]
def tagTy (t : Nat) : FieldType := match t with
  | 20 => .int | 21 => .boolean | 22 => .char | 23 => .object RX5 | 24 => .object RX6 | 25 => .object RX7 | 26 => .object RX3 | _ => .object RX4
/-- the class number that an array of references holds -/
def tagC (t : Nat) : Nat := match t with
  | 23 => 5 | 24 => 6 | 25 => 7 | 26 => 3 | _ => 4
def Wf (S : Shp) : Prop := S.1 ≤ 900 ∧ (∀ k, k < S.1 → S.2.1 k < 10 ∨ (20 ≤ S.2.1 k ∧ S.2.1 k < 28)) ∧ (∀ k f, k < S.1 → S.2.2.2 k f ≤ S.1)
def Gf (base : Nat) : Nat → Prop := fun q => base ≤ q
def ABV : List Int32 := [-1, 0, 0, 1, 2, 0]
def abv (k : Nat) : Int32 := ABV.getD k 0
def SLEN : List Nat := [4, 3, 4, 4, 3, 2]
def SBYT : List (List Int32) := [[112, 97, 99, 101], [112, 97, 121], [102, 105, 110, 101], [112, 97, 99, 120], [119, 115, 116], [108, 112]]
def unr (v : Value) : Nat := match v with
  | .ref a => a
  | _ => 0
/-- the words' rows that are not handed on by lists: nest mates, arrays of references -/
def NSW : List Cond := lw_tbl.filter (fun w => match w with
  | .methodLinkNest _ _ _ _ => true
  | .fieldLinkNest _ _ _ _ _ _ => true
  | .arrayOver (.object _) => true
  | _ => false)
def TB : List Cond := lw_tbl.filter goodWord
/-- what is constant: texts, a table of the class, two statics of the JDK, the script -/
def Kst (base : Nat) (kc : Nat → Value) (L : Nat) (xs : Nat → Int32) (U : State) (H : Heap) : Prop :=
  (∀ k, kc k = .null ∨ ∃ a, kc k = .ref a) ∧ (∀ k, k < 6 → ∃ a, kc k = .ref a) ∧ (∀ k, k < 6 → ∃ a, kc (k + 10) = .ref a) ∧ (∃ a, kc 7 = .ref a) ∧ (∃ a, kc 20 = .ref a) ∧
  vk_S 6 SLEN SBYT (fun i => unr (kc i)) (fun i => unr (kc (i + 10))) (Gf base) U H ∧
  (∀ k, k < 6 → ∃ q : Nat × String, STL[k]? = some q ∧ vk_R RX2 q.1 q.2 (unr (kc k)) U) ∧
  va_Z "TurtleBet" "ABOVE" "[I" (kc 7) (Gf base) U H ∧ va_T .int (unr (kc 7)) 6 (fun k => .int (abv k)) (Gf base) U H ∧
  va_Z "java/lang/String" "COMPACT_STRINGS" "Z" (.int 1) (Gf base) U H ∧ va_Z "jdk/internal/util/Preconditions" "SIOOBE_FORMATTER" "Ljava/util/function/BiFunction;" (kc 8) (Gf base) U H ∧
  va_X (unr (kc 20)) L xs U H ∧ ¬ Gf base (unr (kc 20)) ∧ L < 2 ^ 31
/-- the part of the world that lies in the heap -/
def Wh (D : va_G) (tA : Nat → ClassId) (base : Nat) (ad : Nat → Nat) (S : Shp) (mem : Mem) (H : Heap) : Prop :=
  va_P D CLS (wl tA ad S mem) H ∧ va_D (Gf base) (wl tA ad S mem) ∧ Wf S ∧ base ≤ H.size
def Kt0 (D : va_G) (tA : Nat → ClassId) (U : State) : Prop := va_K D CLS (tysL tA) U ∧ ∀ w ∈ NSW, va_Nw w U
def Wd (D : va_G) (tA : Nat → ClassId) (base : Nat) (kc : Nat → Value) (ad : Nat → Nat) (S : Shp) (mem : Mem) (U : State) : Prop :=
  Kt0 D tA U ∧ Kst base kc (S.2.2.1 900) (mem 900) U U.heap ∧ Wh D tA base ad S mem U.heap
def wsN (j : Nat) : List Cond := .code (yN j) (byN j) (mxN j) (rtN j) :: TB
def rmN (d j : Nat) : Room := { frames := d, cells := mcN j, slots := msN j, locals := 128 * d }
def Qc (j : Nat) (D : va_G) (tA : Nat → ClassId) (base : Nat) (kc : Nat → Value) (ad0 : Nat → Nat) (n0 : Nat) (Q : Qt) : Array Value → State → Outcome → State → Prop := fun _ st o t =>
  ∃ (r : Option Value) (S : Shp) (mem : Mem) (ad : Nat → Nat), o = .returned (r.map (cv kc ad)) ∧ Q r S mem ∧ Wd D tA base kc ad S mem t ∧ (∀ k, k < n0 → ad k = ad0 k) ∧ n0 ≤ S.1 ∧ (mcN j = 0 → ad = ad0) ∧ va_F (Gf base) st t
/-- method j, called with these arguments in this world, ends with Q; d frames are left -/
def Mc (d j : Nat) (as : List Value) (S : Shp) (mem : Mem) (Q : Qt) : Prop :=
  ∀ (l : Launch) (D : va_G) (tA : Nat → ClassId) (base : Nat) (kc : Nat → Value) (ad : Nat → Nat),
    Met l (yN j) (wsN j) (rmN d j) (va_Pc (as.map (cv kc ad)) (fun U => Wd D tA base kc ad S mem U)) (Qc j D tA base kc ad S.1 Q) (mcN j) (msN j) (Gf base)
def Cx (j : Nat) (p : Program) (s : State) (m : MethodId) (args : Array Value) (meth : Method) (c : Code) (D : va_G) (tA : Nat → ClassId) (base : Nat) : Prop :=
  p.tables.exec = Jvm.exec ∧ c.code = byN j ∧ meth.sig.returnType = rtN j ∧ c.maxLocals = mxN j ∧ s.vm.findClass (cnm (cnN j)) = some m.cls ∧ (∀ w ∈ TB, w.before args s = true) ∧ meth.locks = false ∧ meth.name = (yN j).name ∧ Kt0 D tA s ∧ base ≤ s.heap.size
def lvh (kc : Nat → Value) (ad : Nat → Nat) (ls : Array Slot) (n : Nat) (L : Lvs) : Prop := ls.size = n ∧ lv_wf ls ∧ ∀ i v, nth L i = some (some v) → ls[i]? = some (.val (cv kc ad v))
/-- method j at pc, with these names and this stack, goes on to Q; d frames are left -/
def Xs (d j pc : Nat) (L : Lvs) (st : List Value) (S : Shp) (cs : Nat × Nat) (mem : Mem) (Q : Qt) : Prop :=
  ∀ (p : Program) (l : Launch) (e : Env) (s : State) (m : MethodId) (args : Array Value) (below : List Frame) (meth : Method) (c : Code) (D : va_G) (tA : Nat → ClassId) (base : Nat) (kc : Nat → Value) (ad0 : Nat → Nat) (n0 : Nat),
    Cx j p s m args meth c D tA base → ∀ (ad : Nat → Nat) (H : Heap) (locs : List Loc) (ls : Array Slot),
    (∀ k, k < n0 → ad k = ad0 k) → n0 ≤ S.1 → (mcN j = 0 → ad = ad0) → Kst base kc (S.2.2.1 900) (mem 900) s s.heap → Wh D tA base ad S mem H → va_S (Gf base) s.heap H locs → lvh kc ad ls (mxN j) L →
    W p l e (rmN d j) s m args below meth c H locs cs.1 cs.2 (MQ below (Qc j D tA base kc ad0 n0 Q) args s (mcN j) (msN j) (Gf base)) (F0 m pc ls (st.map (cv kc ad)))
-- the stack's shapes
def kI (st : List Value) (k : Int32 → List Value → Prop) : Prop := match st with
  | .int x :: r => k x r
  | _ => False
def kII (st : List Value) (k : Int32 → Int32 → List Value → Prop) : Prop := match st with
  | .int y :: .int x :: r => k x y r
  | _ => False
def kL (st : List Value) (k : Int64 → List Value → Prop) : Prop := match st with
  | .long x :: r => k x r
  | _ => False
def kLL (st : List Value) (k : Int64 → Int64 → List Value → Prop) : Prop := match st with
  | .long y :: .long x :: r => k x y r
  | _ => False
def kR (st : List Value) (k : Nat → List Value → Prop) : Prop := match st with
  | .ref a :: r => k a r
  | _ => False
/-- an int over a reference -/
def kIR (st : List Value) (k : Int32 → Nat → List Value → Prop) : Prop := match st with
  | .int x :: .ref a :: r => k x a r
  | _ => False
def kIIR (st : List Value) (k : Int32 → Int32 → Nat → List Value → Prop) : Prop := match st with
  | .int x :: .int i :: .ref a :: r => k x i a r
  | _ => False
def br (c : ClassFile.Cond) (x y : Int32) (A B : Prop) : Prop := match c with
  | .eq => if x = y then A else B
  | .ne => if x = y then B else A
  | .lt => if x < y then A else B
  | .ge => if x < y then B else A
  | .gt => if y < x then A else B
  | .le => if y < x then B else A
def swt (pc : Nat) (x : Int32) (K : Nat → Prop) (dflt : Int) : Int → List Int → Prop
  | _, [] => K (((pc : Int) + dflt).toNat)
  | lo, o :: r => if x = Int32.ofInt lo then K (((pc : Int) + o).toNat) else swt pc x K dflt (lo + 1) r
def swl (pc : Nat) (x : Int32) (K : Nat → Prop) (dflt : Int) : List (Int × Int) → Prop
  | [] => K (((pc : Int) + dflt).toNat)
  | (a, o) :: r => if x = Int32.ofInt a then K (((pc : Int) + o).toNat) else swl pc x K dflt r
def vok (n : Nat) (v : Value) : Bool := match v with
  | .ref a => Nat.blt a n
  | _ => true
def lok (n : Nat) (L : Lvs) : Bool := L.all (fun o => match o with
  | some v => vok n v
  | none => true)
def cats (st : List Value) : Nat := (st.map fun v => v.category).sum
def bok (j : Nat) (cs : Nat × Nat) : Bool := Nat.ble cs.1 (mcN j) && Nat.ble cs.2 (msN j)
def upn (f : Nat → Nat) (k v : Nat) : Nat → Nat := fun i => if i = k then v else f i
def mz (m : Mem) (n : Nat) : Mem := fun a i => if a = n then 0 else m a i
def rz (r : Nat → Nat → Nat) (n : Nat) : Nat → Nat → Nat := fun a i => if a = n then 0 else r a i
def ru (r : Nat → Nat → Nat) (a i v : Nat) : Nat → Nat → Nat := fun b k => if b = a ∧ k = i then v else r b k
def newS (S : Shp) (t len : Nat) : Shp := (S.1 + 1, upn S.2.1 S.1 t, upn S.2.2.1 S.1 len, rz S.2.2.2 S.1)
def callK (j d j' ac : Nat) (nxt : Nat) (as rest : List Value) (L : Lvs) (S : Shp) (cs : Nat × Nat) (mem : Mem) (K : Kt) : Prop :=
  cond (Nat.ble (cats rest) 8 && Nat.beq as.length ac) (cond (Nat.beq (mcN j') 0) (Mc d j' as S mem (fun r S' mem' => K nxt L (r.toList ++ rest) S' cs mem'))
    ((bok j (cs.1 + mcN j', cs.2 + msN j') = true ∧ lok S.1 L = true ∧ rest.all (vok S.1) = true) ∧ Mc d j' as S mem (fun r S' mem' => K nxt L (r.toList ++ rest) S' (cs.1 + mcN j', cs.2 + msN j') mem'))) False
/-- one instruction -/
def stp (j d : Nat) (E : En) (pc : Nat) (L : Lvs) (st : List Value) (S : Shp) (cs : Nat × Nat) (mem : Mem) (K : Kt) (Q : Qt) : Prop :=
  match E with
  | (i, nxt, v, a1, a2) => match i with
    | .iconst _ => K nxt L (v :: st) S cs mem
    | .bipush _ => K nxt L (v :: st) S cs mem
    | .sipush _ => K nxt L (v :: st) S cs mem
    | .lconst _ => K nxt L (v :: st) S cs mem
    | .ldc _ => K nxt L (v :: st) S cs mem
    | .ldc_w _ => K nxt L (v :: st) S cs mem
    | .getstatic _ => K nxt L (v :: st) S cs mem
    | .iload_n _ => (match nth L a1 with
      | some (some (.int x)) => K nxt L (.int x :: st) S cs mem
      | _ => False)
    | .iload _ => (match nth L a1 with
      | some (some (.int x)) => K nxt L (.int x :: st) S cs mem
      | _ => False)
    | .lload _ => (match nth L a1 with
      | some (some (.long x)) => K nxt L (.long x :: st) S cs mem
      | _ => False)
    | .aload_n _ => (match nth L a1 with
      | some (some (.ref x)) => K nxt L (.ref x :: st) S cs mem
      | some (some (.retAddr x)) => K nxt L (.retAddr x :: st) S cs mem
      | _ => False)
    | .aload _ => (match nth L a1 with
      | some (some (.ref x)) => K nxt L (.ref x :: st) S cs mem
      | _ => False)
    | .istore_n _ => kI st (fun x r => K nxt (st1 L a1 (.int x)) r S cs mem)
    | .istore _ => kI st (fun x r => K nxt (st1 L a1 (.int x)) r S cs mem)
    | .astore_n _ => kR st (fun x r => K nxt (st1 L a1 (.ref x)) r S cs mem)
    | .astore _ => kR st (fun x r => K nxt (st1 L a1 (.ref x)) r S cs mem)
    | .lstore _ => kL st (fun x r => cond (Nat.blt (a1 + 1) L.length) (K nxt (st2 L a1 (.long x)) r S cs mem) False)
    | .iinc _ _ => (match nth L a1, v with
      | some (some (.int x)), .int y => K nxt (st1 L a1 (.int (x + y))) st S cs mem
      | _, _ => False)
    | .iadd => kII st (fun x y r => K nxt L (.int (x + y) :: r) S cs mem)
    | .isub => kII st (fun x y r => K nxt L (.int (x - y) :: r) S cs mem)
    | .imul => kII st (fun x y r => K nxt L (.int (x * y) :: r) S cs mem)
    | .iand => kII st (fun x y r => K nxt L (.int (x &&& y) :: r) S cs mem)
    | .ixor => kII st (fun x y r => K nxt L (.int (x ^^^ y) :: r) S cs mem)
    | .ishl => kII st (fun x y r => K nxt L (.int (x <<< (y &&& 31)) :: r) S cs mem)
    | .ishr => kII st (fun x y r => K nxt L (.int (x >>> (y &&& 31)) :: r) S cs mem)
    | .iushr => kII st (fun x y r => K nxt L (.int ((x.toUInt32 >>> (y.toUInt32 &&& Int32.toUInt32 31)).toInt32) :: r) S cs mem)
    | .idiv => kII st (fun x y r => ¬ y = 0 ∧ K nxt L (.int (x / y) :: r) S cs mem)
    | .irem => kII st (fun x y r => ¬ y = 0 ∧ K nxt L (.int (x - x / y * y) :: r) S cs mem)
    | .ineg => kI st (fun x r => K nxt L (.int (-x) :: r) S cs mem)
    | .ladd => kLL st (fun x y r => K nxt L (.long (x + y) :: r) S cs mem)
    | .lsub => kLL st (fun x y r => K nxt L (.long (x - y) :: r) S cs mem)
    | .lmul => kLL st (fun x y r => K nxt L (.long (x * y) :: r) S cs mem)
    | .ldiv => kLL st (fun x y r => ¬ y = 0 ∧ K nxt L (.long (x / y) :: r) S cs mem)
    | .lneg => kL st (fun x r => K nxt L (.long (-x) :: r) S cs mem)
    | .lcmp => kLL st (fun x y r => K nxt L (.int (lg_cmp x y) :: r) S cs mem)
    | .i2l => kI st (fun x r => K nxt L (.long x.toInt64 :: r) S cs mem)
    | .l2i => kL st (fun x r => K nxt L (.int x.toInt32 :: r) S cs mem)
    | .i2s => kI st (fun x r => K nxt L (.int x.toInt16.toInt32 :: r) S cs mem)
    | .i2b => kI st (fun x r => K nxt L (.int x.toInt8.toInt32 :: r) S cs mem)
    | .i2c => kI st (fun x r => K nxt L (.int ((x.toUInt32 % 65536).toInt32) :: r) S cs mem)
    | .dup => (match st with
      | .int x :: r => K nxt L (.int x :: .int x :: r) S cs mem
      | .ref x :: r => K nxt L (.ref x :: .ref x :: r) S cs mem
      | _ => False)
    | .dup2 => (match st with
      | .int x :: .ref y :: r => K nxt L (.int x :: .ref y :: .int x :: .ref y :: r) S cs mem
      | _ => False)
    | .pop => kI st (fun _ r => K nxt L r S cs mem)
    | .ifCond c _ => kI st (fun x r => br c x 0 (K a1 L r S cs mem) (K nxt L r S cs mem))
    | .if_icmp c _ => kII st (fun x y r => br c x y (K a1 L r S cs mem) (K nxt L r S cs mem))
    | .goto _ => K a1 L st S cs mem
    | .tableswitch dflt lo _ offs => kI st (fun x r => swt pc x (fun t => K t L r S cs mem) dflt lo offs.toList)
    | .lookupswitch dflt ps => kI st (fun x r => swl pc x (fun t => K t L r S cs mem) dflt ps.toList)
    | .ireturn => (match v, st with
      | .int 0, [.int x] => cond (bok j cs) (Q (some (.int x)) S mem) False
      | .int 1, [.int x] => cond (bok j cs) ((x = 0 ∨ x = 1) ∧ Q (some (.int x)) S mem) False
      | .int 2, [.int x] => cond (bok j cs) (narrow .char (.int x) = .int x ∧ Q (some (.int x)) S mem) False
      | .int 3, [.int x] => cond (bok j cs) (narrow .byte (.int x) = .int x ∧ Q (some (.int x)) S mem) False
      | _, _ => False)
    | .lreturn => (match st with
      | [.long x] => cond (bok j cs) (Q (some (.long x)) S mem) False
      | _ => False)
    | .areturn => (match st with
      | [.ref x] => cond (bok j cs) (Q (some (.ref x)) S mem) False
      | [.retAddr x] => cond (bok j cs) (Q (some (.retAddr x)) S mem) False
      | _ => False)
    | .return_ => (match st with
      | [] => cond (bok j cs) (Q none S mem) False
      | _ => False)
    | .getfield _ => (match v, st with
      | .null, .ref a :: r => (S.2.1 a = a1 ∧ a < S.1 ∧ ¬ S.2.2.2 a a2 = 0) ∧ K nxt L (.ref (S.2.2.2 a a2 - 1) :: r) S cs mem
      | .int _, .ref a :: r => (S.2.1 a = a1 ∧ a < S.1) ∧ K nxt L (.int (mem a a2) :: r) S cs mem
      | .retAddr 0, .retAddr k :: r => k < 6 ∧ K nxt L (.int 0 :: r) S cs mem
      | .retAddr 1, .retAddr k :: r => k < 6 ∧ K nxt L (.retAddr (k + 10) :: r) S cs mem
      | _, _ => False)
    | .putfield _ => (match v, st with
      | .null, .ref b :: .ref a :: r => (S.2.1 a = a1 ∧ a < S.1 ∧ b < S.1) ∧ K nxt L r (S.1, S.2.1, S.2.2.1, ru S.2.2.2 a a2 (b + 1)) cs mem
      | .int 0, .int x :: .ref a :: r => (S.2.1 a = a1 ∧ a < S.1) ∧ K nxt L r S cs (mu mem a a2 x)
      | .int 1, .int x :: .ref a :: r => (S.2.1 a = a1 ∧ a < S.1 ∧ (x = 0 ∨ x = 1)) ∧ K nxt L r S cs (mu mem a a2 x)
      | _, _ => False)
    | .iaload => (match st with
      | .int i :: .ref a :: r => (S.2.1 a = 20 ∧ a < S.1 ∧ vp_in i (S.2.2.1 a)) ∧ K nxt L (.int (mem a i.toNatClampNeg) :: r) S cs mem
      | .int i :: .retAddr 7 :: r => vp_in i 6 ∧ K nxt L (.int (abv i.toNatClampNeg) :: r) S cs mem
      | .int i :: .retAddr 20 :: r => vp_in i (S.2.2.1 900) ∧ K nxt L (.int (mem 900 i.toNatClampNeg) :: r) S cs mem
      | _ => False)
    | .baload => (match st with
      | .int i :: .ref a :: r => (S.2.1 a = 21 ∧ a < S.1 ∧ vp_in i (S.2.2.1 a)) ∧ K nxt L (.int (mem a i.toNatClampNeg) :: r) S cs mem
      | .int i :: .retAddr k :: r => (10 ≤ k ∧ k < 16 ∧ vp_in i (SLEN.getD (k - 10) 0)) ∧ K nxt L (.int ((SBYT.getD (k - 10) []).getD i.toNatClampNeg 0) :: r) S cs mem
      | _ => False)
    | .caload => kIR st (fun i a r => (S.2.1 a = 22 ∧ a < S.1 ∧ vp_in i (S.2.2.1 a)) ∧ K nxt L (.int (mem a i.toNatClampNeg) :: r) S cs mem)
    | .aaload => kIR st (fun i a r => (23 ≤ S.2.1 a ∧ a < S.1 ∧ vp_in i (S.2.2.1 a) ∧ ¬ S.2.2.2 a i.toNatClampNeg = 0) ∧ K nxt L (.ref (S.2.2.2 a i.toNatClampNeg - 1) :: r) S cs mem)
    | .iastore => kIIR st (fun x i a r => (S.2.1 a = 20 ∧ a < S.1 ∧ vp_in i (S.2.2.1 a)) ∧ K nxt L r S cs (mu mem a i.toNatClampNeg x))
    | .bastore => kIIR st (fun x i a r => (S.2.1 a = 21 ∧ a < S.1 ∧ vp_in i (S.2.2.1 a)) ∧ K nxt L r S cs (mu mem a i.toNatClampNeg (x &&& 1)))
    | .castore => kIIR st (fun x i a r => (S.2.1 a = 22 ∧ a < S.1 ∧ vp_in i (S.2.2.1 a)) ∧ K nxt L r S cs (mu mem a i.toNatClampNeg x.toUInt32.toUInt16.toUInt32.toInt32))
    | .aastore => (match st with
      | .ref b :: .int i :: .ref a :: r => (23 ≤ S.2.1 a ∧ a < S.1 ∧ b < S.1 ∧ S.2.1 b = tagC (S.2.1 a) ∧ vp_in i (S.2.2.1 a)) ∧ K nxt L r (S.1, S.2.1, S.2.2.1, ru S.2.2.2 a i.toNatClampNeg (b + 1)) cs mem
      | _ => False)
    | .arraylength => (match st with
      | .ref a :: r => (20 ≤ S.2.1 a ∧ a < S.1) ∧ K nxt L (.int (Int32.ofNat (S.2.2.1 a)) :: r) S cs mem
      | .retAddr 20 :: r => K nxt L (.int (Int32.ofNat (S.2.2.1 900)) :: r) S cs mem
      | .retAddr k :: r => (10 ≤ k ∧ k < 16) ∧ K nxt L (.int (Int32.ofNat (SLEN.getD (k - 10) 0)) :: r) S cs mem
      | _ => False)
    | .new _ => (bok j (cs.1 + 1, cs.2 + (clC a1).2.2) = true ∧ S.1 < 900 ∧ lok S.1 L = true ∧ st.all (vok S.1) = true) ∧ K nxt L (.ref S.1 :: st) (newS S a1 0) (cs.1 + 1, cs.2 + (clC a1).2.2) (mz mem S.1)
    | .newarray _ => kI st (fun x r => (bok j (cs.1 + 1, cs.2 + x.toNatClampNeg) = true ∧ S.1 < 900 ∧ lok S.1 L = true ∧ r.all (vok S.1) = true ∧ ¬ x < 0 ∧ x.toNatClampNeg ≤ 10000) ∧ K nxt L (.ref S.1 :: r) (newS S a1 x.toNatClampNeg) (cs.1 + 1, cs.2 + x.toNatClampNeg) (mz mem S.1))
    | .anewarray _ => kI st (fun x r => (bok j (cs.1 + 1, cs.2 + x.toNatClampNeg) = true ∧ S.1 < 900 ∧ lok S.1 L = true ∧ r.all (vok S.1) = true ∧ ¬ x < 0 ∧ x.toNatClampNeg ≤ 10000) ∧ K nxt L (.ref S.1 :: r) (newS S a1 x.toNatClampNeg) (cs.1 + 1, cs.2 + x.toNatClampNeg) (mz mem S.1))
    | .invokespecial _ => (match v with
      | .int 2 => kR st (fun _ r => cond (Nat.ble (cats r) 8) (K nxt L r S cs mem) False)
      | _ => (match (st.take a2).reverse with
        | .ref a :: as => callK j d a1 a2 nxt (.ref a :: as) (st.drop a2) L S cs mem K
        | _ => False))
    | .invokestatic _ => (match v with
      | .int 3 => (match st with
        | .int n :: .int dp :: .ref b :: .int sp :: .ref a :: r => (S.2.1 a = 20 ∧ S.2.1 b = 20 ∧ a < S.1 ∧ b < S.1 ∧ ¬ sp < 0 ∧ ¬ dp < 0 ∧ ¬ n < 0 ∧ sp.toNatClampNeg + n.toNatClampNeg ≤ S.2.2.1 a ∧ dp.toNatClampNeg + n.toNatClampNeg ≤ S.2.2.1 b ∧ cats r ≤ 8) ∧
            K nxt L r S cs (fun q => if q = b then va_cpy (mem a) (mem b) sp.toNatClampNeg dp.toNatClampNeg n.toNatClampNeg else mem q)
        | _ => False)
      | _ => callK j d a1 a2 nxt (st.take a2).reverse (st.drop a2) L S cs mem K)
    | .invokevirtual _ => (match (st.take a2).reverse with
      | .ref a :: as => (S.2.1 a = cnN a1 ∧ a < S.1) ∧ callK j d a1 a2 nxt (.ref a :: as) (st.drop a2) L S cs mem K
      | .retAddr k :: as => (k < 6 ∧ cnN a1 = 10) ∧ callK j d a1 a2 nxt (.retAddr k :: as) (st.drop a2) L S cs mem K
      | _ => False)
    | _ => False
/-- many instructions, up to a cut -/
def wp (j : Nat) (I : Nat → Option En) (cut : Nat → Bool) (d : Nat) (Q : Qt) : Nat → Kt
  | 0 => fun pc L st S cs mem => Xs (d + 1) j pc L st S cs mem Q
  | f + 1 => fun pc L st S cs mem => match I pc with
    | some E => stp j d E pc L st S cs mem (fun pc' L' st' S' cs' mem' => cond (cut pc') (Xs (d + 1) j pc' L' st' S' cs' mem' Q) (wp j I cut d Q f pc' L' st' S' cs' mem')) Q
    | none => False
