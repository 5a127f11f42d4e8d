/-! printed by wip/whole/gen.py: classes, methods and links by number, and that the tables have them -/
def znth {α : Type} : List α → Nat → Option α
  | [], _ => none
  | a :: _, 0 => some a
  | _ :: t, n + 1 => znth t n
def znf (c : Nat) : Nat := match c with
  | 0 => 7
  | 1 => 6
  | 2 => 4
  | 3 => 6
  | 4 => 7
  | 5 => 9
  | 6 => 4
  | 7 => 1
  | 8 => 4
  | 9 => 1
  | 10 => 20
  | 11 => 40
  | _ => 0
def zRX (c : Nat) : String := match c with
  | 0 => RX0
  | 1 => RX1
  | 2 => RX2
  | 3 => RX3
  | 4 => RX4
  | 5 => RX5
  | 6 => RX6
  | 7 => RX7
  | 8 => RX8
  | 9 => RX9
  | 10 => RX10
  | _ => RX11
def zTX (c : Nat) : u_T := match c with
  | 0 => TX0
  | 1 => TX1
  | 2 => TX2
  | 3 => TX3
  | 4 => TX4
  | 5 => TX5
  | 6 => TX6
  | 7 => TX7
  | 8 => TX8
  | 9 => TX9
  | 10 => TX10
  | _ => TX11
def ztX (c : Nat) : Nat → FieldType := match c with
  | 0 => tyX0
  | 1 => tyX1
  | 2 => tyX2
  | 3 => tyX3
  | 4 => tyX4
  | 5 => tyX5
  | 6 => tyX6
  | 7 => tyX7
  | 8 => tyX8
  | 9 => tyX9
  | 10 => tyX10
  | _ => tyX11
def zRN (o : Nat) : String := match o with
  | 0 => "LetOff$Engine"
  | 1 => "LetOff$Image"
  | 2 => "LetOff$Notes"
  | 3 => "LetOff$Plan"
  | 4 => "LetOff$Reader"
  | 5 => "LetOff$Round"
  | 6 => "LetOff$RowSearch"
  | 7 => "LetOff$Rule"
  | 8 => "LetOff$RuleReader"
  | 9 => "LetOff$ShowReader"
  | 10 => "LetOff"
  | 11 => "LetOffModel"
  | 12 => "LetOffLaw"
  | 13 => "java/lang/Integer"
  | 14 => "java/lang/Math"
  | _ => "java/util/Arrays"
abbrev ZM : Type := MethodName × ByteArray × Nat × Option FieldType × Nat
def zMl : List ZM := [(yX10_init, cX10_init, 2, (Option.none : Option Jvm.ClassFile.FieldType), 10),
  (yX5_init, cX5_init, 1, (Option.none : Option Jvm.ClassFile.FieldType), 5),
  (yX2_init, cX2_init, 1, (Option.none : Option Jvm.ClassFile.FieldType), 2),
  (yX9_init, cX9_init, 1, (Option.none : Option Jvm.ClassFile.FieldType), 9),
  (yX4_init, cX4_init, 1, (Option.none : Option Jvm.ClassFile.FieldType), 4),
  (yX8_init, cX8_init, 1, (Option.none : Option Jvm.ClassFile.FieldType), 8),
  (yX0_init, cX0_init, 1, (Option.none : Option Jvm.ClassFile.FieldType), 0),
  (yX6_init, cX6_init, 2, (Option.none : Option Jvm.ClassFile.FieldType), 6),
  (yX1_init, cX1_init, 1, (Option.none : Option Jvm.ClassFile.FieldType), 1),
  (yX10_feed, cX10_feed, 6, (Option.some Jvm.ClassFile.FieldType.int), 10),
  (yX10_putBytes, cX10_putBytes, 3, (Option.none : Option Jvm.ClassFile.FieldType), 10),
  (yX10_end, cX10_end, 2, (Option.some Jvm.ClassFile.FieldType.int), 10),
  (yX10_show, cX10_show, 2, (Option.some Jvm.ClassFile.FieldType.int), 10),
  (yX9_read, cX9_read, 5, (Option.some (Jvm.ClassFile.FieldType.object "LetOff$Plan")), 9),
  (yX3_init, cX3_init, 1, (Option.none : Option Jvm.ClassFile.FieldType), 3),
  (yX4_open, cX4_open, 3, (Option.none : Option Jvm.ClassFile.FieldType), 4),
  (yJ9_min_7cf53, cJ9_min_7cf53, 2, (Option.some Jvm.ClassFile.FieldType.int), 14),
  (yJ9_max_7cf53, cJ9_max_7cf53, 2, (Option.some Jvm.ClassFile.FieldType.int), 14),
  (yX4_next, cX4_next, 1, (Option.none : Option Jvm.ClassFile.FieldType), 4),
  (yX4_kindOf, cX4_kindOf, 1, (Option.some Jvm.ClassFile.FieldType.int), 4),
  (yX9_readClause, cX9_readClause, 4, (Option.none : Option Jvm.ClassFile.FieldType), 9),
  (yX4_wordOf, cX4_wordOf, 6, (Option.some Jvm.ClassFile.FieldType.int), 4),
  (yX4_refuse, cX4_refuse, 2, (Option.none : Option Jvm.ClassFile.FieldType), 4),
  (yX4_takeNumber, cX4_takeNumber, 6, (Option.some Jvm.ClassFile.FieldType.int), 4),
  (yX4_isTooLong, cX4_isTooLong, 1, (Option.some Jvm.ClassFile.FieldType.boolean), 4),
  (yX9_readRoad, cX9_readRoad, 4, (Option.none : Option Jvm.ClassFile.FieldType), 9),
  (yX3_roadCells, cX3_roadCells, 3, (Option.some Jvm.ClassFile.FieldType.int), 3),
  (yX9_readCar, cX9_readCar, 6, (Option.none : Option Jvm.ClassFile.FieldType), 9),
  (yX5_comeOn, cX5_comeOn, 5, (Option.none : Option Jvm.ClassFile.FieldType), 5),
  (yX9_readGap, cX9_readGap, 3, (Option.none : Option Jvm.ClassFile.FieldType), 9),
  (yX4_takeSign, cX4_takeSign, 2, (Option.none : Option Jvm.ClassFile.FieldType), 4),
  (yX4_isSign, cX4_isSign, 2, (Option.some Jvm.ClassFile.FieldType.boolean), 4),
  (yX5_copyFrom, cX5_copyFrom, 3, (Option.none : Option Jvm.ClassFile.FieldType), 5),
  (yX10_rule, cX10_rule, 2, (Option.some Jvm.ClassFile.FieldType.int), 10),
  (yX8_read, cX8_read, 4, (Option.some (Jvm.ClassFile.FieldType.object "LetOff$Rule")), 8),
  (yX8_readGo, cX8_readGo, 2, (Option.none : Option Jvm.ClassFile.FieldType), 8),
  (yX8_readSum, cX8_readSum, 5, (Option.none : Option Jvm.ClassFile.FieldType), 8),
  (yX8_readValue, cX8_readValue, 2, (Option.none : Option Jvm.ClassFile.FieldType), 8),
  (yX8_countOne, cX8_countOne, 1, (Option.none : Option Jvm.ClassFile.FieldType), 8),
  (yX8_put, cX8_put, 2, (Option.none : Option Jvm.ClassFile.FieldType), 8),
  (yX8_putSign, cX8_putSign, 2, (Option.none : Option Jvm.ClassFile.FieldType), 8),
  (yX8_readTest, cX8_readTest, 5, (Option.none : Option Jvm.ClassFile.FieldType), 8),
  (yX8_readFact, cX8_readFact, 5, (Option.none : Option Jvm.ClassFile.FieldType), 8),
  (yX8_readNested, cX8_readNested, 3, (Option.none : Option Jvm.ClassFile.FieldType), 8),
  (yJ7_copyOf_59c91, cJ7_copyOf_59c91, 3, (Option.some (Jvm.ClassFile.FieldType.array Jvm.ClassFile.FieldType.int)), 15),
  (yX7_init, cX7_init, 2, (Option.none : Option Jvm.ClassFile.FieldType), 7),
  (yX10_force, cX10_force, 3, (Option.some Jvm.ClassFile.FieldType.int), 10),
  (yX10_car, cX10_car, 3, (Option.some Jvm.ClassFile.FieldType.int), 10),
  (yX10_isCar, cX10_isCar, 1, (Option.some Jvm.ClassFile.FieldType.boolean), 10),
  (yX10_road, cX10_road, 3, (Option.some Jvm.ClassFile.FieldType.int), 10),
  (yX10_isRoad, cX10_isRoad, 2, (Option.some Jvm.ClassFile.FieldType.boolean), 10),
  (yX10_gapIn, cX10_gapIn, 2, (Option.some Jvm.ClassFile.FieldType.int), 10),
  (yX10_isCell, cX10_isCell, 2, (Option.some Jvm.ClassFile.FieldType.boolean), 10),
  (yX5_hasGap, cX5_hasGap, 2, (Option.some Jvm.ClassFile.FieldType.boolean), 5),
  (yX10_count, cX10_count, 2, (Option.some Jvm.ClassFile.FieldType.int), 10),
  (yX5_carsOn, cX5_carsOn, 3, (Option.some Jvm.ClassFile.FieldType.int), 5),
  (yJ6_bitCount_0f7a4, cJ6_bitCount_0f7a4, 1, (Option.some Jvm.ClassFile.FieldType.int), 13),
  (yX5_allWaiting, cX5_allWaiting, 3, (Option.some Jvm.ClassFile.FieldType.int), 5),
  (yX10_step, cX10_step, 1, (Option.some Jvm.ClassFile.FieldType.int), 10),
  (yX10_keepForUndo, cX10_keepForUndo, 1, (Option.none : Option Jvm.ClassFile.FieldType), 10),
  (yX10_setEngine, cX10_setEngine, 2, (Option.none : Option Jvm.ClassFile.FieldType), 10),
  (yX0_drive, cX0_drive, 4, (Option.some Jvm.ClassFile.FieldType.int), 0),
  (yX0_goesOff, cX0_goesOff, 3, (Option.some Jvm.ClassFile.FieldType.boolean), 0),
  (yX0_isAtItsRoad, cX0_isAtItsRoad, 4, (Option.some Jvm.ClassFile.FieldType.boolean), 0),
  (yX0_setWords, cX0_setWords, 4, (Option.none : Option Jvm.ClassFile.FieldType), 0),
  (yX0_cellsBehind, cX0_cellsBehind, 5, (Option.some Jvm.ClassFile.FieldType.int), 0),
  (yX7_allows, cX7_allows, 9, (Option.some Jvm.ClassFile.FieldType.boolean), 7),
  (yX7_takesTwo, cX7_takesTwo, 1, (Option.some Jvm.ClassFile.FieldType.boolean), 7),
  (yX7_join, cX7_join, 5, (Option.some Jvm.ClassFile.FieldType.long), 7),
  (yX7_compared, cX7_compared, 5, (Option.some Jvm.ClassFile.FieldType.boolean), 7),
  (yX5_goOff, cX5_goOff, 2, (Option.none : Option Jvm.ClassFile.FieldType), 5),
  (yX0_goOnIfFree, cX0_goOnIfFree, 4, (Option.none : Option Jvm.ClassFile.FieldType), 0),
  (yX5_isFree, cX5_isFree, 2, (Option.some Jvm.ClassFile.FieldType.boolean), 5),
  (yX5_goOn, cX5_goOn, 3, (Option.none : Option Jvm.ClassFile.FieldType), 5),
  (yX0_letCome, cX0_letCome, 6, (Option.none : Option Jvm.ClassFile.FieldType), 0),
  (yX5_firstNotOn, cX5_firstNotOn, 2, (Option.some Jvm.ClassFile.FieldType.int), 5),
  (yX10_pole, cX10_pole, 3, (Option.some Jvm.ClassFile.FieldType.int), 10),
  (yX10_isOn, cX10_isOn, 2, (Option.some Jvm.ClassFile.FieldType.boolean), 10),
  (yX10_within, cX10_within, 3, (Option.some Jvm.ClassFile.FieldType.boolean), 10),
  (yX10_grass, cX10_grass, 3, (Option.some Jvm.ClassFile.FieldType.int), 10),
  (yX5_goOverGrass, cX5_goOverGrass, 2, (Option.none : Option Jvm.ClassFile.FieldType), 5),
  (yX10_fill, cX10_fill, 2, (Option.some Jvm.ClassFile.FieldType.int), 10),
  (yX5_closeGap, cX5_closeGap, 2, (Option.none : Option Jvm.ClassFile.FieldType), 5),
  (yX10_wish, cX10_wish, 4, (Option.some Jvm.ClassFile.FieldType.int), 10),
  (yX10_undo, cX10_undo, 1, (Option.some Jvm.ClassFile.FieldType.int), 10),
  (yJ9_floorMod_7cf53, cJ9_floorMod_7cf53, 3, (Option.some Jvm.ClassFile.FieldType.int), 14),
  (yX10_ahead, cX10_ahead, 5, (Option.some Jvm.ClassFile.FieldType.int), 10),
  (yX10_tryFromNow, cX10_tryFromNow, 1, (Option.some (Jvm.ClassFile.FieldType.object "LetOff$Round")), 10),
  (yX10_goneIn, cX10_goneIn, 5, (Option.some Jvm.ClassFile.FieldType.int), 10),
  (yX10_lets, cX10_lets, 3, (Option.some Jvm.ClassFile.FieldType.int), 10),
  (yX10_stepOff, cX10_stepOff, 5, (Option.some Jvm.ClassFile.FieldType.int), 10),
  (yX10_still, cX10_still, 3, (Option.some Jvm.ClassFile.FieldType.int), 10),
  (yX10_leastFuel, cX10_leastFuel, 5, (Option.some Jvm.ClassFile.FieldType.int), 10),
  (yX10_bestGrass, cX10_bestGrass, 3, (Option.some Jvm.ClassFile.FieldType.int), 10),
  (yX10_bestDeed, cX10_bestDeed, 9, (Option.some Jvm.ClassFile.FieldType.int), 10),
  (yX10_doDeed, cX10_doDeed, 4, (Option.some Jvm.ClassFile.FieldType.boolean), 10),
  (yX10_bestFill, cX10_bestFill, 3, (Option.some Jvm.ClassFile.FieldType.int), 10),
  (yX10_closed, cX10_closed, 3, (Option.some Jvm.ClassFile.FieldType.int), 10),
  (yX10_row, cX10_row, 3, (Option.some Jvm.ClassFile.FieldType.int), 10),
  (yX6_search, cX6_search, 4, (Option.none : Option Jvm.ClassFile.FieldType), 6),
  (yX6_trySets, cX6_trySets, 8, (Option.none : Option Jvm.ClassFile.FieldType), 6),
  (yX0_ready, cX0_ready, 4, (Option.some Jvm.ClassFile.FieldType.int), 0),
  (yX6_keepIfBest, cX6_keepIfBest, 2, (Option.none : Option Jvm.ClassFile.FieldType), 6),
  (yX10_longest, cX10_longest, 9, (Option.some Jvm.ClassFile.FieldType.int), 10),
  (yX10_rests, cX10_rests, 8, (Option.some Jvm.ClassFile.FieldType.int), 10),
  (yX10_fillTable, cX10_fillTable, 10, (Option.none : Option Jvm.ClassFile.FieldType), 10),
  (yX10_gainAt, cX10_gainAt, 2, (Option.some Jvm.ClassFile.FieldType.int), 10),
  (yX10_gainBehind, cX10_gainBehind, 4, (Option.some Jvm.ClassFile.FieldType.int), 10),
  (yX10_isRest, cX10_isRest, 5, (Option.some Jvm.ClassFile.FieldType.boolean), 10),
  (yX10_ring, cX10_ring, 5, (Option.some Jvm.ClassFile.FieldType.int), 10),
  (yX5_face, cX5_face, 4, (Option.some Jvm.ClassFile.FieldType.long), 5),
  (yX10_litres, cX10_litres, 9, (Option.some Jvm.ClassFile.FieldType.int), 10),
  (yX10_lack, cX10_lack, 2, (Option.some Jvm.ClassFile.FieldType.int), 10),
  (yX10_note, cX10_note, 5, (Option.some Jvm.ClassFile.FieldType.int), 10),
  (yX2_add, cX2_add, 4, (Option.none : Option Jvm.ClassFile.FieldType), 2),
  (yX10_wished, cX10_wished, 6, (Option.some Jvm.ClassFile.FieldType.int), 10),
  (yX10_tryFromBegin, cX10_tryFromBegin, 2, (Option.some (Jvm.ClassFile.FieldType.object "LetOff$Round")), 10),
  (yX10_fitsNotes, cX10_fitsNotes, 4, (Option.some Jvm.ClassFile.FieldType.boolean), 10),
  (yX2_lastStep, cX2_lastStep, 3, (Option.some Jvm.ClassFile.FieldType.int), 2),
  (yX2_areSo, cX2_areSo, 4, (Option.some Jvm.ClassFile.FieldType.boolean), 2),
  (yX10_ruled, cX10_ruled, 5, (Option.some Jvm.ClassFile.FieldType.int), 10),
  (yX10_look, cX10_look, 6, (Option.some Jvm.ClassFile.FieldType.int), 10),
  (yJ7_fill_53178, cJ7_fill_53178, 4, (Option.none : Option Jvm.ClassFile.FieldType), 15),
  (yX10_countCells, cX10_countCells, 3, (Option.none : Option Jvm.ClassFile.FieldType), 10),
  (yX10_mostAlike, cX10_mostAlike, 4, (Option.some Jvm.ClassFile.FieldType.int), 10),
  (yX10_seed, cX10_seed, 3, (Option.some Jvm.ClassFile.FieldType.int), 10),
  (yX10_shows, cX10_shows, 11, (Option.some Jvm.ClassFile.FieldType.int), 10),
  (yX10_drawWaiting, cX10_drawWaiting, 5, (Option.none : Option Jvm.ClassFile.FieldType), 10),
  (yX10_draw, cX10_draw, 1, (Option.some Jvm.ClassFile.FieldType.int), 10),
  (yX10_image, cX10_image, 3, (Option.some Jvm.ClassFile.FieldType.int), 10),
  (yX2_copyFrom, cX2_copyFrom, 2, (Option.none : Option Jvm.ClassFile.FieldType), 2),
  (yX10_back, cX10_back, 3, (Option.some Jvm.ClassFile.FieldType.int), 10),
  (yX11_init, cX11_init, 1, (Option.none : Option Jvm.ClassFile.FieldType), 11),
  (yX11_feed, cX11_feed, 6, (Option.some Jvm.ClassFile.FieldType.int), 11),
  (yX11_four, cX11_four, 3, (Option.none : Option Jvm.ClassFile.FieldType), 11),
  (yX11_end, cX11_end, 2, (Option.some Jvm.ClassFile.FieldType.int), 11),
  (yX11_rule, cX11_rule, 1, (Option.some Jvm.ClassFile.FieldType.int), 11),
  (yX11_readsAll, cX11_readsAll, 2, (Option.some Jvm.ClassFile.FieldType.boolean), 11),
  (yX11_clauseHere, cX11_clauseHere, 3, (Option.some Jvm.ClassFile.FieldType.boolean), 11),
  (yX11_see, cX11_see, 1, (Option.some Jvm.ClassFile.FieldType.int), 11),
  (yX11_isShowWord, cX11_isShowWord, 1, (Option.some Jvm.ClassFile.FieldType.boolean), 11),
  (yX11_isWord, cX11_isWord, 6, (Option.some Jvm.ClassFile.FieldType.boolean), 11),
  (yX11_isLetter, cX11_isLetter, 2, (Option.some Jvm.ClassFile.FieldType.boolean), 11),
  (yX11_fails, cX11_fails, 3, (Option.some Jvm.ClassFile.FieldType.boolean), 11),
  (yX11_showLineHere, cX11_showLineHere, 2, (Option.some Jvm.ClassFile.FieldType.boolean), 11),
  (yX11_isShowHere, cX11_isShowHere, 2, (Option.some Jvm.ClassFile.FieldType.boolean), 11),
  (yX11_passWord, cX11_passWord, 1, (Option.none : Option Jvm.ClassFile.FieldType), 11),
  (yX11_cellHere, cX11_cellHere, 4, (Option.some Jvm.ClassFile.FieldType.boolean), 11),
  (yX11_numberHere, cX11_numberHere, 5, (Option.some Jvm.ClassFile.FieldType.boolean), 11),
  (yX11_isDigit, cX11_isDigit, 2, (Option.some Jvm.ClassFile.FieldType.boolean), 11),
  (yX11_in, cX11_in, 6, (Option.some Jvm.ClassFile.FieldType.boolean), 11),
  (yX11_isRoadHere, cX11_isRoadHere, 3, (Option.some Jvm.ClassFile.FieldType.boolean), 11),
  (yX11_isRoadIn, cX11_isRoadIn, 3, (Option.some Jvm.ClassFile.FieldType.boolean), 11),
  (yX11_isCarHere, cX11_isCarHere, 4, (Option.some Jvm.ClassFile.FieldType.boolean), 11),
  (yX11_isCarIn, cX11_isCarIn, 3, (Option.some Jvm.ClassFile.FieldType.boolean), 11),
  (yX11_isGapHere, cX11_isGapHere, 2, (Option.some Jvm.ClassFile.FieldType.boolean), 11),
  (yX11_isGoHere, cX11_isGoHere, 2, (Option.some Jvm.ClassFile.FieldType.boolean), 11),
  (yX11_sum, cX11_sum, 2, (Option.some Jvm.ClassFile.FieldType.boolean), 11),
  (yX11_term, cX11_term, 2, (Option.some Jvm.ClassFile.FieldType.boolean), 11),
  (yX11_value, cX11_value, 3, (Option.some Jvm.ClassFile.FieldType.boolean), 11),
  (yX11_makes, cX11_makes, 2, (Option.some Jvm.ClassFile.FieldType.boolean), 11),
  (yX11_puts, cX11_puts, 3, (Option.none : Option Jvm.ClassFile.FieldType), 11),
  (yX11_wordHere, cX11_wordHere, 1, (Option.some Jvm.ClassFile.FieldType.int), 11),
  (yX11_takesWord, cX11_takesWord, 3, (Option.some Jvm.ClassFile.FieldType.boolean), 11),
  (yX11_tested, cX11_tested, 3, (Option.some Jvm.ClassFile.FieldType.boolean), 11),
  (yX11_fact, cX11_fact, 3, (Option.some Jvm.ClassFile.FieldType.boolean), 11),
  (yX11_opens, cX11_opens, 2, (Option.some Jvm.ClassFile.FieldType.boolean), 11),
  (yX11_compare, cX11_compare, 5, (Option.some Jvm.ClassFile.FieldType.boolean), 11),
  (yX11_closes, cX11_closes, 1, (Option.none : Option Jvm.ClassFile.FieldType), 11),
  (yX11_layDown, cX11_layDown, 2, (Option.none : Option Jvm.ClassFile.FieldType), 11),
  (yX11_strength, cX11_strength, 1, (Option.some Jvm.ClassFile.FieldType.int), 11),
  (yX11_isInside, cX11_isInside, 2, (Option.some Jvm.ClassFile.FieldType.boolean), 11),
  (yX11_show, cX11_show, 2, (Option.some Jvm.ClassFile.FieldType.int), 11),
  (yX11_begins, cX11_begins, 3, (Option.none : Option Jvm.ClassFile.FieldType), 11),
  (yX11_stands, cX11_stands, 7, (Option.none : Option Jvm.ClassFile.FieldType), 11),
  (yX11_force, cX11_force, 3, (Option.some Jvm.ClassFile.FieldType.int), 11),
  (yX11_isRule, cX11_isRule, 2, (Option.some Jvm.ClassFile.FieldType.boolean), 11),
  (yX11_car, cX11_car, 3, (Option.some Jvm.ClassFile.FieldType.int), 11),
  (yX11_isCar, cX11_isCar, 2, (Option.some Jvm.ClassFile.FieldType.boolean), 11),
  (yX11_isShow, cX11_isShow, 1, (Option.some Jvm.ClassFile.FieldType.boolean), 11),
  (yX11_isOn, cX11_isOn, 2, (Option.some Jvm.ClassFile.FieldType.boolean), 11),
  (yX11_road, cX11_road, 3, (Option.some Jvm.ClassFile.FieldType.int), 11),
  (yX11_isRoad, cX11_isRoad, 2, (Option.some Jvm.ClassFile.FieldType.boolean), 11),
  (yX11_gapIn, cX11_gapIn, 2, (Option.some Jvm.ClassFile.FieldType.int), 11),
  (yX11_isCell, cX11_isCell, 2, (Option.some Jvm.ClassFile.FieldType.boolean), 11),
  (yX11_undo, cX11_undo, 2, (Option.some Jvm.ClassFile.FieldType.int), 11),
  (yX11_step, cX11_step, 1, (Option.some Jvm.ClassFile.FieldType.int), 11),
  (yX11_keepsAct, cX11_keepsAct, 2, (Option.none : Option Jvm.ClassFile.FieldType), 11),
  (yX11_passes, cX11_passes, 3, (Option.some Jvm.ClassFile.FieldType.int), 11),
  (yX11_fuelOf, cX11_fuelOf, 2, (Option.some Jvm.ClassFile.FieldType.int), 11),
  (yX11_drives, cX11_drives, 3, (Option.some Jvm.ClassFile.FieldType.boolean), 11),
  (yX11_cellOf, cX11_cellOf, 2, (Option.some Jvm.ClassFile.FieldType.int), 11),
  (yX11_roadOf, cX11_roadOf, 2, (Option.some Jvm.ClassFile.FieldType.int), 11),
  (yX11_isLetOff, cX11_isLetOff, 2, (Option.some Jvm.ClassFile.FieldType.boolean), 11),
  (yX11_isOf, cX11_isOf, 2, (Option.some Jvm.ClassFile.FieldType.boolean), 11),
  (yX11_behindOf, cX11_behindOf, 3, (Option.some Jvm.ClassFile.FieldType.int), 11),
  (yX11_carIn, cX11_carIn, 3, (Option.some Jvm.ClassFile.FieldType.int), 11),
  (yX11_manyOn, cX11_manyOn, 3, (Option.some Jvm.ClassFile.FieldType.int), 11),
  (yX11_summedBy, cX11_summedBy, 4, (Option.some Jvm.ClassFile.FieldType.long), 11),
  (yX11_reckons, cX11_reckons, 11, (Option.some Jvm.ClassFile.FieldType.long), 11),
  (yX11_push, cX11_push, 3, (Option.none : Option Jvm.ClassFile.FieldType), 11),
  (yX11_pop, cX11_pop, 1, (Option.some Jvm.ClassFile.FieldType.long), 11),
  (yX11_one, cX11_one, 5, (Option.some Jvm.ClassFile.FieldType.long), 11),
  (yX11_leaves, cX11_leaves, 2, (Option.none : Option Jvm.ClassFile.FieldType), 11),
  (yX11_isFree, cX11_isFree, 2, (Option.some Jvm.ClassFile.FieldType.boolean), 11),
  (yX11_waits, cX11_waits, 2, (Option.none : Option Jvm.ClassFile.FieldType), 11),
  (yX11_comesOn, cX11_comesOn, 3, (Option.none : Option Jvm.ClassFile.FieldType), 11),
  (yX11_pole, cX11_pole, 4, (Option.some Jvm.ClassFile.FieldType.int), 11),
  (yX11_isCarOn, cX11_isCarOn, 2, (Option.some Jvm.ClassFile.FieldType.boolean), 11),
  (yX11_grass, cX11_grass, 3, (Option.some Jvm.ClassFile.FieldType.int), 11),
  (yX11_crosses, cX11_crosses, 2, (Option.none : Option Jvm.ClassFile.FieldType), 11),
  (yX11_fill, cX11_fill, 2, (Option.some Jvm.ClassFile.FieldType.int), 11),
  (yX11_gaps, cX11_gaps, 3, (Option.some Jvm.ClassFile.FieldType.int), 11),
  (yX11_wish, cX11_wish, 4, (Option.some Jvm.ClassFile.FieldType.int), 11),
  (yX11_ahead, cX11_ahead, 5, (Option.some Jvm.ClassFile.FieldType.int), 11),
  (yX11_keeps, cX11_keeps, 2, (Option.none : Option Jvm.ClassFile.FieldType), 11),
  (yX11_passesAll, cX11_passesAll, 3, (Option.none : Option Jvm.ClassFile.FieldType), 11),
  (yX11_laysBack, cX11_laysBack, 2, (Option.none : Option Jvm.ClassFile.FieldType), 11),
  (yX11_lets, cX11_lets, 4, (Option.some Jvm.ClassFile.FieldType.int), 11),
  (yX11_still, cX11_still, 3, (Option.some Jvm.ClassFile.FieldType.int), 11),
  (yX11_leastFuel, cX11_leastFuel, 5, (Option.some Jvm.ClassFile.FieldType.int), 11),
  (yX11_offIn, cX11_offIn, 4, (Option.some Jvm.ClassFile.FieldType.int), 11),
  (yX11_bestGrass, cX11_bestGrass, 4, (Option.some Jvm.ClassFile.FieldType.int), 11),
  (yX11_offAllIn, cX11_offAllIn, 4, (Option.some Jvm.ClassFile.FieldType.int), 11),
  (yX11_weighs, cX11_weighs, 3, (Option.none : Option Jvm.ClassFile.FieldType), 11),
  (yX11_bestFill, cX11_bestFill, 4, (Option.some Jvm.ClassFile.FieldType.int), 11),
  (yX11_closed, cX11_closed, 4, (Option.some Jvm.ClassFile.FieldType.int), 11),
  (yX11_row, cX11_row, 7, (Option.some Jvm.ClassFile.FieldType.int), 11),
  (yX11_offByRow, cX11_offByRow, 5, (Option.some Jvm.ClassFile.FieldType.int), 11),
  (yX11_longest, cX11_longest, 8, (Option.some Jvm.ClassFile.FieldType.int), 11),
  (yX11_rests, cX11_rests, 8, (Option.some Jvm.ClassFile.FieldType.int), 11),
  (yX11_isTwo, cX11_isTwo, 2, (Option.some Jvm.ClassFile.FieldType.boolean), 11),
  (yX11_fillsRest, cX11_fillsRest, 7, (Option.none : Option Jvm.ClassFile.FieldType), 11),
  (yX11_isRest, cX11_isRest, 4, (Option.some Jvm.ClassFile.FieldType.boolean), 11),
  (yX11_ring, cX11_ring, 4, (Option.some Jvm.ClassFile.FieldType.int), 11),
  (yX11_areAlike, cX11_areAlike, 4, (Option.some Jvm.ClassFile.FieldType.boolean), 11),
  (yX11_litres, cX11_litres, 10, (Option.some Jvm.ClassFile.FieldType.int), 11),
  (yX11_shortOf, cX11_shortOf, 2, (Option.some Jvm.ClassFile.FieldType.int), 11),
  (yX11_note, cX11_note, 5, (Option.some Jvm.ClassFile.FieldType.int), 11),
  (yX11_wished, cX11_wished, 6, (Option.some Jvm.ClassFile.FieldType.int), 11),
  (yX11_areAllSo, cX11_areAllSo, 6, (Option.some Jvm.ClassFile.FieldType.boolean), 11),
  (yX11_areNotesSo, cX11_areNotesSo, 3, (Option.some Jvm.ClassFile.FieldType.boolean), 11),
  (yX11_cellOn, cX11_cellOn, 2, (Option.some Jvm.ClassFile.FieldType.int), 11),
  (yX11_ruled, cX11_ruled, 5, (Option.some Jvm.ClassFile.FieldType.int), 11),
  (yX11_fillsFits, cX11_fillsFits, 4, (Option.none : Option Jvm.ClassFile.FieldType), 11),
  (yX11_look, cX11_look, 7, (Option.some Jvm.ClassFile.FieldType.int), 11),
  (yX11_alikeAt, cX11_alikeAt, 6, (Option.some Jvm.ClassFile.FieldType.int), 11),
  (yX11_seed, cX11_seed, 3, (Option.some Jvm.ClassFile.FieldType.int), 11),
  (yX11_shows, cX11_shows, 10, (Option.some Jvm.ClassFile.FieldType.int), 11),
  (yX11_draw, cX11_draw, 2, (Option.some Jvm.ClassFile.FieldType.int), 11),
  (yX11_waitAll, cX11_waitAll, 3, (Option.some Jvm.ClassFile.FieldType.int), 11),
  (yX11_count, cX11_count, 2, (Option.some Jvm.ClassFile.FieldType.int), 11),
  (yX11_onesOn, cX11_onesOn, 3, (Option.some Jvm.ClassFile.FieldType.int), 11),
  (yX11_image, cX11_image, 3, (Option.some Jvm.ClassFile.FieldType.int), 11),
  (yX11_back, cX11_back, 3, (Option.some Jvm.ClassFile.FieldType.int), 11),
  (yL_law, cL_law, 4, (Option.some Jvm.ClassFile.FieldType.boolean : Option Jvm.ClassFile.FieldType), 12)]
def zMd : ZM := (yL_law, cL_law, 4, none, 12)
def zM (y : Nat) : ZM := (znth zMl y).getD zMd
def zFL (o : Nat) : List (Nat × Nat × Nat) := match o with
  | 0 => [(39, 5, 0), (88, 5, 1), (45, 5, 2), (60, 5, 3), (94, 5, 4), (110, 5, 5), (71, 5, 7), (119, 5, 8), (9, 0, 0), (15, 0, 1), (19, 0, 2), (23, 0, 3), (26, 0, 4), (32, 0, 5), (36, 0, 6), (74, 3, 0), (63, 3, 1), (91, 3, 3), (122, 3, 4)]
  | 1 => [(9, 1, 0), (15, 1, 1), (19, 1, 2), (23, 1, 3), (29, 1, 4), (36, 1, 5)]
  | 2 => [(37, 5, 0), (9, 2, 0), (15, 2, 1), (19, 2, 2), (22, 2, 3)]
  | 3 => [(9, 3, 0), (15, 3, 1), (18, 3, 2), (21, 3, 3), (25, 3, 4), (31, 3, 5)]
  | 4 => [(11, 4, 0), (15, 4, 1), (18, 4, 2), (21, 4, 3), (25, 4, 4), (28, 4, 5), (31, 4, 6)]
  | 5 => [(9, 5, 0), (15, 5, 1), (18, 5, 2), (21, 5, 3), (24, 5, 4), (27, 5, 5), (31, 5, 6), (34, 5, 7), (37, 5, 8)]
  | 6 => [(59, 0, 3), (9, 6, 0), (15, 6, 1), (19, 6, 2), (24, 6, 3)]
  | 7 => [(7, 7, 0)]
  | 8 => [(55, 4, 0), (99, 4, 1), (72, 4, 2), (14, 8, 0), (18, 8, 1), (22, 8, 2), (26, 8, 3)]
  | 9 => [(90, 5, 5), (95, 5, 6), (29, 4, 0), (37, 4, 2), (12, 9, 0), (62, 3, 0), (49, 3, 1), (52, 3, 2), (79, 3, 3), (83, 3, 4), (86, 3, 5)]
  | 10 => [(146, 5, 0), (149, 5, 1), (152, 5, 2), (155, 5, 3), (167, 5, 4), (192, 5, 6), (182, 5, 7), (189, 5, 8), (132, 2, 0), (118, 4, 2), (114, 9, 0), (141, 8, 0), (236, 0, 0), (237, 0, 1), (241, 0, 2), (244, 0, 3), (259, 0, 4), (275, 6, 0), (278, 6, 1), (350, 1, 0), (353, 1, 1), (357, 1, 2), (358, 1, 3), (354, 1, 4), (359, 1, 5), (9, 10, 0), (13, 10, 1), (19, 10, 2), (23, 10, 3), (26, 10, 4), (33, 10, 5), (37, 10, 6), (40, 10, 7), (46, 10, 8), (52, 10, 9), (56, 10, 10), (60, 10, 11), (63, 10, 12), (69, 10, 13), (76, 10, 14), (83, 10, 15), (90, 10, 16), (94, 10, 17), (97, 10, 18), (101, 10, 19), (176, 3, 0), (179, 3, 1), (135, 3, 2), (161, 3, 3), (164, 3, 4), (123, 3, 5)]
  | 11 => [(7, 11, 0), (83, 11, 1), (260, 11, 2), (13, 11, 3), (17, 11, 4), (20, 11, 5), (23, 11, 6), (26, 11, 7), (93, 11, 8), (90, 11, 9), (118, 11, 10), (145, 11, 11), (148, 11, 12), (151, 11, 13), (248, 11, 14), (29, 11, 15), (154, 11, 16), (32, 11, 17), (272, 11, 18), (36, 11, 19), (39, 11, 20), (42, 11, 21), (453, 11, 22), (46, 11, 23), (49, 11, 24), (350, 11, 25), (52, 11, 26), (269, 11, 27), (55, 11, 28), (404, 11, 29), (401, 11, 30), (58, 11, 31), (61, 11, 32), (64, 11, 33), (68, 11, 34), (456, 11, 35), (71, 11, 36), (74, 11, 37), (77, 11, 38), (80, 11, 39)]
  | _ => []
def zML (o : Nat) : List (Nat × Nat × Nat) := match o with
  | 0 => [(48, 62, 0), (85, 63, 0), (97, 64, 0), (106, 65, 0), (113, 56, 1), (100, 66, 0), (52, 70, 0), (56, 71, 0), (77, 72, 0), (81, 73, 0), (68, 74, 0), (125, 75, 0), (129, 28, 0)]
  | 1 => [(28, 1, 3), (35, 2, 3)]
  | 2 => [(31, 17, 1)]
  | 3 => [(30, 1, 3)]
  | 4 => [(34, 16, 1), (40, 17, 1), (49, 18, 0), (52, 19, 1), (60, 22, 0), (64, 24, 0), (56, 31, 0)]
  | 5 => [(40, 70, 0)]
  | 6 => [(29, 32, 0), (33, 16, 1), (39, 100, 0), (43, 101, 0), (49, 56, 1), (55, 102, 0), (62, 61, 0), (28, 1, 3)]
  | 7 => [(17, 67, 1), (21, 68, 1), (25, 69, 1)]
  | 8 => [(29, 15, 0), (33, 35, 0), (42, 21, 0), (79, 22, 0), (46, 18, 0), (37, 36, 0), (105, 37, 0), (110, 24, 0), (102, 38, 0), (76, 39, 0), (52, 40, 0), (49, 41, 0), (84, 42, 0), (91, 31, 0), (95, 43, 0), (69, 30, 0), (60, 44, 1), (66, 45, 2), (13, 4, 3)]
  | 9 => [(21, 15, 0), (25, 20, 0), (42, 21, 0), (46, 22, 0), (55, 18, 0), (58, 23, 0), (65, 25, 0), (75, 26, 0), (69, 27, 0), (98, 28, 0), (72, 29, 0), (33, 30, 0), (11, 4, 3), (20, 14, 3)]
  | 10 => [(89, 7, 2), (106, 10, 0), (110, 13, 0), (128, 32, 0), (138, 34, 0), (142, 48, 1), (158, 50, 0), (170, 52, 0), (173, 53, 0), (185, 55, 0), (195, 56, 1), (201, 57, 0), (204, 59, 0), (221, 16, 1), (207, 60, 0), (210, 61, 0), (214, 77, 0), (217, 78, 1), (227, 80, 0), (230, 82, 0), (233, 85, 1), (247, 87, 0), (251, 88, 0), (255, 90, 0), (263, 94, 0), (267, 95, 0), (271, 99, 0), (281, 17, 1), (284, 105, 0), (292, 106, 1), (295, 107, 1), (288, 108, 0), (299, 110, 0), (303, 112, 0), (306, 114, 0), (316, 116, 0), (320, 117, 0), (309, 118, 0), (312, 119, 0), (324, 122, 1), (330, 123, 0), (333, 124, 0), (336, 127, 0), (340, 128, 0), (360, 130, 0), (32, 1, 3), (45, 2, 3), (68, 3, 3), (75, 5, 3), (82, 6, 3), (105, 8, 3)]
  | 11 => [(86, 134, 0), (263, 137, 0), (257, 138, 0), (96, 139, 0), (243, 140, 0), (104, 141, 0), (100, 142, 0), (114, 143, 0), (251, 144, 0), (229, 145, 0), (108, 146, 0), (217, 147, 0), (166, 148, 0), (111, 149, 0), (121, 150, 1), (232, 151, 0), (221, 152, 0), (235, 153, 0), (224, 154, 0), (238, 155, 0), (254, 156, 0), (182, 157, 0), (179, 158, 0), (175, 159, 0), (169, 160, 0), (161, 161, 0), (172, 162, 0), (211, 163, 0), (214, 164, 0), (199, 165, 0), (187, 166, 0), (190, 167, 0), (202, 168, 0), (193, 169, 0), (157, 170, 1), (196, 171, 0), (266, 173, 0), (304, 174, 0), (308, 176, 0), (292, 178, 0), (287, 179, 0), (295, 180, 0), (313, 182, 0), (318, 184, 0), (369, 187, 0), (366, 188, 0), (331, 189, 0), (357, 190, 0), (298, 191, 0), (328, 192, 0), (344, 193, 0), (325, 194, 1), (334, 195, 0), (301, 196, 0), (337, 197, 0), (340, 198, 0), (321, 199, 0), (275, 200, 0), (279, 201, 0), (283, 202, 1), (347, 203, 0), (354, 204, 0), (360, 205, 0), (363, 206, 0), (372, 208, 0), (377, 210, 0), (380, 212, 0), (385, 215, 0), (388, 216, 0), (391, 177, 0), (395, 217, 0), (398, 221, 0), (409, 223, 0), (412, 224, 0), (415, 228, 0), (418, 231, 0), (421, 232, 0), (425, 233, 0), (428, 235, 0), (433, 237, 0), (444, 240, 0), (441, 241, 0), (438, 242, 0), (447, 244, 0), (450, 246, 0), (470, 249, 0), (473, 250, 0), (476, 252, 0)]
  | 12 => [(9, 0, 2), (13, 9, 0), (18, 11, 0), (23, 12, 0), (28, 33, 0), (32, 46, 0), (36, 47, 0), (41, 49, 0), (45, 51, 0), (147, 54, 0), (49, 58, 0), (53, 76, 0), (57, 79, 0), (61, 81, 0), (65, 83, 0), (69, 84, 0), (73, 86, 0), (78, 89, 0), (82, 91, 0), (86, 92, 0), (90, 93, 0), (94, 96, 0), (98, 97, 0), (102, 98, 0), (110, 103, 0), (114, 104, 0), (119, 109, 0), (123, 111, 0), (127, 113, 0), (106, 115, 0), (131, 120, 0), (135, 121, 0), (139, 125, 0), (143, 126, 0), (151, 129, 0), (155, 131, 0), (12, 132, 2), (17, 133, 0), (22, 135, 0), (31, 136, 0), (27, 172, 0), (35, 175, 0), (40, 177, 0), (44, 181, 0), (48, 183, 0), (72, 185, 0), (52, 186, 0), (56, 207, 0), (60, 209, 0), (64, 211, 0), (68, 213, 0), (77, 214, 0), (81, 218, 0), (85, 219, 0), (89, 220, 0), (93, 222, 0), (97, 225, 0), (101, 226, 0), (105, 227, 0), (113, 229, 0), (118, 230, 0), (122, 234, 0), (126, 236, 0), (130, 238, 0), (109, 239, 0), (134, 243, 0), (138, 245, 0), (142, 247, 0), (146, 248, 0), (150, 251, 0), (154, 253, 0), (158, 254, 0)]
  | 15 => [(304, 16, 1)]
  | _ => []
def zOL (o : Nat) : List (Nat) := match o with
  | 0 => [3]
  | 1 => [3]
  | 2 => [3]
  | 3 => [3]
  | 4 => [3]
  | 5 => [3]
  | 6 => [3]
  | 7 => [1]
  | 8 => [7]
  | 9 => [3]
  | 10 => [1]
  | 11 => [1]
  | _ => []
def zSL (o : Nat) : List (Nat × Nat) := match o with
  | 4 => [(68, 1001), (73, 1002)]
  | _ => []
def zAL (o : Nat) : List (Nat) := match o with
  | 2 => [25]
  | 4 => [43]
  | 6 => [65]
  | 15 => [150]
  | _ => []
def zKL (o : Nat) : List (Nat) := match o with
  | 15 => [316]
  | _ => []
def zCL (o : Nat) : List (Nat × Nat) := match o with
  | 1 => [(26, 5), (33, 2)]
  | 3 => [(28, 5)]
  | 6 => [(22, 5)]
  | 8 => [(3, 4), (58, 7)]
  | 9 => [(9, 4), (18, 3)]
  | 10 => [(17, 7), (30, 5), (43, 2), (50, 1), (66, 9), (73, 8), (80, 0), (87, 6)]
  | 12 => [(7, 10), (10, 11)]
  | _ => []
def zCI (o : Nat) : List (Nat × Int) := match o with
  | 7 => [(15, 100010), (16, 100000)]
  | 8 => [(114, 100000), (75, 100010)]
  | 10 => [(349, 65536)]
  | 11 => [(165, 99999)]
  | 13 => [(265, 1431655765), (266, 858993459), (267, 252645135)]
  | _ => []
def zCJ (o : Nat) : List (Nat × Int) := match o with
  | 10 => [(343, 1103515245), (345, 12345), (347, 2147483647)]
  | 11 => [(227, 1936224119), (127, 1919902052), (125, 6513010), (241, 6775152), (246, 26479), (129, 1718969708), (131, 33602627781095015), (133, 108187682958948), (135, 28526), (137, 7300710), (139, 125823037105267), (141, 435778056825), (143, 1937007984), (209, 26982), (185, 7237492), (205, 6385252), (207, 28530), (290, 5), (311, 3), (316, 2), (375, 20), (383, 100), (407, 40), (431, 9999), (436, 60), (468, 10), (460, 1103515245), (462, 12345), (464, 2147483648), (466, 65536)]
  | _ => []
def zCS (o : Nat) : List (Nat × Nat) := match o with
  | 8 => [(82, 3), (108, 5), (40, 4), (89, 1), (87, 2)]
  | 9 => [(40, 0)]
  | _ => []
def zTx (k : Nat) : String := match k with
  | 0 => "show road car gap"
  | 1 => "not"
  | 2 => "and or"
  | 3 => "go"
  | 4 => "if"
  | _ => "car road fuel waiting behind on off rounds every step"
def zFL_p (o : Nat) (q : Nat × Nat × Nat) : Prop := Cond.fieldLink (zRN o) q.1 (zRX q.2.1) (zTX q.2.1 q.2.2).2.1 (zTX q.2.1 q.2.2).2.2.1 ∈ tables_1
theorem zFL_0_0 : ∀ q ∈ ([(39, 5, 0), (88, 5, 1), (45, 5, 2), (60, 5, 3), (94, 5, 4), (110, 5, 5), (71, 5, 7), (119, 5, 8), (9, 0, 0), (15, 0, 1), (19, 0, 2), (23, 0, 3)] : List (Nat × Nat × Nat)), zFL_p 0 q := List.forall_mem_cons.mpr ⟨List.mem_of_getElem? (i := 38) (by decide +kernel), List.forall_mem_cons.mpr ⟨List.mem_of_getElem? (i := 42) (by decide +kernel), List.forall_mem_cons.mpr ⟨List.mem_of_getElem? (i := 45) (by decide +kernel), List.forall_mem_cons.mpr ⟨List.mem_of_getElem? (i := 48) (by decide +kernel), List.forall_mem_cons.mpr ⟨List.mem_of_getElem? (i := 51) (by decide +kernel), List.forall_mem_cons.mpr ⟨List.mem_of_getElem? (i := 55) (by decide +kernel), List.forall_mem_cons.mpr ⟨List.mem_of_getElem? (i := 60) (by decide +kernel), List.forall_mem_cons.mpr ⟨List.mem_of_getElem? (i := 63) (by decide +kernel), List.forall_mem_cons.mpr ⟨List.mem_of_getElem? (i := 182) (by decide +kernel), List.forall_mem_cons.mpr ⟨List.mem_of_getElem? (i := 184) (by decide +kernel), List.forall_mem_cons.mpr ⟨List.mem_of_getElem? (i := 186) (by decide +kernel), List.forall_mem_cons.mpr ⟨List.mem_of_getElem? (i := 188) (by decide +kernel), fun _ h => absurd h List.not_mem_nil⟩⟩⟩⟩⟩⟩⟩⟩⟩⟩⟩⟩
theorem zFL_0_1 : ∀ q ∈ ([(26, 0, 4), (32, 0, 5), (36, 0, 6), (74, 3, 0), (63, 3, 1), (91, 3, 3), (122, 3, 4)] : List (Nat × Nat × Nat)), zFL_p 0 q := List.forall_mem_cons.mpr ⟨List.mem_of_getElem? (i := 191) (by decide +kernel), List.forall_mem_cons.mpr ⟨List.mem_of_getElem? (i := 193) (by decide +kernel), List.forall_mem_cons.mpr ⟨List.mem_of_getElem? (i := 194) (by decide +kernel), List.forall_mem_cons.mpr ⟨List.mem_of_getElem? (i := 358) (by decide +kernel), List.forall_mem_cons.mpr ⟨List.mem_of_getElem? (i := 362) (by decide +kernel), List.forall_mem_cons.mpr ⟨List.mem_of_getElem? (i := 370) (by decide +kernel), List.forall_mem_cons.mpr ⟨List.mem_of_getElem? (i := 374) (by decide +kernel), fun _ h => absurd h List.not_mem_nil⟩⟩⟩⟩⟩⟩⟩
theorem zFL_0 : ∀ q ∈ zFL 0, zFL_p 0 q := by
  show ∀ q ∈ ([(39, 5, 0), (88, 5, 1), (45, 5, 2), (60, 5, 3), (94, 5, 4), (110, 5, 5), (71, 5, 7), (119, 5, 8), (9, 0, 0), (15, 0, 1), (19, 0, 2), (23, 0, 3)] ++ ([(26, 0, 4), (32, 0, 5), (36, 0, 6), (74, 3, 0), (63, 3, 1), (91, 3, 3), (122, 3, 4)]) : List (Nat × Nat × Nat)), _
  exact List.forall_mem_append.mpr ⟨zFL_0_0, zFL_0_1⟩
theorem zFL_1_0 : ∀ q ∈ ([(9, 1, 0), (15, 1, 1), (19, 1, 2), (23, 1, 3), (29, 1, 4), (36, 1, 5)] : List (Nat × Nat × Nat)), zFL_p 1 q := List.forall_mem_cons.mpr ⟨List.mem_of_getElem? (i := 243) (by decide +kernel), List.forall_mem_cons.mpr ⟨List.mem_of_getElem? (i := 245) (by decide +kernel), List.forall_mem_cons.mpr ⟨List.mem_of_getElem? (i := 247) (by decide +kernel), List.forall_mem_cons.mpr ⟨List.mem_of_getElem? (i := 249) (by decide +kernel), List.forall_mem_cons.mpr ⟨List.mem_of_getElem? (i := 251) (by decide +kernel), List.forall_mem_cons.mpr ⟨List.mem_of_getElem? (i := 253) (by decide +kernel), fun _ h => absurd h List.not_mem_nil⟩⟩⟩⟩⟩⟩
theorem zFL_1 : ∀ q ∈ zFL 1, zFL_p 1 q := by
  show ∀ q ∈ ([(9, 1, 0), (15, 1, 1), (19, 1, 2), (23, 1, 3), (29, 1, 4), (36, 1, 5)] : List (Nat × Nat × Nat)), _
  exact zFL_1_0
theorem zFL_2_0 : ∀ q ∈ ([(37, 5, 0), (9, 2, 0), (15, 2, 1), (19, 2, 2), (22, 2, 3)] : List (Nat × Nat × Nat)), zFL_p 2 q := List.forall_mem_cons.mpr ⟨List.mem_of_getElem? (i := 39) (by decide +kernel), List.forall_mem_cons.mpr ⟨List.mem_of_getElem? (i := 92) (by decide +kernel), List.forall_mem_cons.mpr ⟨List.mem_of_getElem? (i := 94) (by decide +kernel), List.forall_mem_cons.mpr ⟨List.mem_of_getElem? (i := 95) (by decide +kernel), List.forall_mem_cons.mpr ⟨List.mem_of_getElem? (i := 96) (by decide +kernel), fun _ h => absurd h List.not_mem_nil⟩⟩⟩⟩⟩
theorem zFL_2 : ∀ q ∈ zFL 2, zFL_p 2 q := by
  show ∀ q ∈ ([(37, 5, 0), (9, 2, 0), (15, 2, 1), (19, 2, 2), (22, 2, 3)] : List (Nat × Nat × Nat)), _
  exact zFL_2_0
theorem zFL_3_0 : ∀ q ∈ ([(9, 3, 0), (15, 3, 1), (18, 3, 2), (21, 3, 3), (25, 3, 4), (31, 3, 5)] : List (Nat × Nat × Nat)), zFL_p 3 q := List.forall_mem_cons.mpr ⟨List.mem_of_getElem? (i := 357) (by decide +kernel), List.forall_mem_cons.mpr ⟨List.mem_of_getElem? (i := 361) (by decide +kernel), List.forall_mem_cons.mpr ⟨List.mem_of_getElem? (i := 365) (by decide +kernel), List.forall_mem_cons.mpr ⟨List.mem_of_getElem? (i := 368) (by decide +kernel), List.forall_mem_cons.mpr ⟨List.mem_of_getElem? (i := 372) (by decide +kernel), List.forall_mem_cons.mpr ⟨List.mem_of_getElem? (i := 376) (by decide +kernel), fun _ h => absurd h List.not_mem_nil⟩⟩⟩⟩⟩⟩
theorem zFL_3 : ∀ q ∈ zFL 3, zFL_p 3 q := by
  show ∀ q ∈ ([(9, 3, 0), (15, 3, 1), (18, 3, 2), (21, 3, 3), (25, 3, 4), (31, 3, 5)] : List (Nat × Nat × Nat)), _
  exact zFL_3_0
theorem zFL_4_0 : ∀ q ∈ ([(11, 4, 0), (15, 4, 1), (18, 4, 2), (21, 4, 3), (25, 4, 4), (28, 4, 5), (31, 4, 6)] : List (Nat × Nat × Nat)), zFL_p 4 q := List.forall_mem_cons.mpr ⟨List.mem_of_getElem? (i := 121) (by decide +kernel), List.forall_mem_cons.mpr ⟨List.mem_of_getElem? (i := 124) (by decide +kernel), List.forall_mem_cons.mpr ⟨List.mem_of_getElem? (i := 126) (by decide +kernel), List.forall_mem_cons.mpr ⟨List.mem_of_getElem? (i := 130) (by decide +kernel), List.forall_mem_cons.mpr ⟨List.mem_of_getElem? (i := 131) (by decide +kernel), List.forall_mem_cons.mpr ⟨List.mem_of_getElem? (i := 132) (by decide +kernel), List.forall_mem_cons.mpr ⟨List.mem_of_getElem? (i := 133) (by decide +kernel), fun _ h => absurd h List.not_mem_nil⟩⟩⟩⟩⟩⟩⟩
theorem zFL_4 : ∀ q ∈ zFL 4, zFL_p 4 q := by
  show ∀ q ∈ ([(11, 4, 0), (15, 4, 1), (18, 4, 2), (21, 4, 3), (25, 4, 4), (28, 4, 5), (31, 4, 6)] : List (Nat × Nat × Nat)), _
  exact zFL_4_0
theorem zFL_5_0 : ∀ q ∈ ([(9, 5, 0), (15, 5, 1), (18, 5, 2), (21, 5, 3), (24, 5, 4), (27, 5, 5), (31, 5, 6), (34, 5, 7), (37, 5, 8)] : List (Nat × Nat × Nat)), zFL_p 5 q := List.forall_mem_cons.mpr ⟨List.mem_of_getElem? (i := 37) (by decide +kernel), List.forall_mem_cons.mpr ⟨List.mem_of_getElem? (i := 41) (by decide +kernel), List.forall_mem_cons.mpr ⟨List.mem_of_getElem? (i := 44) (by decide +kernel), List.forall_mem_cons.mpr ⟨List.mem_of_getElem? (i := 47) (by decide +kernel), List.forall_mem_cons.mpr ⟨List.mem_of_getElem? (i := 50) (by decide +kernel), List.forall_mem_cons.mpr ⟨List.mem_of_getElem? (i := 53) (by decide +kernel), List.forall_mem_cons.mpr ⟨List.mem_of_getElem? (i := 56) (by decide +kernel), List.forall_mem_cons.mpr ⟨List.mem_of_getElem? (i := 59) (by decide +kernel), List.forall_mem_cons.mpr ⟨List.mem_of_getElem? (i := 62) (by decide +kernel), fun _ h => absurd h List.not_mem_nil⟩⟩⟩⟩⟩⟩⟩⟩⟩
theorem zFL_5 : ∀ q ∈ zFL 5, zFL_p 5 q := by
  show ∀ q ∈ ([(9, 5, 0), (15, 5, 1), (18, 5, 2), (21, 5, 3), (24, 5, 4), (27, 5, 5), (31, 5, 6), (34, 5, 7), (37, 5, 8)] : List (Nat × Nat × Nat)), _
  exact zFL_5_0
theorem zFL_6_0 : ∀ q ∈ ([(59, 0, 3), (9, 6, 0), (15, 6, 1), (19, 6, 2), (24, 6, 3)] : List (Nat × Nat × Nat)), zFL_p 6 q := List.forall_mem_cons.mpr ⟨List.mem_of_getElem? (i := 189) (by decide +kernel), List.forall_mem_cons.mpr ⟨List.mem_of_getElem? (i := 219) (by decide +kernel), List.forall_mem_cons.mpr ⟨List.mem_of_getElem? (i := 221) (by decide +kernel), List.forall_mem_cons.mpr ⟨List.mem_of_getElem? (i := 223) (by decide +kernel), List.forall_mem_cons.mpr ⟨List.mem_of_getElem? (i := 224) (by decide +kernel), fun _ h => absurd h List.not_mem_nil⟩⟩⟩⟩⟩
theorem zFL_6 : ∀ q ∈ zFL 6, zFL_p 6 q := by
  show ∀ q ∈ ([(59, 0, 3), (9, 6, 0), (15, 6, 1), (19, 6, 2), (24, 6, 3)] : List (Nat × Nat × Nat)), _
  exact zFL_6_0
theorem zFL_7_0 : ∀ q ∈ ([(7, 7, 0)] : List (Nat × Nat × Nat)), zFL_p 7 q := List.forall_mem_cons.mpr ⟨List.mem_of_getElem? (i := 591) (by decide +kernel), fun _ h => absurd h List.not_mem_nil⟩
theorem zFL_7 : ∀ q ∈ zFL 7, zFL_p 7 q := by
  show ∀ q ∈ ([(7, 7, 0)] : List (Nat × Nat × Nat)), _
  exact zFL_7_0
theorem zFL_8_0 : ∀ q ∈ ([(55, 4, 0), (99, 4, 1), (72, 4, 2), (14, 8, 0), (18, 8, 1), (22, 8, 2), (26, 8, 3)] : List (Nat × Nat × Nat)), zFL_p 8 q := List.forall_mem_cons.mpr ⟨List.mem_of_getElem? (i := 123) (by decide +kernel), List.forall_mem_cons.mpr ⟨List.mem_of_getElem? (i := 125) (by decide +kernel), List.forall_mem_cons.mpr ⟨List.mem_of_getElem? (i := 128) (by decide +kernel), List.forall_mem_cons.mpr ⟨List.mem_of_getElem? (i := 162) (by decide +kernel), List.forall_mem_cons.mpr ⟨List.mem_of_getElem? (i := 164) (by decide +kernel), List.forall_mem_cons.mpr ⟨List.mem_of_getElem? (i := 165) (by decide +kernel), List.forall_mem_cons.mpr ⟨List.mem_of_getElem? (i := 166) (by decide +kernel), fun _ h => absurd h List.not_mem_nil⟩⟩⟩⟩⟩⟩⟩
theorem zFL_8 : ∀ q ∈ zFL 8, zFL_p 8 q := by
  show ∀ q ∈ ([(55, 4, 0), (99, 4, 1), (72, 4, 2), (14, 8, 0), (18, 8, 1), (22, 8, 2), (26, 8, 3)] : List (Nat × Nat × Nat)), _
  exact zFL_8_0
theorem zFL_9_0 : ∀ q ∈ ([(90, 5, 5), (95, 5, 6), (29, 4, 0), (37, 4, 2), (12, 9, 0), (62, 3, 0), (49, 3, 1), (52, 3, 2), (79, 3, 3), (83, 3, 4), (86, 3, 5)] : List (Nat × Nat × Nat)), zFL_p 9 q := List.forall_mem_cons.mpr ⟨List.mem_of_getElem? (i := 54) (by decide +kernel), List.forall_mem_cons.mpr ⟨List.mem_of_getElem? (i := 57) (by decide +kernel), List.forall_mem_cons.mpr ⟨List.mem_of_getElem? (i := 122) (by decide +kernel), List.forall_mem_cons.mpr ⟨List.mem_of_getElem? (i := 127) (by decide +kernel), List.forall_mem_cons.mpr ⟨List.mem_of_getElem? (i := 149) (by decide +kernel), List.forall_mem_cons.mpr ⟨List.mem_of_getElem? (i := 359) (by decide +kernel), List.forall_mem_cons.mpr ⟨List.mem_of_getElem? (i := 363) (by decide +kernel), List.forall_mem_cons.mpr ⟨List.mem_of_getElem? (i := 366) (by decide +kernel), List.forall_mem_cons.mpr ⟨List.mem_of_getElem? (i := 369) (by decide +kernel), List.forall_mem_cons.mpr ⟨List.mem_of_getElem? (i := 373) (by decide +kernel), List.forall_mem_cons.mpr ⟨List.mem_of_getElem? (i := 377) (by decide +kernel), fun _ h => absurd h List.not_mem_nil⟩⟩⟩⟩⟩⟩⟩⟩⟩⟩⟩
theorem zFL_9 : ∀ q ∈ zFL 9, zFL_p 9 q := by
  show ∀ q ∈ ([(90, 5, 5), (95, 5, 6), (29, 4, 0), (37, 4, 2), (12, 9, 0), (62, 3, 0), (49, 3, 1), (52, 3, 2), (79, 3, 3), (83, 3, 4), (86, 3, 5)] : List (Nat × Nat × Nat)), _
  exact zFL_9_0
theorem zFL_10_0 : ∀ q ∈ ([(146, 5, 0), (149, 5, 1), (152, 5, 2), (155, 5, 3), (167, 5, 4), (192, 5, 6), (182, 5, 7), (189, 5, 8), (132, 2, 0), (118, 4, 2), (114, 9, 0), (141, 8, 0)] : List (Nat × Nat × Nat)), zFL_p 10 q := List.forall_mem_cons.mpr ⟨List.mem_of_getElem? (i := 40) (by decide +kernel), List.forall_mem_cons.mpr ⟨List.mem_of_getElem? (i := 43) (by decide +kernel), List.forall_mem_cons.mpr ⟨List.mem_of_getElem? (i := 46) (by decide +kernel), List.forall_mem_cons.mpr ⟨List.mem_of_getElem? (i := 49) (by decide +kernel), List.forall_mem_cons.mpr ⟨List.mem_of_getElem? (i := 52) (by decide +kernel), List.forall_mem_cons.mpr ⟨List.mem_of_getElem? (i := 58) (by decide +kernel), List.forall_mem_cons.mpr ⟨List.mem_of_getElem? (i := 61) (by decide +kernel), List.forall_mem_cons.mpr ⟨List.mem_of_getElem? (i := 64) (by decide +kernel), List.forall_mem_cons.mpr ⟨List.mem_of_getElem? (i := 93) (by decide +kernel), List.forall_mem_cons.mpr ⟨List.mem_of_getElem? (i := 129) (by decide +kernel), List.forall_mem_cons.mpr ⟨List.mem_of_getElem? (i := 150) (by decide +kernel), List.forall_mem_cons.mpr ⟨List.mem_of_getElem? (i := 163) (by decide +kernel), fun _ h => absurd h List.not_mem_nil⟩⟩⟩⟩⟩⟩⟩⟩⟩⟩⟩⟩
theorem zFL_10_1 : ∀ q ∈ ([(236, 0, 0), (237, 0, 1), (241, 0, 2), (244, 0, 3), (259, 0, 4), (275, 6, 0), (278, 6, 1), (350, 1, 0), (353, 1, 1), (357, 1, 2), (358, 1, 3), (354, 1, 4)] : List (Nat × Nat × Nat)), zFL_p 10 q := List.forall_mem_cons.mpr ⟨List.mem_of_getElem? (i := 183) (by decide +kernel), List.forall_mem_cons.mpr ⟨List.mem_of_getElem? (i := 185) (by decide +kernel), List.forall_mem_cons.mpr ⟨List.mem_of_getElem? (i := 187) (by decide +kernel), List.forall_mem_cons.mpr ⟨List.mem_of_getElem? (i := 190) (by decide +kernel), List.forall_mem_cons.mpr ⟨List.mem_of_getElem? (i := 192) (by decide +kernel), List.forall_mem_cons.mpr ⟨List.mem_of_getElem? (i := 220) (by decide +kernel), List.forall_mem_cons.mpr ⟨List.mem_of_getElem? (i := 222) (by decide +kernel), List.forall_mem_cons.mpr ⟨List.mem_of_getElem? (i := 244) (by decide +kernel), List.forall_mem_cons.mpr ⟨List.mem_of_getElem? (i := 246) (by decide +kernel), List.forall_mem_cons.mpr ⟨List.mem_of_getElem? (i := 248) (by decide +kernel), List.forall_mem_cons.mpr ⟨List.mem_of_getElem? (i := 250) (by decide +kernel), List.forall_mem_cons.mpr ⟨List.mem_of_getElem? (i := 252) (by decide +kernel), fun _ h => absurd h List.not_mem_nil⟩⟩⟩⟩⟩⟩⟩⟩⟩⟩⟩⟩
theorem zFL_10_2 : ∀ q ∈ ([(359, 1, 5), (9, 10, 0), (13, 10, 1), (19, 10, 2), (23, 10, 3), (26, 10, 4), (33, 10, 5), (37, 10, 6), (40, 10, 7), (46, 10, 8), (52, 10, 9), (56, 10, 10)] : List (Nat × Nat × Nat)), zFL_p 10 q := List.forall_mem_cons.mpr ⟨List.mem_of_getElem? (i := 254) (by decide +kernel), List.forall_mem_cons.mpr ⟨List.mem_of_getElem? (i := 268) (by decide +kernel), List.forall_mem_cons.mpr ⟨List.mem_of_getElem? (i := 269) (by decide +kernel), List.forall_mem_cons.mpr ⟨List.mem_of_getElem? (i := 270) (by decide +kernel), List.forall_mem_cons.mpr ⟨List.mem_of_getElem? (i := 271) (by decide +kernel), List.forall_mem_cons.mpr ⟨List.mem_of_getElem? (i := 272) (by decide +kernel), List.forall_mem_cons.mpr ⟨List.mem_of_getElem? (i := 273) (by decide +kernel), List.forall_mem_cons.mpr ⟨List.mem_of_getElem? (i := 274) (by decide +kernel), List.forall_mem_cons.mpr ⟨List.mem_of_getElem? (i := 275) (by decide +kernel), List.forall_mem_cons.mpr ⟨List.mem_of_getElem? (i := 276) (by decide +kernel), List.forall_mem_cons.mpr ⟨List.mem_of_getElem? (i := 277) (by decide +kernel), List.forall_mem_cons.mpr ⟨List.mem_of_getElem? (i := 278) (by decide +kernel), fun _ h => absurd h List.not_mem_nil⟩⟩⟩⟩⟩⟩⟩⟩⟩⟩⟩⟩
theorem zFL_10_3 : ∀ q ∈ ([(60, 10, 11), (63, 10, 12), (69, 10, 13), (76, 10, 14), (83, 10, 15), (90, 10, 16), (94, 10, 17), (97, 10, 18), (101, 10, 19), (176, 3, 0), (179, 3, 1), (135, 3, 2)] : List (Nat × Nat × Nat)), zFL_p 10 q := List.forall_mem_cons.mpr ⟨List.mem_of_getElem? (i := 279) (by decide +kernel), List.forall_mem_cons.mpr ⟨List.mem_of_getElem? (i := 280) (by decide +kernel), List.forall_mem_cons.mpr ⟨List.mem_of_getElem? (i := 281) (by decide +kernel), List.forall_mem_cons.mpr ⟨List.mem_of_getElem? (i := 282) (by decide +kernel), List.forall_mem_cons.mpr ⟨List.mem_of_getElem? (i := 283) (by decide +kernel), List.forall_mem_cons.mpr ⟨List.mem_of_getElem? (i := 284) (by decide +kernel), List.forall_mem_cons.mpr ⟨List.mem_of_getElem? (i := 285) (by decide +kernel), List.forall_mem_cons.mpr ⟨List.mem_of_getElem? (i := 286) (by decide +kernel), List.forall_mem_cons.mpr ⟨List.mem_of_getElem? (i := 287) (by decide +kernel), List.forall_mem_cons.mpr ⟨List.mem_of_getElem? (i := 360) (by decide +kernel), List.forall_mem_cons.mpr ⟨List.mem_of_getElem? (i := 364) (by decide +kernel), List.forall_mem_cons.mpr ⟨List.mem_of_getElem? (i := 367) (by decide +kernel), fun _ h => absurd h List.not_mem_nil⟩⟩⟩⟩⟩⟩⟩⟩⟩⟩⟩⟩
theorem zFL_10_4 : ∀ q ∈ ([(161, 3, 3), (164, 3, 4), (123, 3, 5)] : List (Nat × Nat × Nat)), zFL_p 10 q := List.forall_mem_cons.mpr ⟨List.mem_of_getElem? (i := 371) (by decide +kernel), List.forall_mem_cons.mpr ⟨List.mem_of_getElem? (i := 375) (by decide +kernel), List.forall_mem_cons.mpr ⟨List.mem_of_getElem? (i := 378) (by decide +kernel), fun _ h => absurd h List.not_mem_nil⟩⟩⟩
theorem zFL_10 : ∀ q ∈ zFL 10, zFL_p 10 q := by
  show ∀ q ∈ ([(146, 5, 0), (149, 5, 1), (152, 5, 2), (155, 5, 3), (167, 5, 4), (192, 5, 6), (182, 5, 7), (189, 5, 8), (132, 2, 0), (118, 4, 2), (114, 9, 0), (141, 8, 0)] ++ ([(236, 0, 0), (237, 0, 1), (241, 0, 2), (244, 0, 3), (259, 0, 4), (275, 6, 0), (278, 6, 1), (350, 1, 0), (353, 1, 1), (357, 1, 2), (358, 1, 3), (354, 1, 4)] ++ ([(359, 1, 5), (9, 10, 0), (13, 10, 1), (19, 10, 2), (23, 10, 3), (26, 10, 4), (33, 10, 5), (37, 10, 6), (40, 10, 7), (46, 10, 8), (52, 10, 9), (56, 10, 10)] ++ ([(60, 10, 11), (63, 10, 12), (69, 10, 13), (76, 10, 14), (83, 10, 15), (90, 10, 16), (94, 10, 17), (97, 10, 18), (101, 10, 19), (176, 3, 0), (179, 3, 1), (135, 3, 2)] ++ ([(161, 3, 3), (164, 3, 4), (123, 3, 5)])))) : List (Nat × Nat × Nat)), _
  exact List.forall_mem_append.mpr ⟨zFL_10_0, List.forall_mem_append.mpr ⟨zFL_10_1, List.forall_mem_append.mpr ⟨zFL_10_2, List.forall_mem_append.mpr ⟨zFL_10_3, zFL_10_4⟩⟩⟩⟩
theorem zFL_11_0 : ∀ q ∈ ([(7, 11, 0), (83, 11, 1), (260, 11, 2), (13, 11, 3), (17, 11, 4), (20, 11, 5), (23, 11, 6), (26, 11, 7), (93, 11, 8), (90, 11, 9), (118, 11, 10), (145, 11, 11)] : List (Nat × Nat × Nat)), zFL_p 11 q := List.forall_mem_cons.mpr ⟨List.mem_of_getElem? (i := 956) (by decide +kernel), List.forall_mem_cons.mpr ⟨List.mem_of_getElem? (i := 957) (by decide +kernel), List.forall_mem_cons.mpr ⟨List.mem_of_getElem? (i := 958) (by decide +kernel), List.forall_mem_cons.mpr ⟨List.mem_of_getElem? (i := 959) (by decide +kernel), List.forall_mem_cons.mpr ⟨List.mem_of_getElem? (i := 960) (by decide +kernel), List.forall_mem_cons.mpr ⟨List.mem_of_getElem? (i := 961) (by decide +kernel), List.forall_mem_cons.mpr ⟨List.mem_of_getElem? (i := 962) (by decide +kernel), List.forall_mem_cons.mpr ⟨List.mem_of_getElem? (i := 963) (by decide +kernel), List.forall_mem_cons.mpr ⟨List.mem_of_getElem? (i := 964) (by decide +kernel), List.forall_mem_cons.mpr ⟨List.mem_of_getElem? (i := 965) (by decide +kernel), List.forall_mem_cons.mpr ⟨List.mem_of_getElem? (i := 966) (by decide +kernel), List.forall_mem_cons.mpr ⟨List.mem_of_getElem? (i := 967) (by decide +kernel), fun _ h => absurd h List.not_mem_nil⟩⟩⟩⟩⟩⟩⟩⟩⟩⟩⟩⟩
theorem zFL_11_1 : ∀ q ∈ ([(148, 11, 12), (151, 11, 13), (248, 11, 14), (29, 11, 15), (154, 11, 16), (32, 11, 17), (272, 11, 18), (36, 11, 19), (39, 11, 20), (42, 11, 21), (453, 11, 22), (46, 11, 23)] : List (Nat × Nat × Nat)), zFL_p 11 q := List.forall_mem_cons.mpr ⟨List.mem_of_getElem? (i := 968) (by decide +kernel), List.forall_mem_cons.mpr ⟨List.mem_of_getElem? (i := 969) (by decide +kernel), List.forall_mem_cons.mpr ⟨List.mem_of_getElem? (i := 970) (by decide +kernel), List.forall_mem_cons.mpr ⟨List.mem_of_getElem? (i := 971) (by decide +kernel), List.forall_mem_cons.mpr ⟨List.mem_of_getElem? (i := 972) (by decide +kernel), List.forall_mem_cons.mpr ⟨List.mem_of_getElem? (i := 973) (by decide +kernel), List.forall_mem_cons.mpr ⟨List.mem_of_getElem? (i := 974) (by decide +kernel), List.forall_mem_cons.mpr ⟨List.mem_of_getElem? (i := 975) (by decide +kernel), List.forall_mem_cons.mpr ⟨List.mem_of_getElem? (i := 976) (by decide +kernel), List.forall_mem_cons.mpr ⟨List.mem_of_getElem? (i := 977) (by decide +kernel), List.forall_mem_cons.mpr ⟨List.mem_of_getElem? (i := 978) (by decide +kernel), List.forall_mem_cons.mpr ⟨List.mem_of_getElem? (i := 979) (by decide +kernel), fun _ h => absurd h List.not_mem_nil⟩⟩⟩⟩⟩⟩⟩⟩⟩⟩⟩⟩
theorem zFL_11_2 : ∀ q ∈ ([(49, 11, 24), (350, 11, 25), (52, 11, 26), (269, 11, 27), (55, 11, 28), (404, 11, 29), (401, 11, 30), (58, 11, 31), (61, 11, 32), (64, 11, 33), (68, 11, 34), (456, 11, 35)] : List (Nat × Nat × Nat)), zFL_p 11 q := List.forall_mem_cons.mpr ⟨List.mem_of_getElem? (i := 980) (by decide +kernel), List.forall_mem_cons.mpr ⟨List.mem_of_getElem? (i := 981) (by decide +kernel), List.forall_mem_cons.mpr ⟨List.mem_of_getElem? (i := 982) (by decide +kernel), List.forall_mem_cons.mpr ⟨List.mem_of_getElem? (i := 983) (by decide +kernel), List.forall_mem_cons.mpr ⟨List.mem_of_getElem? (i := 984) (by decide +kernel), List.forall_mem_cons.mpr ⟨List.mem_of_getElem? (i := 985) (by decide +kernel), List.forall_mem_cons.mpr ⟨List.mem_of_getElem? (i := 986) (by decide +kernel), List.forall_mem_cons.mpr ⟨List.mem_of_getElem? (i := 987) (by decide +kernel), List.forall_mem_cons.mpr ⟨List.mem_of_getElem? (i := 988) (by decide +kernel), List.forall_mem_cons.mpr ⟨List.mem_of_getElem? (i := 989) (by decide +kernel), List.forall_mem_cons.mpr ⟨List.mem_of_getElem? (i := 990) (by decide +kernel), List.forall_mem_cons.mpr ⟨List.mem_of_getElem? (i := 991) (by decide +kernel), fun _ h => absurd h List.not_mem_nil⟩⟩⟩⟩⟩⟩⟩⟩⟩⟩⟩⟩
theorem zFL_11_3 : ∀ q ∈ ([(71, 11, 36), (74, 11, 37), (77, 11, 38), (80, 11, 39)] : List (Nat × Nat × Nat)), zFL_p 11 q := List.forall_mem_cons.mpr ⟨List.mem_of_getElem? (i := 992) (by decide +kernel), List.forall_mem_cons.mpr ⟨List.mem_of_getElem? (i := 993) (by decide +kernel), List.forall_mem_cons.mpr ⟨List.mem_of_getElem? (i := 994) (by decide +kernel), List.forall_mem_cons.mpr ⟨List.mem_of_getElem? (i := 995) (by decide +kernel), fun _ h => absurd h List.not_mem_nil⟩⟩⟩⟩
theorem zFL_11 : ∀ q ∈ zFL 11, zFL_p 11 q := by
  show ∀ q ∈ ([(7, 11, 0), (83, 11, 1), (260, 11, 2), (13, 11, 3), (17, 11, 4), (20, 11, 5), (23, 11, 6), (26, 11, 7), (93, 11, 8), (90, 11, 9), (118, 11, 10), (145, 11, 11)] ++ ([(148, 11, 12), (151, 11, 13), (248, 11, 14), (29, 11, 15), (154, 11, 16), (32, 11, 17), (272, 11, 18), (36, 11, 19), (39, 11, 20), (42, 11, 21), (453, 11, 22), (46, 11, 23)] ++ ([(49, 11, 24), (350, 11, 25), (52, 11, 26), (269, 11, 27), (55, 11, 28), (404, 11, 29), (401, 11, 30), (58, 11, 31), (61, 11, 32), (64, 11, 33), (68, 11, 34), (456, 11, 35)] ++ ([(71, 11, 36), (74, 11, 37), (77, 11, 38), (80, 11, 39)]))) : List (Nat × Nat × Nat)), _
  exact List.forall_mem_append.mpr ⟨zFL_11_0, List.forall_mem_append.mpr ⟨zFL_11_1, List.forall_mem_append.mpr ⟨zFL_11_2, zFL_11_3⟩⟩⟩
theorem zFL_ok : ∀ o, ∀ q ∈ zFL o, zFL_p o q := by
  intro o; unfold zFL; split
  · exact zFL_0
  · exact zFL_1
  · exact zFL_2
  · exact zFL_3
  · exact zFL_4
  · exact zFL_5
  · exact zFL_6
  · exact zFL_7
  · exact zFL_8
  · exact zFL_9
  · exact zFL_10
  · exact zFL_11
  · intro q h; cases h
def zML_p (o : Nat) (q : Nat × Nat × Nat) : Prop := (if q.2.2 = 3 then Cond.methodLinkNest (zRN o) q.1 (zM q.2.1).1 "LetOff" else Cond.methodLink (zRN o) q.1 (zM q.2.1).1) ∈ tables_1
theorem zML_0_0 : ∀ q ∈ ([(48, 62, 0), (85, 63, 0), (97, 64, 0), (106, 65, 0), (113, 56, 1), (100, 66, 0), (52, 70, 0), (56, 71, 0), (77, 72, 0), (81, 73, 0), (68, 74, 0), (125, 75, 0)] : List (Nat × Nat × Nat)), zML_p 0 q := List.forall_mem_cons.mpr ⟨List.mem_of_getElem? (i := 661) (by decide +kernel), List.forall_mem_cons.mpr ⟨List.mem_of_getElem? (i := 665) (by decide +kernel), List.forall_mem_cons.mpr ⟨List.mem_of_getElem? (i := 669) (by decide +kernel), List.forall_mem_cons.mpr ⟨List.mem_of_getElem? (i := 673) (by decide +kernel), List.forall_mem_cons.mpr ⟨List.mem_of_getElem? (i := 677) (by decide +kernel), List.forall_mem_cons.mpr ⟨List.mem_of_getElem? (i := 678) (by decide +kernel), List.forall_mem_cons.mpr ⟨List.mem_of_getElem? (i := 693) (by decide +kernel), List.forall_mem_cons.mpr ⟨List.mem_of_getElem? (i := 697) (by decide +kernel), List.forall_mem_cons.mpr ⟨List.mem_of_getElem? (i := 701) (by decide +kernel), List.forall_mem_cons.mpr ⟨List.mem_of_getElem? (i := 705) (by decide +kernel), List.forall_mem_cons.mpr ⟨List.mem_of_getElem? (i := 709) (by decide +kernel), List.forall_mem_cons.mpr ⟨List.mem_of_getElem? (i := 713) (by decide +kernel), fun _ h => absurd h List.not_mem_nil⟩⟩⟩⟩⟩⟩⟩⟩⟩⟩⟩⟩
theorem zML_0_1 : ∀ q ∈ ([(129, 28, 0)] : List (Nat × Nat × Nat)), zML_p 0 q := List.forall_mem_cons.mpr ⟨List.mem_of_getElem? (i := 717) (by decide +kernel), fun _ h => absurd h List.not_mem_nil⟩
theorem zML_0 : ∀ q ∈ zML 0, zML_p 0 q := by
  show ∀ q ∈ ([(48, 62, 0), (85, 63, 0), (97, 64, 0), (106, 65, 0), (113, 56, 1), (100, 66, 0), (52, 70, 0), (56, 71, 0), (77, 72, 0), (81, 73, 0), (68, 74, 0), (125, 75, 0)] ++ ([(129, 28, 0)]) : List (Nat × Nat × Nat)), _
  exact List.forall_mem_append.mpr ⟨zML_0_0, zML_0_1⟩
theorem zML_1_0 : ∀ q ∈ ([(28, 1, 3), (35, 2, 3)] : List (Nat × Nat × Nat)), zML_p 1 q := List.forall_mem_cons.mpr ⟨List.mem_of_getElem? (i := 240) (by decide +kernel), List.forall_mem_cons.mpr ⟨List.mem_of_getElem? (i := 242) (by decide +kernel), fun _ h => absurd h List.not_mem_nil⟩⟩
theorem zML_1 : ∀ q ∈ zML 1, zML_p 1 q := by
  show ∀ q ∈ ([(28, 1, 3), (35, 2, 3)] : List (Nat × Nat × Nat)), _
  exact zML_1_0
theorem zML_2_0 : ∀ q ∈ ([(31, 17, 1)] : List (Nat × Nat × Nat)), zML_p 2 q := List.forall_mem_cons.mpr ⟨List.mem_of_getElem? (i := 893) (by decide +kernel), fun _ h => absurd h List.not_mem_nil⟩
theorem zML_2 : ∀ q ∈ zML 2, zML_p 2 q := by
  show ∀ q ∈ ([(31, 17, 1)] : List (Nat × Nat × Nat)), _
  exact zML_2_0
theorem zML_3_0 : ∀ q ∈ ([(30, 1, 3)] : List (Nat × Nat × Nat)), zML_p 3 q := List.forall_mem_cons.mpr ⟨List.mem_of_getElem? (i := 356) (by decide +kernel), fun _ h => absurd h List.not_mem_nil⟩
theorem zML_3 : ∀ q ∈ zML 3, zML_p 3 q := by
  show ∀ q ∈ ([(30, 1, 3)] : List (Nat × Nat × Nat)), _
  exact zML_3_0
theorem zML_4_0 : ∀ q ∈ ([(34, 16, 1), (40, 17, 1), (49, 18, 0), (52, 19, 1), (60, 22, 0), (64, 24, 0), (56, 31, 0)] : List (Nat × Nat × Nat)), zML_p 4 q := List.forall_mem_cons.mpr ⟨List.mem_of_getElem? (i := 396) (by decide +kernel), List.forall_mem_cons.mpr ⟨List.mem_of_getElem? (i := 399) (by decide +kernel), List.forall_mem_cons.mpr ⟨List.mem_of_getElem? (i := 405) (by decide +kernel), List.forall_mem_cons.mpr ⟨List.mem_of_getElem? (i := 409) (by decide +kernel), List.forall_mem_cons.mpr ⟨List.mem_of_getElem? (i := 478) (by decide +kernel), List.forall_mem_cons.mpr ⟨List.mem_of_getElem? (i := 479) (by decide +kernel), List.forall_mem_cons.mpr ⟨List.mem_of_getElem? (i := 507) (by decide +kernel), fun _ h => absurd h List.not_mem_nil⟩⟩⟩⟩⟩⟩⟩
theorem zML_4 : ∀ q ∈ zML 4, zML_p 4 q := by
  show ∀ q ∈ ([(34, 16, 1), (40, 17, 1), (49, 18, 0), (52, 19, 1), (60, 22, 0), (64, 24, 0), (56, 31, 0)] : List (Nat × Nat × Nat)), _
  exact zML_4_0
theorem zML_5_0 : ∀ q ∈ ([(40, 70, 0)] : List (Nat × Nat × Nat)), zML_p 5 q := List.forall_mem_cons.mpr ⟨List.mem_of_getElem? (i := 737) (by decide +kernel), fun _ h => absurd h List.not_mem_nil⟩
theorem zML_5 : ∀ q ∈ zML 5, zML_p 5 q := by
  show ∀ q ∈ ([(40, 70, 0)] : List (Nat × Nat × Nat)), _
  exact zML_5_0
theorem zML_6_0 : ∀ q ∈ ([(29, 32, 0), (33, 16, 1), (39, 100, 0), (43, 101, 0), (49, 56, 1), (55, 102, 0), (62, 61, 0), (28, 1, 3)] : List (Nat × Nat × Nat)), zML_p 6 q := List.forall_mem_cons.mpr ⟨List.mem_of_getElem? (i := 813) (by decide +kernel), List.forall_mem_cons.mpr ⟨List.mem_of_getElem? (i := 814) (by decide +kernel), List.forall_mem_cons.mpr ⟨List.mem_of_getElem? (i := 815) (by decide +kernel), List.forall_mem_cons.mpr ⟨List.mem_of_getElem? (i := 819) (by decide +kernel), List.forall_mem_cons.mpr ⟨List.mem_of_getElem? (i := 823) (by decide +kernel), List.forall_mem_cons.mpr ⟨List.mem_of_getElem? (i := 824) (by decide +kernel), List.forall_mem_cons.mpr ⟨List.mem_of_getElem? (i := 829) (by decide +kernel), List.forall_mem_cons.mpr ⟨List.mem_of_getElem? (i := 218) (by decide +kernel), fun _ h => absurd h List.not_mem_nil⟩⟩⟩⟩⟩⟩⟩⟩
theorem zML_6 : ∀ q ∈ zML 6, zML_p 6 q := by
  show ∀ q ∈ ([(29, 32, 0), (33, 16, 1), (39, 100, 0), (43, 101, 0), (49, 56, 1), (55, 102, 0), (62, 61, 0), (28, 1, 3)] : List (Nat × Nat × Nat)), _
  exact zML_6_0
theorem zML_7_0 : ∀ q ∈ ([(17, 67, 1), (21, 68, 1), (25, 69, 1)] : List (Nat × Nat × Nat)), zML_p 7 q := List.forall_mem_cons.mpr ⟨List.mem_of_getElem? (i := 684) (by decide +kernel), List.forall_mem_cons.mpr ⟨List.mem_of_getElem? (i := 687) (by decide +kernel), List.forall_mem_cons.mpr ⟨List.mem_of_getElem? (i := 690) (by decide +kernel), fun _ h => absurd h List.not_mem_nil⟩⟩⟩
theorem zML_7 : ∀ q ∈ zML 7, zML_p 7 q := by
  show ∀ q ∈ ([(17, 67, 1), (21, 68, 1), (25, 69, 1)] : List (Nat × Nat × Nat)), _
  exact zML_7_0
theorem zML_8_0 : ∀ q ∈ ([(29, 15, 0), (33, 35, 0), (42, 21, 0), (79, 22, 0), (46, 18, 0), (37, 36, 0), (105, 37, 0), (110, 24, 0), (102, 38, 0), (76, 39, 0), (52, 40, 0), (49, 41, 0)] : List (Nat × Nat × Nat)), zML_p 8 q := List.forall_mem_cons.mpr ⟨List.mem_of_getElem? (i := 523) (by decide +kernel), List.forall_mem_cons.mpr ⟨List.mem_of_getElem? (i := 524) (by decide +kernel), List.forall_mem_cons.mpr ⟨List.mem_of_getElem? (i := 529) (by decide +kernel), List.forall_mem_cons.mpr ⟨List.mem_of_getElem? (i := 530) (by decide +kernel), List.forall_mem_cons.mpr ⟨List.mem_of_getElem? (i := 531) (by decide +kernel), List.forall_mem_cons.mpr ⟨List.mem_of_getElem? (i := 532) (by decide +kernel), List.forall_mem_cons.mpr ⟨List.mem_of_getElem? (i := 536) (by decide +kernel), List.forall_mem_cons.mpr ⟨List.mem_of_getElem? (i := 541) (by decide +kernel), List.forall_mem_cons.mpr ⟨List.mem_of_getElem? (i := 542) (by decide +kernel), List.forall_mem_cons.mpr ⟨List.mem_of_getElem? (i := 547) (by decide +kernel), List.forall_mem_cons.mpr ⟨List.mem_of_getElem? (i := 551) (by decide +kernel), List.forall_mem_cons.mpr ⟨List.mem_of_getElem? (i := 557) (by decide +kernel), fun _ h => absurd h List.not_mem_nil⟩⟩⟩⟩⟩⟩⟩⟩⟩⟩⟩⟩
theorem zML_8_1 : ∀ q ∈ ([(84, 42, 0), (91, 31, 0), (95, 43, 0), (69, 30, 0), (60, 44, 1), (66, 45, 2), (13, 4, 3)] : List (Nat × Nat × Nat)), zML_p 8 q := List.forall_mem_cons.mpr ⟨List.mem_of_getElem? (i := 561) (by decide +kernel), List.forall_mem_cons.mpr ⟨List.mem_of_getElem? (i := 566) (by decide +kernel), List.forall_mem_cons.mpr ⟨List.mem_of_getElem? (i := 567) (by decide +kernel), List.forall_mem_cons.mpr ⟨List.mem_of_getElem? (i := 571) (by decide +kernel), List.forall_mem_cons.mpr ⟨List.mem_of_getElem? (i := 575) (by decide +kernel), List.forall_mem_cons.mpr ⟨List.mem_of_getElem? (i := 587) (by decide +kernel), List.forall_mem_cons.mpr ⟨List.mem_of_getElem? (i := 161) (by decide +kernel), fun _ h => absurd h List.not_mem_nil⟩⟩⟩⟩⟩⟩⟩
theorem zML_8 : ∀ q ∈ zML 8, zML_p 8 q := by
  show ∀ q ∈ ([(29, 15, 0), (33, 35, 0), (42, 21, 0), (79, 22, 0), (46, 18, 0), (37, 36, 0), (105, 37, 0), (110, 24, 0), (102, 38, 0), (76, 39, 0), (52, 40, 0), (49, 41, 0)] ++ ([(84, 42, 0), (91, 31, 0), (95, 43, 0), (69, 30, 0), (60, 44, 1), (66, 45, 2), (13, 4, 3)]) : List (Nat × Nat × Nat)), _
  exact List.forall_mem_append.mpr ⟨zML_8_0, zML_8_1⟩
theorem zML_9_0 : ∀ q ∈ ([(21, 15, 0), (25, 20, 0), (42, 21, 0), (46, 22, 0), (55, 18, 0), (58, 23, 0), (65, 25, 0), (75, 26, 0), (69, 27, 0), (98, 28, 0), (72, 29, 0), (33, 30, 0)] : List (Nat × Nat × Nat)), zML_p 9 q := List.forall_mem_cons.mpr ⟨List.mem_of_getElem? (i := 392) (by decide +kernel), List.forall_mem_cons.mpr ⟨List.mem_of_getElem? (i := 412) (by decide +kernel), List.forall_mem_cons.mpr ⟨List.mem_of_getElem? (i := 417) (by decide +kernel), List.forall_mem_cons.mpr ⟨List.mem_of_getElem? (i := 469) (by decide +kernel), List.forall_mem_cons.mpr ⟨List.mem_of_getElem? (i := 473) (by decide +kernel), List.forall_mem_cons.mpr ⟨List.mem_of_getElem? (i := 474) (by decide +kernel), List.forall_mem_cons.mpr ⟨List.mem_of_getElem? (i := 483) (by decide +kernel), List.forall_mem_cons.mpr ⟨List.mem_of_getElem? (i := 487) (by decide +kernel), List.forall_mem_cons.mpr ⟨List.mem_of_getElem? (i := 491) (by decide +kernel), List.forall_mem_cons.mpr ⟨List.mem_of_getElem? (i := 495) (by decide +kernel), List.forall_mem_cons.mpr ⟨List.mem_of_getElem? (i := 499) (by decide +kernel), List.forall_mem_cons.mpr ⟨List.mem_of_getElem? (i := 503) (by decide +kernel), fun _ h => absurd h List.not_mem_nil⟩⟩⟩⟩⟩⟩⟩⟩⟩⟩⟩⟩
theorem zML_9_1 : ∀ q ∈ ([(11, 4, 3), (20, 14, 3)] : List (Nat × Nat × Nat)), zML_p 9 q := List.forall_mem_cons.mpr ⟨List.mem_of_getElem? (i := 117) (by decide +kernel), List.forall_mem_cons.mpr ⟨List.mem_of_getElem? (i := 351) (by decide +kernel), fun _ h => absurd h List.not_mem_nil⟩⟩
theorem zML_9 : ∀ q ∈ zML 9, zML_p 9 q := by
  show ∀ q ∈ ([(21, 15, 0), (25, 20, 0), (42, 21, 0), (46, 22, 0), (55, 18, 0), (58, 23, 0), (65, 25, 0), (75, 26, 0), (69, 27, 0), (98, 28, 0), (72, 29, 0), (33, 30, 0)] ++ ([(11, 4, 3), (20, 14, 3)]) : List (Nat × Nat × Nat)), _
  exact List.forall_mem_append.mpr ⟨zML_9_0, zML_9_1⟩
theorem zML_10_0 : ∀ q ∈ ([(89, 7, 2), (106, 10, 0), (110, 13, 0), (128, 32, 0), (138, 34, 0), (142, 48, 1), (158, 50, 0), (170, 52, 0), (173, 53, 0), (185, 55, 0), (195, 56, 1), (201, 57, 0)] : List (Nat × Nat × Nat)), zML_p 10 q := List.forall_mem_cons.mpr ⟨List.mem_of_getElem? (i := 213) (by decide +kernel), List.forall_mem_cons.mpr ⟨List.mem_of_getElem? (i := 333) (by decide +kernel), List.forall_mem_cons.mpr ⟨List.mem_of_getElem? (i := 345) (by decide +kernel), List.forall_mem_cons.mpr ⟨List.mem_of_getElem? (i := 511) (by decide +kernel), List.forall_mem_cons.mpr ⟨List.mem_of_getElem? (i := 519) (by decide +kernel), List.forall_mem_cons.mpr ⟨List.mem_of_getElem? (i := 603) (by decide +kernel), List.forall_mem_cons.mpr ⟨List.mem_of_getElem? (i := 610) (by decide +kernel), List.forall_mem_cons.mpr ⟨List.mem_of_getElem? (i := 618) (by decide +kernel), List.forall_mem_cons.mpr ⟨List.mem_of_getElem? (i := 622) (by decide +kernel), List.forall_mem_cons.mpr ⟨List.mem_of_getElem? (i := 630) (by decide +kernel), List.forall_mem_cons.mpr ⟨List.mem_of_getElem? (i := 634) (by decide +kernel), List.forall_mem_cons.mpr ⟨List.mem_of_getElem? (i := 640) (by decide +kernel), fun _ h => absurd h List.not_mem_nil⟩⟩⟩⟩⟩⟩⟩⟩⟩⟩⟩⟩
theorem zML_10_1 : ∀ q ∈ ([(204, 59, 0), (221, 16, 1), (207, 60, 0), (210, 61, 0), (214, 77, 0), (217, 78, 1), (227, 80, 0), (230, 82, 0), (233, 85, 1), (247, 87, 0), (251, 88, 0), (255, 90, 0)] : List (Nat × Nat × Nat)), zML_p 10 q := List.forall_mem_cons.mpr ⟨List.mem_of_getElem? (i := 648) (by decide +kernel), List.forall_mem_cons.mpr ⟨List.mem_of_getElem? (i := 652) (by decide +kernel), List.forall_mem_cons.mpr ⟨List.mem_of_getElem? (i := 653) (by decide +kernel), List.forall_mem_cons.mpr ⟨List.mem_of_getElem? (i := 657) (by decide +kernel), List.forall_mem_cons.mpr ⟨List.mem_of_getElem? (i := 722) (by decide +kernel), List.forall_mem_cons.mpr ⟨List.mem_of_getElem? (i := 726) (by decide +kernel), List.forall_mem_cons.mpr ⟨List.mem_of_getElem? (i := 733) (by decide +kernel), List.forall_mem_cons.mpr ⟨List.mem_of_getElem? (i := 742) (by decide +kernel), List.forall_mem_cons.mpr ⟨List.mem_of_getElem? (i := 754) (by decide +kernel), List.forall_mem_cons.mpr ⟨List.mem_of_getElem? (i := 761) (by decide +kernel), List.forall_mem_cons.mpr ⟨List.mem_of_getElem? (i := 765) (by decide +kernel), List.forall_mem_cons.mpr ⟨List.mem_of_getElem? (i := 773) (by decide +kernel), fun _ h => absurd h List.not_mem_nil⟩⟩⟩⟩⟩⟩⟩⟩⟩⟩⟩⟩
theorem zML_10_2 : ∀ q ∈ ([(263, 94, 0), (267, 95, 0), (271, 99, 0), (281, 17, 1), (284, 105, 0), (292, 106, 1), (295, 107, 1), (288, 108, 0), (299, 110, 0), (303, 112, 0), (306, 114, 0), (316, 116, 0)] : List (Nat × Nat × Nat)), zML_p 10 q := List.forall_mem_cons.mpr ⟨List.mem_of_getElem? (i := 789) (by decide +kernel), List.forall_mem_cons.mpr ⟨List.mem_of_getElem? (i := 793) (by decide +kernel), List.forall_mem_cons.mpr ⟨List.mem_of_getElem? (i := 809) (by decide +kernel), List.forall_mem_cons.mpr ⟨List.mem_of_getElem? (i := 834) (by decide +kernel), List.forall_mem_cons.mpr ⟨List.mem_of_getElem? (i := 839) (by decide +kernel), List.forall_mem_cons.mpr ⟨List.mem_of_getElem? (i := 843) (by decide +kernel), List.forall_mem_cons.mpr ⟨List.mem_of_getElem? (i := 846) (by decide +kernel), List.forall_mem_cons.mpr ⟨List.mem_of_getElem? (i := 849) (by decide +kernel), List.forall_mem_cons.mpr ⟨List.mem_of_getElem? (i := 857) (by decide +kernel), List.forall_mem_cons.mpr ⟨List.mem_of_getElem? (i := 865) (by decide +kernel), List.forall_mem_cons.mpr ⟨List.mem_of_getElem? (i := 873) (by decide +kernel), List.forall_mem_cons.mpr ⟨List.mem_of_getElem? (i := 881) (by decide +kernel), fun _ h => absurd h List.not_mem_nil⟩⟩⟩⟩⟩⟩⟩⟩⟩⟩⟩⟩
theorem zML_10_3 : ∀ q ∈ ([(320, 117, 0), (309, 118, 0), (312, 119, 0), (324, 122, 1), (330, 123, 0), (333, 124, 0), (336, 127, 0), (340, 128, 0), (360, 130, 0), (32, 1, 3), (45, 2, 3), (68, 3, 3)] : List (Nat × Nat × Nat)), zML_p 10 q := List.forall_mem_cons.mpr ⟨List.mem_of_getElem? (i := 885) (by decide +kernel), List.forall_mem_cons.mpr ⟨List.mem_of_getElem? (i := 889) (by decide +kernel), List.forall_mem_cons.mpr ⟨List.mem_of_getElem? (i := 894) (by decide +kernel), List.forall_mem_cons.mpr ⟨List.mem_of_getElem? (i := 906) (by decide +kernel), List.forall_mem_cons.mpr ⟨List.mem_of_getElem? (i := 909) (by decide +kernel), List.forall_mem_cons.mpr ⟨List.mem_of_getElem? (i := 913) (by decide +kernel), List.forall_mem_cons.mpr ⟨List.mem_of_getElem? (i := 925) (by decide +kernel), List.forall_mem_cons.mpr ⟨List.mem_of_getElem? (i := 929) (by decide +kernel), List.forall_mem_cons.mpr ⟨List.mem_of_getElem? (i := 941) (by decide +kernel), List.forall_mem_cons.mpr ⟨List.mem_of_getElem? (i := 33) (by decide +kernel), List.forall_mem_cons.mpr ⟨List.mem_of_getElem? (i := 88) (by decide +kernel), List.forall_mem_cons.mpr ⟨List.mem_of_getElem? (i := 111) (by decide +kernel), fun _ h => absurd h List.not_mem_nil⟩⟩⟩⟩⟩⟩⟩⟩⟩⟩⟩⟩
theorem zML_10_4 : ∀ q ∈ ([(75, 5, 3), (82, 6, 3), (105, 8, 3)] : List (Nat × Nat × Nat)), zML_p 10 q := List.forall_mem_cons.mpr ⟨List.mem_of_getElem? (i := 156) (by decide +kernel), List.forall_mem_cons.mpr ⟨List.mem_of_getElem? (i := 178) (by decide +kernel), List.forall_mem_cons.mpr ⟨List.mem_of_getElem? (i := 235) (by decide +kernel), fun _ h => absurd h List.not_mem_nil⟩⟩⟩
theorem zML_10 : ∀ q ∈ zML 10, zML_p 10 q := by
  show ∀ q ∈ ([(89, 7, 2), (106, 10, 0), (110, 13, 0), (128, 32, 0), (138, 34, 0), (142, 48, 1), (158, 50, 0), (170, 52, 0), (173, 53, 0), (185, 55, 0), (195, 56, 1), (201, 57, 0)] ++ ([(204, 59, 0), (221, 16, 1), (207, 60, 0), (210, 61, 0), (214, 77, 0), (217, 78, 1), (227, 80, 0), (230, 82, 0), (233, 85, 1), (247, 87, 0), (251, 88, 0), (255, 90, 0)] ++ ([(263, 94, 0), (267, 95, 0), (271, 99, 0), (281, 17, 1), (284, 105, 0), (292, 106, 1), (295, 107, 1), (288, 108, 0), (299, 110, 0), (303, 112, 0), (306, 114, 0), (316, 116, 0)] ++ ([(320, 117, 0), (309, 118, 0), (312, 119, 0), (324, 122, 1), (330, 123, 0), (333, 124, 0), (336, 127, 0), (340, 128, 0), (360, 130, 0), (32, 1, 3), (45, 2, 3), (68, 3, 3)] ++ ([(75, 5, 3), (82, 6, 3), (105, 8, 3)])))) : List (Nat × Nat × Nat)), _
  exact List.forall_mem_append.mpr ⟨zML_10_0, List.forall_mem_append.mpr ⟨zML_10_1, List.forall_mem_append.mpr ⟨zML_10_2, List.forall_mem_append.mpr ⟨zML_10_3, zML_10_4⟩⟩⟩⟩
theorem zML_11_0 : ∀ q ∈ ([(86, 134, 0), (263, 137, 0), (257, 138, 0), (96, 139, 0), (243, 140, 0), (104, 141, 0), (100, 142, 0), (114, 143, 0), (251, 144, 0), (229, 145, 0), (108, 146, 0), (217, 147, 0)] : List (Nat × Nat × Nat)), zML_p 11 q := List.forall_mem_cons.mpr ⟨List.mem_of_getElem? (i := 1082) (by decide +kernel), List.forall_mem_cons.mpr ⟨List.mem_of_getElem? (i := 1094) (by decide +kernel), List.forall_mem_cons.mpr ⟨List.mem_of_getElem? (i := 1098) (by decide +kernel), List.forall_mem_cons.mpr ⟨List.mem_of_getElem? (i := 1102) (by decide +kernel), List.forall_mem_cons.mpr ⟨List.mem_of_getElem? (i := 1106) (by decide +kernel), List.forall_mem_cons.mpr ⟨List.mem_of_getElem? (i := 1111) (by decide +kernel), List.forall_mem_cons.mpr ⟨List.mem_of_getElem? (i := 1115) (by decide +kernel), List.forall_mem_cons.mpr ⟨List.mem_of_getElem? (i := 1123) (by decide +kernel), List.forall_mem_cons.mpr ⟨List.mem_of_getElem? (i := 1127) (by decide +kernel), List.forall_mem_cons.mpr ⟨List.mem_of_getElem? (i := 1131) (by decide +kernel), List.forall_mem_cons.mpr ⟨List.mem_of_getElem? (i := 1135) (by decide +kernel), List.forall_mem_cons.mpr ⟨List.mem_of_getElem? (i := 1139) (by decide +kernel), fun _ h => absurd h List.not_mem_nil⟩⟩⟩⟩⟩⟩⟩⟩⟩⟩⟩⟩
theorem zML_11_1 : ∀ q ∈ ([(166, 148, 0), (111, 149, 0), (121, 150, 1), (232, 151, 0), (221, 152, 0), (235, 153, 0), (224, 154, 0), (238, 155, 0), (254, 156, 0), (182, 157, 0), (179, 158, 0), (175, 159, 0)] : List (Nat × Nat × Nat)), zML_p 11 q := List.forall_mem_cons.mpr ⟨List.mem_of_getElem? (i := 1143) (by decide +kernel), List.forall_mem_cons.mpr ⟨List.mem_of_getElem? (i := 1147) (by decide +kernel), List.forall_mem_cons.mpr ⟨List.mem_of_getElem? (i := 1151) (by decide +kernel), List.forall_mem_cons.mpr ⟨List.mem_of_getElem? (i := 1154) (by decide +kernel), List.forall_mem_cons.mpr ⟨List.mem_of_getElem? (i := 1158) (by decide +kernel), List.forall_mem_cons.mpr ⟨List.mem_of_getElem? (i := 1162) (by decide +kernel), List.forall_mem_cons.mpr ⟨List.mem_of_getElem? (i := 1166) (by decide +kernel), List.forall_mem_cons.mpr ⟨List.mem_of_getElem? (i := 1170) (by decide +kernel), List.forall_mem_cons.mpr ⟨List.mem_of_getElem? (i := 1174) (by decide +kernel), List.forall_mem_cons.mpr ⟨List.mem_of_getElem? (i := 1178) (by decide +kernel), List.forall_mem_cons.mpr ⟨List.mem_of_getElem? (i := 1182) (by decide +kernel), List.forall_mem_cons.mpr ⟨List.mem_of_getElem? (i := 1186) (by decide +kernel), fun _ h => absurd h List.not_mem_nil⟩⟩⟩⟩⟩⟩⟩⟩⟩⟩⟩⟩
theorem zML_11_2 : ∀ q ∈ ([(169, 160, 0), (161, 161, 0), (172, 162, 0), (211, 163, 0), (214, 164, 0), (199, 165, 0), (187, 166, 0), (190, 167, 0), (202, 168, 0), (193, 169, 0), (157, 170, 1), (196, 171, 0)] : List (Nat × Nat × Nat)), zML_p 11 q := List.forall_mem_cons.mpr ⟨List.mem_of_getElem? (i := 1191) (by decide +kernel), List.forall_mem_cons.mpr ⟨List.mem_of_getElem? (i := 1195) (by decide +kernel), List.forall_mem_cons.mpr ⟨List.mem_of_getElem? (i := 1199) (by decide +kernel), List.forall_mem_cons.mpr ⟨List.mem_of_getElem? (i := 1212) (by decide +kernel), List.forall_mem_cons.mpr ⟨List.mem_of_getElem? (i := 1216) (by decide +kernel), List.forall_mem_cons.mpr ⟨List.mem_of_getElem? (i := 1220) (by decide +kernel), List.forall_mem_cons.mpr ⟨List.mem_of_getElem? (i := 1225) (by decide +kernel), List.forall_mem_cons.mpr ⟨List.mem_of_getElem? (i := 1229) (by decide +kernel), List.forall_mem_cons.mpr ⟨List.mem_of_getElem? (i := 1233) (by decide +kernel), List.forall_mem_cons.mpr ⟨List.mem_of_getElem? (i := 1237) (by decide +kernel), List.forall_mem_cons.mpr ⟨List.mem_of_getElem? (i := 1241) (by decide +kernel), List.forall_mem_cons.mpr ⟨List.mem_of_getElem? (i := 1244) (by decide +kernel), fun _ h => absurd h List.not_mem_nil⟩⟩⟩⟩⟩⟩⟩⟩⟩⟩⟩⟩
theorem zML_11_3 : ∀ q ∈ ([(266, 173, 0), (304, 174, 0), (308, 176, 0), (292, 178, 0), (287, 179, 0), (295, 180, 0), (313, 182, 0), (318, 184, 0), (369, 187, 0), (366, 188, 0), (331, 189, 0), (357, 190, 0)] : List (Nat × Nat × Nat)), zML_p 11 q := List.forall_mem_cons.mpr ⟨List.mem_of_getElem? (i := 1254) (by decide +kernel), List.forall_mem_cons.mpr ⟨List.mem_of_getElem? (i := 1258) (by decide +kernel), List.forall_mem_cons.mpr ⟨List.mem_of_getElem? (i := 1266) (by decide +kernel), List.forall_mem_cons.mpr ⟨List.mem_of_getElem? (i := 1274) (by decide +kernel), List.forall_mem_cons.mpr ⟨List.mem_of_getElem? (i := 1278) (by decide +kernel), List.forall_mem_cons.mpr ⟨List.mem_of_getElem? (i := 1284) (by decide +kernel), List.forall_mem_cons.mpr ⟨List.mem_of_getElem? (i := 1292) (by decide +kernel), List.forall_mem_cons.mpr ⟨List.mem_of_getElem? (i := 1301) (by decide +kernel), List.forall_mem_cons.mpr ⟨List.mem_of_getElem? (i := 1313) (by decide +kernel), List.forall_mem_cons.mpr ⟨List.mem_of_getElem? (i := 1317) (by decide +kernel), List.forall_mem_cons.mpr ⟨List.mem_of_getElem? (i := 1321) (by decide +kernel), List.forall_mem_cons.mpr ⟨List.mem_of_getElem? (i := 1325) (by decide +kernel), fun _ h => absurd h List.not_mem_nil⟩⟩⟩⟩⟩⟩⟩⟩⟩⟩⟩⟩
theorem zML_11_4 : ∀ q ∈ ([(298, 191, 0), (328, 192, 0), (344, 193, 0), (325, 194, 1), (334, 195, 0), (301, 196, 0), (337, 197, 0), (340, 198, 0), (321, 199, 0), (275, 200, 0), (279, 201, 0), (283, 202, 1)] : List (Nat × Nat × Nat)), zML_p 11 q := List.forall_mem_cons.mpr ⟨List.mem_of_getElem? (i := 1329) (by decide +kernel), List.forall_mem_cons.mpr ⟨List.mem_of_getElem? (i := 1333) (by decide +kernel), List.forall_mem_cons.mpr ⟨List.mem_of_getElem? (i := 1337) (by decide +kernel), List.forall_mem_cons.mpr ⟨List.mem_of_getElem? (i := 1341) (by decide +kernel), List.forall_mem_cons.mpr ⟨List.mem_of_getElem? (i := 1344) (by decide +kernel), List.forall_mem_cons.mpr ⟨List.mem_of_getElem? (i := 1348) (by decide +kernel), List.forall_mem_cons.mpr ⟨List.mem_of_getElem? (i := 1352) (by decide +kernel), List.forall_mem_cons.mpr ⟨List.mem_of_getElem? (i := 1356) (by decide +kernel), List.forall_mem_cons.mpr ⟨List.mem_of_getElem? (i := 1360) (by decide +kernel), List.forall_mem_cons.mpr ⟨List.mem_of_getElem? (i := 1364) (by decide +kernel), List.forall_mem_cons.mpr ⟨List.mem_of_getElem? (i := 1368) (by decide +kernel), List.forall_mem_cons.mpr ⟨List.mem_of_getElem? (i := 1372) (by decide +kernel), fun _ h => absurd h List.not_mem_nil⟩⟩⟩⟩⟩⟩⟩⟩⟩⟩⟩⟩
theorem zML_11_5 : ∀ q ∈ ([(347, 203, 0), (354, 204, 0), (360, 205, 0), (363, 206, 0), (372, 208, 0), (377, 210, 0), (380, 212, 0), (385, 215, 0), (388, 216, 0), (391, 177, 0), (395, 217, 0), (398, 221, 0)] : List (Nat × Nat × Nat)), zML_p 11 q := List.forall_mem_cons.mpr ⟨List.mem_of_getElem? (i := 1375) (by decide +kernel), List.forall_mem_cons.mpr ⟨List.mem_of_getElem? (i := 1379) (by decide +kernel), List.forall_mem_cons.mpr ⟨List.mem_of_getElem? (i := 1383) (by decide +kernel), List.forall_mem_cons.mpr ⟨List.mem_of_getElem? (i := 1387) (by decide +kernel), List.forall_mem_cons.mpr ⟨List.mem_of_getElem? (i := 1395) (by decide +kernel), List.forall_mem_cons.mpr ⟨List.mem_of_getElem? (i := 1404) (by decide +kernel), List.forall_mem_cons.mpr ⟨List.mem_of_getElem? (i := 1412) (by decide +kernel), List.forall_mem_cons.mpr ⟨List.mem_of_getElem? (i := 1425) (by decide +kernel), List.forall_mem_cons.mpr ⟨List.mem_of_getElem? (i := 1429) (by decide +kernel), List.forall_mem_cons.mpr ⟨List.mem_of_getElem? (i := 1433) (by decide +kernel), List.forall_mem_cons.mpr ⟨List.mem_of_getElem? (i := 1434) (by decide +kernel), List.forall_mem_cons.mpr ⟨List.mem_of_getElem? (i := 1450) (by decide +kernel), fun _ h => absurd h List.not_mem_nil⟩⟩⟩⟩⟩⟩⟩⟩⟩⟩⟩⟩
theorem zML_11_6 : ∀ q ∈ ([(409, 223, 0), (412, 224, 0), (415, 228, 0), (418, 231, 0), (421, 232, 0), (425, 233, 0), (428, 235, 0), (433, 237, 0), (444, 240, 0), (441, 241, 0), (438, 242, 0), (447, 244, 0)] : List (Nat × Nat × Nat)), zML_p 11 q := List.forall_mem_cons.mpr ⟨List.mem_of_getElem? (i := 1459) (by decide +kernel), List.forall_mem_cons.mpr ⟨List.mem_of_getElem? (i := 1463) (by decide +kernel), List.forall_mem_cons.mpr ⟨List.mem_of_getElem? (i := 1479) (by decide +kernel), List.forall_mem_cons.mpr ⟨List.mem_of_getElem? (i := 1491) (by decide +kernel), List.forall_mem_cons.mpr ⟨List.mem_of_getElem? (i := 1495) (by decide +kernel), List.forall_mem_cons.mpr ⟨List.mem_of_getElem? (i := 1499) (by decide +kernel), List.forall_mem_cons.mpr ⟨List.mem_of_getElem? (i := 1507) (by decide +kernel), List.forall_mem_cons.mpr ⟨List.mem_of_getElem? (i := 1516) (by decide +kernel), List.forall_mem_cons.mpr ⟨List.mem_of_getElem? (i := 1529) (by decide +kernel), List.forall_mem_cons.mpr ⟨List.mem_of_getElem? (i := 1533) (by decide +kernel), List.forall_mem_cons.mpr ⟨List.mem_of_getElem? (i := 1537) (by decide +kernel), List.forall_mem_cons.mpr ⟨List.mem_of_getElem? (i := 1545) (by decide +kernel), fun _ h => absurd h List.not_mem_nil⟩⟩⟩⟩⟩⟩⟩⟩⟩⟩⟩⟩
theorem zML_11_7 : ∀ q ∈ ([(450, 246, 0), (470, 249, 0), (473, 250, 0), (476, 252, 0)] : List (Nat × Nat × Nat)), zML_p 11 q := List.forall_mem_cons.mpr ⟨List.mem_of_getElem? (i := 1553) (by decide +kernel), List.forall_mem_cons.mpr ⟨List.mem_of_getElem? (i := 1566) (by decide +kernel), List.forall_mem_cons.mpr ⟨List.mem_of_getElem? (i := 1574) (by decide +kernel), List.forall_mem_cons.mpr ⟨List.mem_of_getElem? (i := 1582) (by decide +kernel), fun _ h => absurd h List.not_mem_nil⟩⟩⟩⟩
theorem zML_11 : ∀ q ∈ zML 11, zML_p 11 q := by
  show ∀ q ∈ ([(86, 134, 0), (263, 137, 0), (257, 138, 0), (96, 139, 0), (243, 140, 0), (104, 141, 0), (100, 142, 0), (114, 143, 0), (251, 144, 0), (229, 145, 0), (108, 146, 0), (217, 147, 0)] ++ ([(166, 148, 0), (111, 149, 0), (121, 150, 1), (232, 151, 0), (221, 152, 0), (235, 153, 0), (224, 154, 0), (238, 155, 0), (254, 156, 0), (182, 157, 0), (179, 158, 0), (175, 159, 0)] ++ ([(169, 160, 0), (161, 161, 0), (172, 162, 0), (211, 163, 0), (214, 164, 0), (199, 165, 0), (187, 166, 0), (190, 167, 0), (202, 168, 0), (193, 169, 0), (157, 170, 1), (196, 171, 0)] ++ ([(266, 173, 0), (304, 174, 0), (308, 176, 0), (292, 178, 0), (287, 179, 0), (295, 180, 0), (313, 182, 0), (318, 184, 0), (369, 187, 0), (366, 188, 0), (331, 189, 0), (357, 190, 0)] ++ ([(298, 191, 0), (328, 192, 0), (344, 193, 0), (325, 194, 1), (334, 195, 0), (301, 196, 0), (337, 197, 0), (340, 198, 0), (321, 199, 0), (275, 200, 0), (279, 201, 0), (283, 202, 1)] ++ ([(347, 203, 0), (354, 204, 0), (360, 205, 0), (363, 206, 0), (372, 208, 0), (377, 210, 0), (380, 212, 0), (385, 215, 0), (388, 216, 0), (391, 177, 0), (395, 217, 0), (398, 221, 0)] ++ ([(409, 223, 0), (412, 224, 0), (415, 228, 0), (418, 231, 0), (421, 232, 0), (425, 233, 0), (428, 235, 0), (433, 237, 0), (444, 240, 0), (441, 241, 0), (438, 242, 0), (447, 244, 0)] ++ ([(450, 246, 0), (470, 249, 0), (473, 250, 0), (476, 252, 0)]))))))) : List (Nat × Nat × Nat)), _
  exact List.forall_mem_append.mpr ⟨zML_11_0, List.forall_mem_append.mpr ⟨zML_11_1, List.forall_mem_append.mpr ⟨zML_11_2, List.forall_mem_append.mpr ⟨zML_11_3, List.forall_mem_append.mpr ⟨zML_11_4, List.forall_mem_append.mpr ⟨zML_11_5, List.forall_mem_append.mpr ⟨zML_11_6, zML_11_7⟩⟩⟩⟩⟩⟩⟩
theorem zML_12_0 : ∀ q ∈ ([(9, 0, 2), (13, 9, 0), (18, 11, 0), (23, 12, 0), (28, 33, 0), (32, 46, 0), (36, 47, 0), (41, 49, 0), (45, 51, 0), (147, 54, 0), (49, 58, 0), (53, 76, 0)] : List (Nat × Nat × Nat)), zML_p 12 q := List.forall_mem_cons.mpr ⟨List.mem_of_getElem? (i := 23) (by decide +kernel), List.forall_mem_cons.mpr ⟨List.mem_of_getElem? (i := 329) (by decide +kernel), List.forall_mem_cons.mpr ⟨List.mem_of_getElem? (i := 337) (by decide +kernel), List.forall_mem_cons.mpr ⟨List.mem_of_getElem? (i := 341) (by decide +kernel), List.forall_mem_cons.mpr ⟨List.mem_of_getElem? (i := 515) (by decide +kernel), List.forall_mem_cons.mpr ⟨List.mem_of_getElem? (i := 595) (by decide +kernel), List.forall_mem_cons.mpr ⟨List.mem_of_getElem? (i := 599) (by decide +kernel), List.forall_mem_cons.mpr ⟨List.mem_of_getElem? (i := 606) (by decide +kernel), List.forall_mem_cons.mpr ⟨List.mem_of_getElem? (i := 614) (by decide +kernel), List.forall_mem_cons.mpr ⟨List.mem_of_getElem? (i := 626) (by decide +kernel), List.forall_mem_cons.mpr ⟨List.mem_of_getElem? (i := 644) (by decide +kernel), List.forall_mem_cons.mpr ⟨List.mem_of_getElem? (i := 718) (by decide +kernel), fun _ h => absurd h List.not_mem_nil⟩⟩⟩⟩⟩⟩⟩⟩⟩⟩⟩⟩
theorem zML_12_1 : ∀ q ∈ ([(57, 79, 0), (61, 81, 0), (65, 83, 0), (69, 84, 0), (73, 86, 0), (78, 89, 0), (82, 91, 0), (86, 92, 0), (90, 93, 0), (94, 96, 0), (98, 97, 0), (102, 98, 0)] : List (Nat × Nat × Nat)), zML_p 12 q := List.forall_mem_cons.mpr ⟨List.mem_of_getElem? (i := 729) (by decide +kernel), List.forall_mem_cons.mpr ⟨List.mem_of_getElem? (i := 738) (by decide +kernel), List.forall_mem_cons.mpr ⟨List.mem_of_getElem? (i := 746) (by decide +kernel), List.forall_mem_cons.mpr ⟨List.mem_of_getElem? (i := 750) (by decide +kernel), List.forall_mem_cons.mpr ⟨List.mem_of_getElem? (i := 757) (by decide +kernel), List.forall_mem_cons.mpr ⟨List.mem_of_getElem? (i := 769) (by decide +kernel), List.forall_mem_cons.mpr ⟨List.mem_of_getElem? (i := 777) (by decide +kernel), List.forall_mem_cons.mpr ⟨List.mem_of_getElem? (i := 781) (by decide +kernel), List.forall_mem_cons.mpr ⟨List.mem_of_getElem? (i := 785) (by decide +kernel), List.forall_mem_cons.mpr ⟨List.mem_of_getElem? (i := 797) (by decide +kernel), List.forall_mem_cons.mpr ⟨List.mem_of_getElem? (i := 801) (by decide +kernel), List.forall_mem_cons.mpr ⟨List.mem_of_getElem? (i := 805) (by decide +kernel), fun _ h => absurd h List.not_mem_nil⟩⟩⟩⟩⟩⟩⟩⟩⟩⟩⟩⟩
theorem zML_12_2 : ∀ q ∈ ([(110, 103, 0), (114, 104, 0), (119, 109, 0), (123, 111, 0), (127, 113, 0), (106, 115, 0), (131, 120, 0), (135, 121, 0), (139, 125, 0), (143, 126, 0), (151, 129, 0), (155, 131, 0)] : List (Nat × Nat × Nat)), zML_p 12 q := List.forall_mem_cons.mpr ⟨List.mem_of_getElem? (i := 830) (by decide +kernel), List.forall_mem_cons.mpr ⟨List.mem_of_getElem? (i := 835) (by decide +kernel), List.forall_mem_cons.mpr ⟨List.mem_of_getElem? (i := 853) (by decide +kernel), List.forall_mem_cons.mpr ⟨List.mem_of_getElem? (i := 861) (by decide +kernel), List.forall_mem_cons.mpr ⟨List.mem_of_getElem? (i := 869) (by decide +kernel), List.forall_mem_cons.mpr ⟨List.mem_of_getElem? (i := 877) (by decide +kernel), List.forall_mem_cons.mpr ⟨List.mem_of_getElem? (i := 898) (by decide +kernel), List.forall_mem_cons.mpr ⟨List.mem_of_getElem? (i := 902) (by decide +kernel), List.forall_mem_cons.mpr ⟨List.mem_of_getElem? (i := 917) (by decide +kernel), List.forall_mem_cons.mpr ⟨List.mem_of_getElem? (i := 921) (by decide +kernel), List.forall_mem_cons.mpr ⟨List.mem_of_getElem? (i := 937) (by decide +kernel), List.forall_mem_cons.mpr ⟨List.mem_of_getElem? (i := 946) (by decide +kernel), fun _ h => absurd h List.not_mem_nil⟩⟩⟩⟩⟩⟩⟩⟩⟩⟩⟩⟩
theorem zML_12_3 : ∀ q ∈ ([(12, 132, 2), (17, 133, 0), (22, 135, 0), (31, 136, 0), (27, 172, 0), (35, 175, 0), (40, 177, 0), (44, 181, 0), (48, 183, 0), (72, 185, 0), (52, 186, 0), (56, 207, 0)] : List (Nat × Nat × Nat)), zML_p 12 q := List.forall_mem_cons.mpr ⟨List.mem_of_getElem? (i := 952) (by decide +kernel), List.forall_mem_cons.mpr ⟨List.mem_of_getElem? (i := 1078) (by decide +kernel), List.forall_mem_cons.mpr ⟨List.mem_of_getElem? (i := 1086) (by decide +kernel), List.forall_mem_cons.mpr ⟨List.mem_of_getElem? (i := 1090) (by decide +kernel), List.forall_mem_cons.mpr ⟨List.mem_of_getElem? (i := 1250) (by decide +kernel), List.forall_mem_cons.mpr ⟨List.mem_of_getElem? (i := 1262) (by decide +kernel), List.forall_mem_cons.mpr ⟨List.mem_of_getElem? (i := 1270) (by decide +kernel), List.forall_mem_cons.mpr ⟨List.mem_of_getElem? (i := 1288) (by decide +kernel), List.forall_mem_cons.mpr ⟨List.mem_of_getElem? (i := 1297) (by decide +kernel), List.forall_mem_cons.mpr ⟨List.mem_of_getElem? (i := 1305) (by decide +kernel), List.forall_mem_cons.mpr ⟨List.mem_of_getElem? (i := 1309) (by decide +kernel), List.forall_mem_cons.mpr ⟨List.mem_of_getElem? (i := 1391) (by decide +kernel), fun _ h => absurd h List.not_mem_nil⟩⟩⟩⟩⟩⟩⟩⟩⟩⟩⟩⟩
theorem zML_12_4 : ∀ q ∈ ([(60, 209, 0), (64, 211, 0), (68, 213, 0), (77, 214, 0), (81, 218, 0), (85, 219, 0), (89, 220, 0), (93, 222, 0), (97, 225, 0), (101, 226, 0), (105, 227, 0), (113, 229, 0)] : List (Nat × Nat × Nat)), zML_p 12 q := List.forall_mem_cons.mpr ⟨List.mem_of_getElem? (i := 1400) (by decide +kernel), List.forall_mem_cons.mpr ⟨List.mem_of_getElem? (i := 1408) (by decide +kernel), List.forall_mem_cons.mpr ⟨List.mem_of_getElem? (i := 1416) (by decide +kernel), List.forall_mem_cons.mpr ⟨List.mem_of_getElem? (i := 1420) (by decide +kernel), List.forall_mem_cons.mpr ⟨List.mem_of_getElem? (i := 1438) (by decide +kernel), List.forall_mem_cons.mpr ⟨List.mem_of_getElem? (i := 1442) (by decide +kernel), List.forall_mem_cons.mpr ⟨List.mem_of_getElem? (i := 1446) (by decide +kernel), List.forall_mem_cons.mpr ⟨List.mem_of_getElem? (i := 1454) (by decide +kernel), List.forall_mem_cons.mpr ⟨List.mem_of_getElem? (i := 1467) (by decide +kernel), List.forall_mem_cons.mpr ⟨List.mem_of_getElem? (i := 1471) (by decide +kernel), List.forall_mem_cons.mpr ⟨List.mem_of_getElem? (i := 1475) (by decide +kernel), List.forall_mem_cons.mpr ⟨List.mem_of_getElem? (i := 1483) (by decide +kernel), fun _ h => absurd h List.not_mem_nil⟩⟩⟩⟩⟩⟩⟩⟩⟩⟩⟩⟩
theorem zML_12_5 : ∀ q ∈ ([(118, 230, 0), (122, 234, 0), (126, 236, 0), (130, 238, 0), (109, 239, 0), (134, 243, 0), (138, 245, 0), (142, 247, 0), (146, 248, 0), (150, 251, 0), (154, 253, 0), (158, 254, 0)] : List (Nat × Nat × Nat)), zML_p 12 q := List.forall_mem_cons.mpr ⟨List.mem_of_getElem? (i := 1487) (by decide +kernel), List.forall_mem_cons.mpr ⟨List.mem_of_getElem? (i := 1503) (by decide +kernel), List.forall_mem_cons.mpr ⟨List.mem_of_getElem? (i := 1511) (by decide +kernel), List.forall_mem_cons.mpr ⟨List.mem_of_getElem? (i := 1520) (by decide +kernel), List.forall_mem_cons.mpr ⟨List.mem_of_getElem? (i := 1525) (by decide +kernel), List.forall_mem_cons.mpr ⟨List.mem_of_getElem? (i := 1541) (by decide +kernel), List.forall_mem_cons.mpr ⟨List.mem_of_getElem? (i := 1549) (by decide +kernel), List.forall_mem_cons.mpr ⟨List.mem_of_getElem? (i := 1557) (by decide +kernel), List.forall_mem_cons.mpr ⟨List.mem_of_getElem? (i := 1561) (by decide +kernel), List.forall_mem_cons.mpr ⟨List.mem_of_getElem? (i := 1578) (by decide +kernel), List.forall_mem_cons.mpr ⟨List.mem_of_getElem? (i := 1586) (by decide +kernel), List.forall_mem_cons.mpr ⟨List.mem_of_getElem? (i := 1590) (by decide +kernel), fun _ h => absurd h List.not_mem_nil⟩⟩⟩⟩⟩⟩⟩⟩⟩⟩⟩⟩
theorem zML_12 : ∀ q ∈ zML 12, zML_p 12 q := by
  show ∀ q ∈ ([(9, 0, 2), (13, 9, 0), (18, 11, 0), (23, 12, 0), (28, 33, 0), (32, 46, 0), (36, 47, 0), (41, 49, 0), (45, 51, 0), (147, 54, 0), (49, 58, 0), (53, 76, 0)] ++ ([(57, 79, 0), (61, 81, 0), (65, 83, 0), (69, 84, 0), (73, 86, 0), (78, 89, 0), (82, 91, 0), (86, 92, 0), (90, 93, 0), (94, 96, 0), (98, 97, 0), (102, 98, 0)] ++ ([(110, 103, 0), (114, 104, 0), (119, 109, 0), (123, 111, 0), (127, 113, 0), (106, 115, 0), (131, 120, 0), (135, 121, 0), (139, 125, 0), (143, 126, 0), (151, 129, 0), (155, 131, 0)] ++ ([(12, 132, 2), (17, 133, 0), (22, 135, 0), (31, 136, 0), (27, 172, 0), (35, 175, 0), (40, 177, 0), (44, 181, 0), (48, 183, 0), (72, 185, 0), (52, 186, 0), (56, 207, 0)] ++ ([(60, 209, 0), (64, 211, 0), (68, 213, 0), (77, 214, 0), (81, 218, 0), (85, 219, 0), (89, 220, 0), (93, 222, 0), (97, 225, 0), (101, 226, 0), (105, 227, 0), (113, 229, 0)] ++ ([(118, 230, 0), (122, 234, 0), (126, 236, 0), (130, 238, 0), (109, 239, 0), (134, 243, 0), (138, 245, 0), (142, 247, 0), (146, 248, 0), (150, 251, 0), (154, 253, 0), (158, 254, 0)]))))) : List (Nat × Nat × Nat)), _
  exact List.forall_mem_append.mpr ⟨zML_12_0, List.forall_mem_append.mpr ⟨zML_12_1, List.forall_mem_append.mpr ⟨zML_12_2, List.forall_mem_append.mpr ⟨zML_12_3, List.forall_mem_append.mpr ⟨zML_12_4, zML_12_5⟩⟩⟩⟩⟩
theorem zML_15_0 : ∀ q ∈ ([(304, 16, 1)] : List (Nat × Nat × Nat)), zML_p 15 q := List.forall_mem_cons.mpr ⟨List.mem_of_getElem? (i := 585) (by decide +kernel), fun _ h => absurd h List.not_mem_nil⟩
theorem zML_15 : ∀ q ∈ zML 15, zML_p 15 q := by
  show ∀ q ∈ ([(304, 16, 1)] : List (Nat × Nat × Nat)), _
  exact zML_15_0
theorem zML_ok : ∀ o, ∀ q ∈ zML o, zML_p o q := by
  intro o; unfold zML; split
  · exact zML_0
  · exact zML_1
  · exact zML_2
  · exact zML_3
  · exact zML_4
  · exact zML_5
  · exact zML_6
  · exact zML_7
  · exact zML_8
  · exact zML_9
  · exact zML_10
  · exact zML_11
  · exact zML_12
  · exact zML_15
  · intro q h; cases h
def zOL_p (o : Nat) (q : Nat) : Prop := Cond.methodLink (zRN o) q ⟨"java/lang/Object", "<init>", "()V"⟩ ∈ tables_1
theorem zOL_0_0 : ∀ q ∈ ([3] : List (Nat)), zOL_p 0 q := List.forall_mem_cons.mpr ⟨List.mem_of_getElem? (i := 181) (by decide +kernel), fun _ h => absurd h List.not_mem_nil⟩
theorem zOL_0 : ∀ q ∈ zOL 0, zOL_p 0 q := by
  show ∀ q ∈ ([3] : List (Nat)), _
  exact zOL_0_0
theorem zOL_1_0 : ∀ q ∈ ([3] : List (Nat)), zOL_p 1 q := List.forall_mem_cons.mpr ⟨List.mem_of_getElem? (i := 238) (by decide +kernel), fun _ h => absurd h List.not_mem_nil⟩
theorem zOL_1 : ∀ q ∈ zOL 1, zOL_p 1 q := by
  show ∀ q ∈ ([3] : List (Nat)), _
  exact zOL_1_0
theorem zOL_2_0 : ∀ q ∈ ([3] : List (Nat)), zOL_p 2 q := List.forall_mem_cons.mpr ⟨List.mem_of_getElem? (i := 91) (by decide +kernel), fun _ h => absurd h List.not_mem_nil⟩
theorem zOL_2 : ∀ q ∈ zOL 2, zOL_p 2 q := by
  show ∀ q ∈ ([3] : List (Nat)), _
  exact zOL_2_0
theorem zOL_3_0 : ∀ q ∈ ([3] : List (Nat)), zOL_p 3 q := List.forall_mem_cons.mpr ⟨List.mem_of_getElem? (i := 354) (by decide +kernel), fun _ h => absurd h List.not_mem_nil⟩
theorem zOL_3 : ∀ q ∈ zOL 3, zOL_p 3 q := by
  show ∀ q ∈ ([3] : List (Nat)), _
  exact zOL_3_0
theorem zOL_4_0 : ∀ q ∈ ([3] : List (Nat)), zOL_p 4 q := List.forall_mem_cons.mpr ⟨List.mem_of_getElem? (i := 120) (by decide +kernel), fun _ h => absurd h List.not_mem_nil⟩
theorem zOL_4 : ∀ q ∈ zOL 4, zOL_p 4 q := by
  show ∀ q ∈ ([3] : List (Nat)), _
  exact zOL_4_0
theorem zOL_5_0 : ∀ q ∈ ([3] : List (Nat)), zOL_p 5 q := List.forall_mem_cons.mpr ⟨List.mem_of_getElem? (i := 36) (by decide +kernel), fun _ h => absurd h List.not_mem_nil⟩
theorem zOL_5 : ∀ q ∈ zOL 5, zOL_p 5 q := by
  show ∀ q ∈ ([3] : List (Nat)), _
  exact zOL_5_0
theorem zOL_6_0 : ∀ q ∈ ([3] : List (Nat)), zOL_p 6 q := List.forall_mem_cons.mpr ⟨List.mem_of_getElem? (i := 216) (by decide +kernel), fun _ h => absurd h List.not_mem_nil⟩
theorem zOL_6 : ∀ q ∈ zOL 6, zOL_p 6 q := by
  show ∀ q ∈ ([3] : List (Nat)), _
  exact zOL_6_0
theorem zOL_7_0 : ∀ q ∈ ([1] : List (Nat)), zOL_p 7 q := List.forall_mem_cons.mpr ⟨List.mem_of_getElem? (i := 590) (by decide +kernel), fun _ h => absurd h List.not_mem_nil⟩
theorem zOL_7 : ∀ q ∈ zOL 7, zOL_p 7 q := by
  show ∀ q ∈ ([1] : List (Nat)), _
  exact zOL_7_0
theorem zOL_8_0 : ∀ q ∈ ([7] : List (Nat)), zOL_p 8 q := List.forall_mem_cons.mpr ⟨List.mem_of_getElem? (i := 159) (by decide +kernel), fun _ h => absurd h List.not_mem_nil⟩
theorem zOL_8 : ∀ q ∈ zOL 8, zOL_p 8 q := by
  show ∀ q ∈ ([7] : List (Nat)), _
  exact zOL_8_0
theorem zOL_9_0 : ∀ q ∈ ([3] : List (Nat)), zOL_p 9 q := List.forall_mem_cons.mpr ⟨List.mem_of_getElem? (i := 114) (by decide +kernel), fun _ h => absurd h List.not_mem_nil⟩
theorem zOL_9 : ∀ q ∈ zOL 9, zOL_p 9 q := by
  show ∀ q ∈ ([3] : List (Nat)), _
  exact zOL_9_0
theorem zOL_10_0 : ∀ q ∈ ([1] : List (Nat)), zOL_p 10 q := List.forall_mem_cons.mpr ⟨List.mem_of_getElem? (i := 26) (by decide +kernel), fun _ h => absurd h List.not_mem_nil⟩
theorem zOL_10 : ∀ q ∈ zOL 10, zOL_p 10 q := by
  show ∀ q ∈ ([1] : List (Nat)), _
  exact zOL_10_0
theorem zOL_11_0 : ∀ q ∈ ([1] : List (Nat)), zOL_p 11 q := List.forall_mem_cons.mpr ⟨List.mem_of_getElem? (i := 955) (by decide +kernel), fun _ h => absurd h List.not_mem_nil⟩
theorem zOL_11 : ∀ q ∈ zOL 11, zOL_p 11 q := by
  show ∀ q ∈ ([1] : List (Nat)), _
  exact zOL_11_0
theorem zOL_ok : ∀ o, ∀ q ∈ zOL o, zOL_p o q := by
  intro o; unfold zOL; split
  · exact zOL_0
  · exact zOL_1
  · exact zOL_2
  · exact zOL_3
  · exact zOL_4
  · exact zOL_5
  · exact zOL_6
  · exact zOL_7
  · exact zOL_8
  · exact zOL_9
  · exact zOL_10
  · exact zOL_11
  · intro q h; cases h
def zSL_p (o : Nat) (q : Nat × Nat) : Prop := Cond.methodLink (zRN o) q.1 (if q.2 = 1001 then ⟨"java/lang/String", "length", "()I"⟩ else ⟨"java/lang/String", "charAt", "(I)C"⟩) ∈ tables_1
theorem zSL_4_0 : ∀ q ∈ ([(68, 1001), (73, 1002)] : List (Nat × Nat)), zSL_p 4 q := List.forall_mem_cons.mpr ⟨List.mem_of_getElem? (i := 421) (by decide +kernel), List.forall_mem_cons.mpr ⟨List.mem_of_getElem? (i := 431) (by decide +kernel), fun _ h => absurd h List.not_mem_nil⟩⟩
theorem zSL_4 : ∀ q ∈ zSL 4, zSL_p 4 q := by
  show ∀ q ∈ ([(68, 1001), (73, 1002)] : List (Nat × Nat)), _
  exact zSL_4_0
theorem zSL_ok : ∀ o, ∀ q ∈ zSL o, zSL_p o q := by
  intro o; unfold zSL; split
  · exact zSL_4
  · intro q h; cases h
def zAL_p (o : Nat) (q : Nat) : Prop := Cond.methodLink (zRN o) q arraycopyName ∈ tables_1
theorem zAL_2_0 : ∀ q ∈ ([25] : List (Nat)), zAL_p 2 q := List.forall_mem_cons.mpr ⟨List.mem_of_getElem? (i := 945) (by decide +kernel), fun _ h => absurd h List.not_mem_nil⟩
theorem zAL_2 : ∀ q ∈ zAL 2, zAL_p 2 q := by
  show ∀ q ∈ ([25] : List (Nat)), _
  exact zAL_2_0
theorem zAL_4_0 : ∀ q ∈ ([43] : List (Nat)), zAL_p 4 q := List.forall_mem_cons.mpr ⟨List.mem_of_getElem? (i := 402) (by decide +kernel), fun _ h => absurd h List.not_mem_nil⟩
theorem zAL_4 : ∀ q ∈ zAL 4, zAL_p 4 q := by
  show ∀ q ∈ ([43] : List (Nat)), _
  exact zAL_4_0
theorem zAL_6_0 : ∀ q ∈ ([65] : List (Nat)), zAL_p 6 q := List.forall_mem_cons.mpr ⟨List.mem_of_getElem? (i := 828) (by decide +kernel), fun _ h => absurd h List.not_mem_nil⟩
theorem zAL_6 : ∀ q ∈ zAL 6, zAL_p 6 q := by
  show ∀ q ∈ ([65] : List (Nat)), _
  exact zAL_6_0
theorem zAL_15_0 : ∀ q ∈ ([150] : List (Nat)), zAL_p 15 q := List.forall_mem_cons.mpr ⟨List.mem_of_getElem? (i := 586) (by decide +kernel), fun _ h => absurd h List.not_mem_nil⟩
theorem zAL_15 : ∀ q ∈ zAL 15, zAL_p 15 q := by
  show ∀ q ∈ ([150] : List (Nat)), _
  exact zAL_15_0
theorem zAL_ok : ∀ o, ∀ q ∈ zAL o, zAL_p o q := by
  intro o; unfold zAL; split
  · exact zAL_2
  · exact zAL_4
  · exact zAL_6
  · exact zAL_15
  · intro q h; cases h
def zCL_p (o : Nat) (q : Nat × Nat) : Prop := Cond.classLink (zRN o) q.1 (zRX q.2) ∈ tables_1
theorem zCL_1_0 : ∀ q ∈ ([(26, 5), (33, 2)] : List (Nat × Nat)), zCL_p 1 q := List.forall_mem_cons.mpr ⟨List.mem_of_getElem? (i := 239) (by decide +kernel), List.forall_mem_cons.mpr ⟨List.mem_of_getElem? (i := 241) (by decide +kernel), fun _ h => absurd h List.not_mem_nil⟩⟩
theorem zCL_1 : ∀ q ∈ zCL 1, zCL_p 1 q := by
  show ∀ q ∈ ([(26, 5), (33, 2)] : List (Nat × Nat)), _
  exact zCL_1_0
theorem zCL_3_0 : ∀ q ∈ ([(28, 5)] : List (Nat × Nat)), zCL_p 3 q := List.forall_mem_cons.mpr ⟨List.mem_of_getElem? (i := 355) (by decide +kernel), fun _ h => absurd h List.not_mem_nil⟩
theorem zCL_3 : ∀ q ∈ zCL 3, zCL_p 3 q := by
  show ∀ q ∈ ([(28, 5)] : List (Nat × Nat)), _
  exact zCL_3_0
theorem zCL_6_0 : ∀ q ∈ ([(22, 5)] : List (Nat × Nat)), zCL_p 6 q := List.forall_mem_cons.mpr ⟨List.mem_of_getElem? (i := 217) (by decide +kernel), fun _ h => absurd h List.not_mem_nil⟩
theorem zCL_6 : ∀ q ∈ zCL 6, zCL_p 6 q := by
  show ∀ q ∈ ([(22, 5)] : List (Nat × Nat)), _
  exact zCL_6_0
theorem zCL_8_0 : ∀ q ∈ ([(3, 4), (58, 7)] : List (Nat × Nat)), zCL_p 8 q := List.forall_mem_cons.mpr ⟨List.mem_of_getElem? (i := 160) (by decide +kernel), List.forall_mem_cons.mpr ⟨List.mem_of_getElem? (i := 573) (by decide +kernel), fun _ h => absurd h List.not_mem_nil⟩⟩
theorem zCL_8 : ∀ q ∈ zCL 8, zCL_p 8 q := by
  show ∀ q ∈ ([(3, 4), (58, 7)] : List (Nat × Nat)), _
  exact zCL_8_0
theorem zCL_9_0 : ∀ q ∈ ([(9, 4), (18, 3)] : List (Nat × Nat)), zCL_p 9 q := List.forall_mem_cons.mpr ⟨List.mem_of_getElem? (i := 115) (by decide +kernel), List.forall_mem_cons.mpr ⟨List.mem_of_getElem? (i := 349) (by decide +kernel), fun _ h => absurd h List.not_mem_nil⟩⟩
theorem zCL_9 : ∀ q ∈ zCL 9, zCL_p 9 q := by
  show ∀ q ∈ ([(9, 4), (18, 3)] : List (Nat × Nat)), _
  exact zCL_9_0
theorem zCL_10_0 : ∀ q ∈ ([(17, 7), (30, 5), (43, 2), (50, 1), (66, 9), (73, 8), (80, 0), (87, 6)] : List (Nat × Nat)), zCL_p 10 q := List.forall_mem_cons.mpr ⟨List.mem_of_getElem? (i := 29) (by decide +kernel), List.forall_mem_cons.mpr ⟨List.mem_of_getElem? (i := 31) (by decide +kernel), List.forall_mem_cons.mpr ⟨List.mem_of_getElem? (i := 86) (by decide +kernel), List.forall_mem_cons.mpr ⟨List.mem_of_getElem? (i := 106) (by decide +kernel), List.forall_mem_cons.mpr ⟨List.mem_of_getElem? (i := 109) (by decide +kernel), List.forall_mem_cons.mpr ⟨List.mem_of_getElem? (i := 154) (by decide +kernel), List.forall_mem_cons.mpr ⟨List.mem_of_getElem? (i := 176) (by decide +kernel), List.forall_mem_cons.mpr ⟨List.mem_of_getElem? (i := 211) (by decide +kernel), fun _ h => absurd h List.not_mem_nil⟩⟩⟩⟩⟩⟩⟩⟩
theorem zCL_10 : ∀ q ∈ zCL 10, zCL_p 10 q := by
  show ∀ q ∈ ([(17, 7), (30, 5), (43, 2), (50, 1), (66, 9), (73, 8), (80, 0), (87, 6)] : List (Nat × Nat)), _
  exact zCL_10_0
theorem zCL_12_0 : ∀ q ∈ ([(7, 10), (10, 11)] : List (Nat × Nat)), zCL_p 12 q := List.forall_mem_cons.mpr ⟨List.mem_of_getElem? (i := 21) (by decide +kernel), List.forall_mem_cons.mpr ⟨List.mem_of_getElem? (i := 950) (by decide +kernel), fun _ h => absurd h List.not_mem_nil⟩⟩
theorem zCL_12 : ∀ q ∈ zCL 12, zCL_p 12 q := by
  show ∀ q ∈ ([(7, 10), (10, 11)] : List (Nat × Nat)), _
  exact zCL_12_0
theorem zCL_ok : ∀ o, ∀ q ∈ zCL o, zCL_p o q := by
  intro o; unfold zCL; split
  · exact zCL_1
  · exact zCL_3
  · exact zCL_6
  · exact zCL_8
  · exact zCL_9
  · exact zCL_10
  · exact zCL_12
  · intro q h; cases h
def zCI_p (o : Nat) (q : Nat × Int) : Prop := Cond.constant (zRN o) q.1 (Int32.ofInt q.2) ∈ tables_1
theorem zCI_7_0 : ∀ q ∈ ([(15, 100010), (16, 100000)] : List (Nat × Int)), zCI_p 7 q := List.forall_mem_cons.mpr ⟨List.mem_of_getElem? (i := 682) (by decide +kernel), List.forall_mem_cons.mpr ⟨List.mem_of_getElem? (i := 683) (by decide +kernel), fun _ h => absurd h List.not_mem_nil⟩⟩
theorem zCI_7 : ∀ q ∈ zCI 7, zCI_p 7 q := by
  show ∀ q ∈ ([(15, 100010), (16, 100000)] : List (Nat × Int)), _
  exact zCI_7_0
theorem zCI_8_0 : ∀ q ∈ ([(114, 100000), (75, 100010)] : List (Nat × Int)), zCI_p 8 q := List.forall_mem_cons.mpr ⟨List.mem_of_getElem? (i := 546) (by decide +kernel), List.forall_mem_cons.mpr ⟨List.mem_of_getElem? (i := 555) (by decide +kernel), fun _ h => absurd h List.not_mem_nil⟩⟩
theorem zCI_8 : ∀ q ∈ zCI 8, zCI_p 8 q := by
  show ∀ q ∈ ([(114, 100000), (75, 100010)] : List (Nat × Int)), _
  exact zCI_8_0
theorem zCI_10_0 : ∀ q ∈ ([(349, 65536)] : List (Nat × Int)), zCI_p 10 q := List.forall_mem_cons.mpr ⟨List.mem_of_getElem? (i := 936) (by decide +kernel), fun _ h => absurd h List.not_mem_nil⟩
theorem zCI_10 : ∀ q ∈ zCI 10, zCI_p 10 q := by
  show ∀ q ∈ ([(349, 65536)] : List (Nat × Int)), _
  exact zCI_10_0
theorem zCI_11_0 : ∀ q ∈ ([(165, 99999)] : List (Nat × Int)), zCI_p 11 q := List.forall_mem_cons.mpr ⟨List.mem_of_getElem? (i := 1190) (by decide +kernel), fun _ h => absurd h List.not_mem_nil⟩
theorem zCI_11 : ∀ q ∈ zCI 11, zCI_p 11 q := by
  show ∀ q ∈ ([(165, 99999)] : List (Nat × Int)), _
  exact zCI_11_0
theorem zCI_13_0 : ∀ q ∈ ([(265, 1431655765), (266, 858993459), (267, 252645135)] : List (Nat × Int)), zCI_p 13 q := List.forall_mem_cons.mpr ⟨List.mem_of_getElem? (i := 637) (by decide +kernel), List.forall_mem_cons.mpr ⟨List.mem_of_getElem? (i := 638) (by decide +kernel), List.forall_mem_cons.mpr ⟨List.mem_of_getElem? (i := 639) (by decide +kernel), fun _ h => absurd h List.not_mem_nil⟩⟩⟩
theorem zCI_13 : ∀ q ∈ zCI 13, zCI_p 13 q := by
  show ∀ q ∈ ([(265, 1431655765), (266, 858993459), (267, 252645135)] : List (Nat × Int)), _
  exact zCI_13_0
theorem zCI_ok : ∀ o, ∀ q ∈ zCI o, zCI_p o q := by
  intro o; unfold zCI; split
  · exact zCI_7
  · exact zCI_8
  · exact zCI_10
  · exact zCI_11
  · exact zCI_13
  · intro q h; cases h
def zCJ_p (o : Nat) (q : Nat × Int) : Prop := Cond.constantLong (zRN o) q.1 (Int64.ofInt q.2) ∈ tables_1
theorem zCJ_10_0 : ∀ q ∈ ([(343, 1103515245), (345, 12345), (347, 2147483647)] : List (Nat × Int)), zCJ_p 10 q := List.forall_mem_cons.mpr ⟨List.mem_of_getElem? (i := 933) (by decide +kernel), List.forall_mem_cons.mpr ⟨List.mem_of_getElem? (i := 934) (by decide +kernel), List.forall_mem_cons.mpr ⟨List.mem_of_getElem? (i := 935) (by decide +kernel), fun _ h => absurd h List.not_mem_nil⟩⟩⟩
theorem zCJ_10 : ∀ q ∈ zCJ 10, zCJ_p 10 q := by
  show ∀ q ∈ ([(343, 1103515245), (345, 12345), (347, 2147483647)] : List (Nat × Int)), _
  exact zCJ_10_0
theorem zCJ_11_0 : ∀ q ∈ ([(227, 1936224119), (127, 1919902052), (125, 6513010), (241, 6775152), (246, 26479), (129, 1718969708), (131, 33602627781095015), (133, 108187682958948), (135, 28526), (137, 7300710), (139, 125823037105267), (141, 435778056825)] : List (Nat × Int)), zCJ_p 11 q := List.forall_mem_cons.mpr ⟨List.mem_of_getElem? (i := 1110) (by decide +kernel), List.forall_mem_cons.mpr ⟨List.mem_of_getElem? (i := 1119) (by decide +kernel), List.forall_mem_cons.mpr ⟨List.mem_of_getElem? (i := 1120) (by decide +kernel), List.forall_mem_cons.mpr ⟨List.mem_of_getElem? (i := 1121) (by decide +kernel), List.forall_mem_cons.mpr ⟨List.mem_of_getElem? (i := 1122) (by decide +kernel), List.forall_mem_cons.mpr ⟨List.mem_of_getElem? (i := 1203) (by decide +kernel), List.forall_mem_cons.mpr ⟨List.mem_of_getElem? (i := 1204) (by decide +kernel), List.forall_mem_cons.mpr ⟨List.mem_of_getElem? (i := 1205) (by decide +kernel), List.forall_mem_cons.mpr ⟨List.mem_of_getElem? (i := 1206) (by decide +kernel), List.forall_mem_cons.mpr ⟨List.mem_of_getElem? (i := 1207) (by decide +kernel), List.forall_mem_cons.mpr ⟨List.mem_of_getElem? (i := 1208) (by decide +kernel), List.forall_mem_cons.mpr ⟨List.mem_of_getElem? (i := 1209) (by decide +kernel), fun _ h => absurd h List.not_mem_nil⟩⟩⟩⟩⟩⟩⟩⟩⟩⟩⟩⟩
theorem zCJ_11_1 : ∀ q ∈ ([(143, 1937007984), (209, 26982), (185, 7237492), (205, 6385252), (207, 28530), (290, 5), (311, 3), (316, 2), (375, 20), (383, 100), (407, 40), (431, 9999)] : List (Nat × Int)), zCJ_p 11 q := List.forall_mem_cons.mpr ⟨List.mem_of_getElem? (i := 1210) (by decide +kernel), List.forall_mem_cons.mpr ⟨List.mem_of_getElem? (i := 1211) (by decide +kernel), List.forall_mem_cons.mpr ⟨List.mem_of_getElem? (i := 1224) (by decide +kernel), List.forall_mem_cons.mpr ⟨List.mem_of_getElem? (i := 1248) (by decide +kernel), List.forall_mem_cons.mpr ⟨List.mem_of_getElem? (i := 1249) (by decide +kernel), List.forall_mem_cons.mpr ⟨List.mem_of_getElem? (i := 1282) (by decide +kernel), List.forall_mem_cons.mpr ⟨List.mem_of_getElem? (i := 1283) (by decide +kernel), List.forall_mem_cons.mpr ⟨List.mem_of_getElem? (i := 1296) (by decide +kernel), List.forall_mem_cons.mpr ⟨List.mem_of_getElem? (i := 1399) (by decide +kernel), List.forall_mem_cons.mpr ⟨List.mem_of_getElem? (i := 1424) (by decide +kernel), List.forall_mem_cons.mpr ⟨List.mem_of_getElem? (i := 1458) (by decide +kernel), List.forall_mem_cons.mpr ⟨List.mem_of_getElem? (i := 1515) (by decide +kernel), fun _ h => absurd h List.not_mem_nil⟩⟩⟩⟩⟩⟩⟩⟩⟩⟩⟩⟩
theorem zCJ_11_2 : ∀ q ∈ ([(436, 60), (468, 10), (460, 1103515245), (462, 12345), (464, 2147483648), (466, 65536)] : List (Nat × Int)), zCJ_p 11 q := List.forall_mem_cons.mpr ⟨List.mem_of_getElem? (i := 1524) (by decide +kernel), List.forall_mem_cons.mpr ⟨List.mem_of_getElem? (i := 1565) (by decide +kernel), List.forall_mem_cons.mpr ⟨List.mem_of_getElem? (i := 1570) (by decide +kernel), List.forall_mem_cons.mpr ⟨List.mem_of_getElem? (i := 1571) (by decide +kernel), List.forall_mem_cons.mpr ⟨List.mem_of_getElem? (i := 1572) (by decide +kernel), List.forall_mem_cons.mpr ⟨List.mem_of_getElem? (i := 1573) (by decide +kernel), fun _ h => absurd h List.not_mem_nil⟩⟩⟩⟩⟩⟩
theorem zCJ_11 : ∀ q ∈ zCJ 11, zCJ_p 11 q := by
  show ∀ q ∈ ([(227, 1936224119), (127, 1919902052), (125, 6513010), (241, 6775152), (246, 26479), (129, 1718969708), (131, 33602627781095015), (133, 108187682958948), (135, 28526), (137, 7300710), (139, 125823037105267), (141, 435778056825)] ++ ([(143, 1937007984), (209, 26982), (185, 7237492), (205, 6385252), (207, 28530), (290, 5), (311, 3), (316, 2), (375, 20), (383, 100), (407, 40), (431, 9999)] ++ ([(436, 60), (468, 10), (460, 1103515245), (462, 12345), (464, 2147483648), (466, 65536)])) : List (Nat × Int)), _
  exact List.forall_mem_append.mpr ⟨zCJ_11_0, List.forall_mem_append.mpr ⟨zCJ_11_1, zCJ_11_2⟩⟩
theorem zCJ_ok : ∀ o, ∀ q ∈ zCJ o, zCJ_p o q := by
  intro o; unfold zCJ; split
  · exact zCJ_10
  · exact zCJ_11
  · intro q h; cases h
def zCS_p (o : Nat) (q : Nat × Nat) : Prop := Cond.stringRef (zRN o) q.1 (zTx q.2) ∈ tables_1
theorem zCS_8_0 : ∀ q ∈ ([(82, 3), (108, 5), (40, 4), (89, 1), (87, 2)] : List (Nat × Nat)), zCS_p 8 q := List.forall_mem_cons.mpr ⟨List.mem_of_getElem? (i := 528) (by decide +kernel), List.forall_mem_cons.mpr ⟨List.mem_of_getElem? (i := 540) (by decide +kernel), List.forall_mem_cons.mpr ⟨List.mem_of_getElem? (i := 556) (by decide +kernel), List.forall_mem_cons.mpr ⟨List.mem_of_getElem? (i := 565) (by decide +kernel), List.forall_mem_cons.mpr ⟨List.mem_of_getElem? (i := 572) (by decide +kernel), fun _ h => absurd h List.not_mem_nil⟩⟩⟩⟩⟩
theorem zCS_8 : ∀ q ∈ zCS 8, zCS_p 8 q := by
  show ∀ q ∈ ([(82, 3), (108, 5), (40, 4), (89, 1), (87, 2)] : List (Nat × Nat)), _
  exact zCS_8_0
theorem zCS_9_0 : ∀ q ∈ ([(40, 0)] : List (Nat × Nat)), zCS_p 9 q := List.forall_mem_cons.mpr ⟨List.mem_of_getElem? (i := 416) (by decide +kernel), fun _ h => absurd h List.not_mem_nil⟩
theorem zCS_9 : ∀ q ∈ zCS 9, zCS_p 9 q := by
  show ∀ q ∈ ([(40, 0)] : List (Nat × Nat)), _
  exact zCS_9_0
theorem zCS_ok : ∀ o, ∀ q ∈ zCS o, zCS_p o q := by
  intro o; unfold zCS; split
  · exact zCS_8
  · exact zCS_9
  · intro q h; cases h
