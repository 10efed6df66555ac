-- by program (wip/whole/emit.py): numbers, words of the tables, methods, links
theorem gb_10 : (Int8.ofInt (10)).toInt32 = (nI 10) := by decide
theorem gb_100 : (Int8.ofInt (100)).toInt32 = (nI 100) := by decide
theorem gb_103 : (Int8.ofInt (103)).toInt32 = (nI 103) := by decide
theorem gb_11 : (Int8.ofInt (11)).toInt32 = (nI 11) := by decide
theorem gb_12 : (Int8.ofInt (12)).toInt32 = (nI 12) := by decide
theorem gb_13 : (Int8.ofInt (13)).toInt32 = (nI 13) := by decide
theorem gb_14 : (Int8.ofInt (14)).toInt32 = (nI 14) := by decide
theorem gb_16 : (Int8.ofInt (16)).toInt32 = (nI 16) := by decide
theorem gb_20 : (Int8.ofInt (20)).toInt32 = (nI 20) := by decide
theorem gb_21 : (Int8.ofInt (21)).toInt32 = (nI 21) := by decide
theorem gb_22 : (Int8.ofInt (22)).toInt32 = (nI 22) := by decide
theorem gb_23 : (Int8.ofInt (23)).toInt32 = (nI 23) := by decide
theorem gb_24 : (Int8.ofInt (24)).toInt32 = (nI 24) := by decide
theorem gb_29 : (Int8.ofInt (29)).toInt32 = (nI 29) := by decide
theorem gb_40 : (Int8.ofInt (40)).toInt32 = (nI 40) := by decide
theorem gb_44 : (Int8.ofInt (44)).toInt32 = (nI 44) := by decide
theorem gb_48 : (Int8.ofInt (48)).toInt32 = (nI 48) := by decide
theorem gb_50 : (Int8.ofInt (50)).toInt32 = (nI 50) := by decide
theorem gb_57 : (Int8.ofInt (57)).toInt32 = (nI 57) := by decide
theorem gb_59 : (Int8.ofInt (59)).toInt32 = (nI 59) := by decide
theorem gb_6 : (Int8.ofInt (6)).toInt32 = (nI 6) := by decide
theorem gb_60 : (Int8.ofInt (60)).toInt32 = (nI 60) := by decide
theorem gb_63 : (Int8.ofInt (63)).toInt32 = (nI 63) := by decide
theorem gb_7 : (Int8.ofInt (7)).toInt32 = (nI 7) := by decide
theorem gb_71 : (Int8.ofInt (71)).toInt32 = (nI 71) := by decide
theorem gb_8 : (Int8.ofInt (8)).toInt32 = (nI 8) := by decide
theorem gb_9 : (Int8.ofInt (9)).toInt32 = (nI 9) := by decide
theorem gb_99 : (Int8.ofInt (99)).toInt32 = (nI 99) := by decide
theorem gc_0 : Int32.ofInt (0) = (nI 0) := by decide
theorem gc_1 : Int32.ofInt (1) = (nI 1) := by decide
theorem gc_2 : Int32.ofInt (2) = (nI 2) := by decide
theorem gc_3 : Int32.ofInt (3) = (nI 3) := by decide
theorem gc_4 : Int32.ofInt (4) = (nI 4) := by decide
theorem gc_5 : Int32.ofInt (5) = (nI 5) := by decide
theorem gc_m1 : Int32.ofInt (-1) = (-1 : Int32) := by decide
theorem gl_0 : Int64.ofNat ((0 : Fin 2) : Nat) = lN 0 := by decide
theorem gl_1 : Int64.ofNat ((1 : Fin 2) : Nat) = lN 1 := by decide
theorem gs_1000 : (Int16.ofInt (1000)).toInt32 = (nI 1000) := by decide
theorem gs_1775 : (Int16.ofInt (1775)).toInt32 = (nI 1775) := by decide
theorem gs_1917 : (Int16.ofInt (1917)).toInt32 = (nI 1917) := by decide
theorem gs_1918 : (Int16.ofInt (1918)).toInt32 = (nI 1918) := by decide
theorem gs_1919 : (Int16.ofInt (1919)).toInt32 = (nI 1919) := by decide
theorem gs_255 : (Int16.ofInt (255)).toInt32 = (nI 255) := by decide
theorem gs_720 : (Int16.ofInt (720)).toInt32 = (nI 720) := by decide
theorem gs_999 : (Int16.ofInt (999)).toInt32 = (nI 999) := by decide
def mi_J6_bitCount_0f7a4 : gh_MI := (RJ6, yJ6_bitCount_0f7a4, cJ6_bitCount_0f7a4, 1, some .int)
def mi_J7_fill_53178 : gh_MI := (RJ7, yJ7_fill_53178, cJ7_fill_53178, 4, none)
def mi_X0_keep : gh_MI := (RX0, yX0_keep, cX0_keep, 2, none)
def mi_X0_takeBack : gh_MI := (RX0, yX0_takeBack, cX0_takeBack, 2, none)
def mi_X1_answer : gh_MI := (RX1, yX1_answer, cX1_answer, 5, some .int)
def mi_X1_begins : gh_MI := (RX1, yX1_begins, cX1_begins, 2, none)
def mi_X1_give : gh_MI := (RX1, yX1_give, cX1_give, 7, some .int)
def mi_X1_isOfKind : gh_MI := (RX1, yX1_isOfKind, cX1_isOfKind, 4, some .boolean)
def mi_X2_behind : gh_MI := (RX2, yX2_behind, cX2_behind, 3, some (.object "GhostTrain$Train"))
def mi_X2_commonDivisor : gh_MI := (RX2, yX2_commonDivisor, cX2_commonDivisor, 11, some .long)
def mi_X2_draw : gh_MI := (RX2, yX2_draw, cX2_draw, 4, none)
def mi_X2_fewestOff : gh_MI := (RX2, yX2_fewestOff, cX2_fewestOff, 6, some .int)
def mi_X2_findOrder : gh_MI := (RX2, yX2_findOrder, cX2_findOrder, 9, none)
def mi_X2_firstAllOut : gh_MI := (RX2, yX2_firstAllOut, cX2_firstAllOut, 3, some .int)
def mi_X2_firstTime : gh_MI := (RX2, yX2_firstTime, cX2_firstTime, 5, some .int)
def mi_X2_fittingNerves : gh_MI := (RX2, yX2_fittingNerves, cX2_fittingNerves, 7, some .int)
def mi_X2_fittingTricks : gh_MI := (RX2, yX2_fittingTricks, cX2_fittingTricks, 9, some .int)
def mi_X2_forget : gh_MI := (RX2, yX2_forget, cX2_forget, 1, none)
def mi_X2_hasCome : gh_MI := (RX2, yX2_hasCome, cX2_hasCome, 4, some .boolean)
def mi_X2_hear : gh_MI := (RX2, yX2_hear, cX2_hear, 4, none)
def mi_X2_isAsTold : gh_MI := (RX2, yX2_isAsTold, cX2_isAsTold, 3, some .boolean)
def mi_X2_isCalm : gh_MI := (RX2, yX2_isCalm, cX2_isCalm, 4, some .boolean)
def mi_X2_leastNerve : gh_MI := (RX2, yX2_leastNerve, cX2_leastNerve, 5, some .int)
def mi_X2_listWaitingFirst : gh_MI := (RX2, yX2_listWaitingFirst, cX2_listWaitingFirst, 5, some .int)
def mi_X2_mergeBest : gh_MI := (RX2, yX2_mergeBest, cX2_mergeBest, 6, none)
def mi_X2_mostAt : gh_MI := (RX2, yX2_mostAt, cX2_mostAt, 8, some .int)
def mi_X2_nextOrder : gh_MI := (RX2, yX2_nextOrder, cX2_nextOrder, 6, some .boolean)
def mi_X2_nightsByDraws : gh_MI := (RX2, yX2_nightsByDraws, cX2_nightsByDraws, 8, some .int)
def mi_X2_power : gh_MI := (RX2, yX2_power, cX2_power, 6, some .long)
def mi_X2_screamsIfFailing : gh_MI := (RX2, yX2_screamsIfFailing, cX2_screamsIfFailing, 15, some .long)
def mi_X2_swapTried : gh_MI := (RX2, yX2_swapTried, cX2_swapTried, 4, none)
def mi_X2_switchOffForFewest : gh_MI := (RX2, yX2_switchOffForFewest, cX2_switchOffForFewest, 5, none)
def mi_X2_switchOnForMost : gh_MI := (RX2, yX2_switchOnForMost, cX2_switchOnForMost, 5, none)
def mi_X2_switchingByTurns : gh_MI := (RX2, yX2_switchingByTurns, cX2_switchingByTurns, 6, some .int)
def mi_X3_begin : gh_MI := (RX3, yX3_begin, cX3_begin, 3, none)
def mi_X3_cut : gh_MI := (RX3, yX3_cut, cX3_cut, 2, some .int)
def mi_X3_holds : gh_MI := (RX3, yX3_holds, cX3_holds, 3, some .boolean)
def mi_X4_faulty : gh_MI := (RX4, yX4_faulty, cX4_faulty, 2, some .boolean)
def mi_X4_kindOfLetter : gh_MI := (RX4, yX4_kindOfLetter, cX4_kindOfLetter, 1, some .int)
def mi_X4_next : gh_MI := (RX4, yX4_next, cX4_next, 1, some .int)
def mi_X4_readCars : gh_MI := (RX4, yX4_readCars, cX4_readCars, 6, some .boolean)
def mi_X4_readInto : gh_MI := (RX4, yX4_readInto, cX4_readInto, 2, some .boolean)
def mi_X4_readLaw : gh_MI := (RX4, yX4_readLaw, cX4_readLaw, 2, some .boolean)
def mi_X4_readNumber : gh_MI := (RX4, yX4_readNumber, cX4_readNumber, 6, some .int)
def mi_X4_readSign : gh_MI := (RX4, yX4_readSign, cX4_readSign, 2, some .boolean)
def mi_X4_readTricks : gh_MI := (RX4, yX4_readTricks, cX4_readTricks, 6, some .boolean)
def mi_X5_addCar : gh_MI := (RX5, yX5_addCar, cX5_addCar, 4, none)
def mi_X5_addTrick : gh_MI := (RX5, yX5_addTrick, cX5_addTrick, 4, none)
def mi_X5_allFear : gh_MI := (RX5, yX5_allFear, cX5_allFear, 1, some .int)
def mi_X5_allMet : gh_MI := (RX5, yX5_allMet, cX5_allMet, 1, some .int)
def mi_X5_allOut : gh_MI := (RX5, yX5_allOut, cX5_allOut, 2, some .boolean)
def mi_X5_allScreams : gh_MI := (RX5, yX5_allScreams, cX5_allScreams, 1, some .int)
def mi_X5_bitsBetween : gh_MI := (RX5, yX5_bitsBetween, cX5_bitsBetween, 5, some .int)
def mi_X5_bitsOn : gh_MI := (RX5, yX5_bitsOn, cX5_bitsOn, 3, some .int)
def mi_X5_bitsOut : gh_MI := (RX5, yX5_bitsOut, cX5_bitsOut, 1, some .int)
def mi_X5_bitsRunning : gh_MI := (RX5, yX5_bitsRunning, cX5_bitsRunning, 1, some .int)
def mi_X5_bitsWaiting : gh_MI := (RX5, yX5_bitsWaiting, cX5_bitsWaiting, 1, some .int)
def mi_X5_clear : gh_MI := (RX5, yX5_clear, cX5_clear, 1, none)
def mi_X5_comeInto : gh_MI := (RX5, yX5_comeInto, cX5_comeInto, 4, none)
def mi_X5_copyFrom : gh_MI := (RX5, yX5_copyFrom, cX5_copyFrom, 2, none)
def mi_X5_fright : gh_MI := (RX5, yX5_fright, cX5_fright, 4, some .int)
def mi_X5_goAgain : gh_MI := (RX5, yX5_goAgain, cX5_goAgain, 2, none)
def mi_X5_goOn : gh_MI := (RX5, yX5_goOn, cX5_goOn, 5, none)
def mi_X5_letIn : gh_MI := (RX5, yX5_letIn, cX5_letIn, 3, none)
def mi_X5_ridersOf : gh_MI := (RX5, yX5_ridersOf, cX5_ridersOf, 4, some .int)
def mi_X5_setsWith : gh_MI := (RX5, yX5_setsWith, cX5_setsWith, 8, some .int)
def mi_X5_sum : gh_MI := (RX5, yX5_sum, cX5_sum, 4, some .int)
def mi_X5_switchTo : gh_MI := (RX5, yX5_switchTo, cX5_switchTo, 3, none)
def mi_X5_takings : gh_MI := (RX5, yX5_takings, cX5_takings, 7, some .int)
def mi_X5_tickOn : gh_MI := (RX5, yX5_tickOn, cX5_tickOn, 2, none)
def mi_X5_tickOnFor : gh_MI := (RX5, yX5_tickOnFor, cX5_tickOnFor, 3, none)
def mi_X5_tricksIn : gh_MI := (RX5, yX5_tricksIn, cX5_tricksIn, 4, some .int)
def mi_X6_again : gh_MI := (RX6, yX6_again, cX6_again, 2, some .int)
def mi_X6_ahead : gh_MI := (RX6, yX6_ahead, cX6_ahead, 5, some .int)
def mi_X6_as : gh_MI := (RX6, yX6_as, cX6_as, 3, some .int)
def mi_X6_ask : gh_MI := (RX6, yX6_ask, cX6_ask, 3, some .int)
def mi_X6_bears : gh_MI := (RX6, yX6_bears, cX6_bears, 3, some .int)
def mi_X6_becomes : gh_MI := (RX6, yX6_becomes, cX6_becomes, 2, none)
def mi_X6_beginAct : gh_MI := (RX6, yX6_beginAct, cX6_beginAct, 1, none)
def mi_X6_byTurns : gh_MI := (RX6, yX6_byTurns, cX6_byTurns, 3, some .int)
def mi_X6_calm : gh_MI := (RX6, yX6_calm, cX6_calm, 4, some .int)
def mi_X6_car : gh_MI := (RX6, yX6_car, cX6_car, 3, some .int)
def mi_X6_cell : gh_MI := (RX6, yX6_cell, cX6_cell, 3, some .int)
def mi_X6_copy : gh_MI := (RX6, yX6_copy, cX6_copy, 8, some .int)
def mi_X6_count : gh_MI := (RX6, yX6_count, cX6_count, 2, some .int)
def mi_X6_drawn : gh_MI := (RX6, yX6_drawn, cX6_drawn, 4, some .int)
def mi_X6_drop : gh_MI := (RX6, yX6_drop, cX6_drop, 2, some .int)
def mi_X6_fails : gh_MI := (RX6, yX6_fails, cX6_fails, 5, some .long)
def mi_X6_fault : gh_MI := (RX6, yX6_fault, cX6_fault, 1, some .int)
def mi_X6_feed : gh_MI := (RX6, yX6_feed, cX6_feed, 2, some .int)
def mi_X6_findingIn : gh_MI := (RX6, yX6_findingIn, cX6_findingIn, 3, some .int)
def mi_X6_fine : gh_MI := (RX6, yX6_fine, cX6_fine, 2, some .int)
def mi_X6_flip : gh_MI := (RX6, yX6_flip, cX6_flip, 2, some .int)
def mi_X6_found : gh_MI := (RX6, yX6_found, cX6_found, 2, some .int)
def mi_X6_hasTrain : gh_MI := (RX6, yX6_hasTrain, cX6_hasTrain, 1, some .boolean)
def mi_X6_image : gh_MI := (RX6, yX6_image, cX6_image, 2, some .int)
def mi_X6_isCar : gh_MI := (RX6, yX6_isCar, cX6_isCar, 2, some .boolean)
def mi_X6_isCell : gh_MI := (RX6, yX6_isCell, cX6_isCell, 2, some .boolean)
def mi_X6_isRow : gh_MI := (RX6, yX6_isRow, cX6_isRow, 1, some .boolean)
def mi_X6_isTrick : gh_MI := (RX6, yX6_isTrick, cX6_isTrick, 2, some .boolean)
def mi_X6_kind : gh_MI := (RX6, yX6_kind, cX6_kind, 2, some .int)
def mi_X6_nerve : gh_MI := (RX6, yX6_nerve, cX6_nerve, 4, some .int)
def mi_X6_nerves : gh_MI := (RX6, yX6_nerves, cX6_nerves, 7, some .int)
def mi_X6_oneIf : gh_MI := (RX6, yX6_oneIf, cX6_oneIf, 1, some .int)
def mi_X6_order : gh_MI := (RX6, yX6_order, cX6_order, 3, some .int)
def mi_X6_over : gh_MI := (RX6, yX6_over, cX6_over, 1, some .int)
def mi_X6_place : gh_MI := (RX6, yX6_place, cX6_place, 4, some .int)
def mi_X6_restore : gh_MI := (RX6, yX6_restore, cX6_restore, 2, some .int)
def mi_X6_row : gh_MI := (RX6, yX6_row, cX6_row, 4, some .int)
def mi_X6_rowsThere : gh_MI := (RX6, yX6_rowsThere, cX6_rowsThere, 3, some .int)
def mi_X6_set : gh_MI := (RX6, yX6_set, cX6_set, 5, some .int)
def mi_X6_sets : gh_MI := (RX6, yX6_sets, cX6_sets, 3, some .int)
def mi_X6_share : gh_MI := (RX6, yX6_share, cX6_share, 3, some .int)
def mi_X6_show : gh_MI := (RX6, yX6_show, cX6_show, 4, some .int)
def mi_X6_spot : gh_MI := (RX6, yX6_spot, cX6_spot, 4, some .int)
def mi_X6_stand : gh_MI := (RX6, yX6_stand, cX6_stand, 2, some .int)
def mi_X6_status : gh_MI := (RX6, yX6_status, cX6_status, 1, some .int)
def mi_X6_ticks : gh_MI := (RX6, yX6_ticks, cX6_ticks, 3, some .int)
def mi_X6_trace : gh_MI := (RX6, yX6_trace, cX6_trace, 2, some .int)
def mi_X6_train : gh_MI := (RX6, yX6_train, cX6_train, 2, some .int)
def mi_X6_trick : gh_MI := (RX6, yX6_trick, cX6_trick, 3, some .int)
def mi_X6_undo : gh_MI := (RX6, yX6_undo, cX6_undo, 1, some .int)
def mi_X6_when : gh_MI := (RX6, yX6_when, cX6_when, 3, some .int)
def mi_X6_who : gh_MI := (RX6, yX6_who, cX6_who, 8, some .int)
def mi_X6_within : gh_MI := (RX6, yX6_within, cX6_within, 3, some .boolean)
def mi_X7_again : gh_MI := (RX7, yX7_again, cX7_again, 2, some .int)
def mi_X7_ahead : gh_MI := (RX7, yX7_ahead, cX7_ahead, 4, some .int)
def mi_X7_allMet : gh_MI := (RX7, yX7_allMet, cX7_allMet, 4, some .int)
def mi_X7_allOut : gh_MI := (RX7, yX7_allOut, cX7_allOut, 1, some .boolean)
def mi_X7_allTricks : gh_MI := (RX7, yX7_allTricks, cX7_allTricks, 1, some .int)
def mi_X7_as : gh_MI := (RX7, yX7_as, cX7_as, 5, some .int)
def mi_X7_ask : gh_MI := (RX7, yX7_ask, cX7_ask, 3, some .int)
def mi_X7_bears : gh_MI := (RX7, yX7_bears, cX7_bears, 4, some .int)
def mi_X7_beginTry : gh_MI := (RX7, yX7_beginTry, cX7_beginTry, 1, none)
def mi_X7_begins : gh_MI := (RX7, yX7_begins, cX7_begins, 2, none)
def mi_X7_bits : gh_MI := (RX7, yX7_bits, cX7_bits, 3, some .int)
def mi_X7_body10 : gh_MI := (RX7, yX7_body10, cX7_body10, 2, some .int)
def mi_X7_body11 : gh_MI := (RX7, yX7_body11, cX7_body11, 3, some .int)
def mi_X7_body13 : gh_MI := (RX7, yX7_body13, cX7_body13, 2, some .int)
def mi_X7_body20 : gh_MI := (RX7, yX7_body20, cX7_body20, 2, some .int)
def mi_X7_body21 : gh_MI := (RX7, yX7_body21, cX7_body21, 2, some .int)
def mi_X7_byTurns : gh_MI := (RX7, yX7_byTurns, cX7_byTurns, 5, some .int)
def mi_X7_calm : gh_MI := (RX7, yX7_calm, cX7_calm, 6, some .int)
def mi_X7_car : gh_MI := (RX7, yX7_car, cX7_car, 3, some .int)
def mi_X7_carAt : gh_MI := (RX7, yX7_carAt, cX7_carAt, 2, some .int)
def mi_X7_carIn : gh_MI := (RX7, yX7_carIn, cX7_carIn, 4, some .int)
def mi_X7_carsThat : gh_MI := (RX7, yX7_carsThat, cX7_carsThat, 7, some .int)
def mi_X7_cell : gh_MI := (RX7, yX7_cell, cX7_cell, 3, some .int)
def mi_X7_chosen : gh_MI := (RX7, yX7_chosen, cX7_chosen, 6, some .int)
def mi_X7_comes : gh_MI := (RX7, yX7_comes, cX7_comes, 7, some .boolean)
def mi_X7_copy : gh_MI := (RX7, yX7_copy, cX7_copy, 9, some .int)
def mi_X7_copyRow : gh_MI := (RX7, yX7_copyRow, cX7_copyRow, 4, none)
def mi_X7_count : gh_MI := (RX7, yX7_count, cX7_count, 2, some .int)
def mi_X7_drawn : gh_MI := (RX7, yX7_drawn, cX7_drawn, 8, some .int)
def mi_X7_drop : gh_MI := (RX7, yX7_drop, cX7_drop, 3, some .int)
def mi_X7_fail : gh_MI := (RX7, yX7_fail, cX7_fail, 3, none)
def mi_X7_fails : gh_MI := (RX7, yX7_fails, cX7_fails, 16, some .long)
def mi_X7_fault : gh_MI := (RX7, yX7_fault, cX7_fault, 1, some .int)
def mi_X7_feed : gh_MI := (RX7, yX7_feed, cX7_feed, 2, some .int)
def mi_X7_fine : gh_MI := (RX7, yX7_fine, cX7_fine, 1, some .boolean)
def mi_X7_flip : gh_MI := (RX7, yX7_flip, cX7_flip, 2, some .int)
def mi_X7_found : gh_MI := (RX7, yX7_found, cX7_found, 2, some .int)
def mi_X7_fright : gh_MI := (RX7, yX7_fright, cX7_fright, 7, some .int)
def mi_X7_goOn : gh_MI := (RX7, yX7_goOn, cX7_goOn, 3, none)
def mi_X7_goes : gh_MI := (RX7, yX7_goes, cX7_goes, 6, none)
def mi_X7_goesAgain : gh_MI := (RX7, yX7_goesAgain, cX7_goesAgain, 4, none)
def mi_X7_has : gh_MI := (RX7, yX7_has, cX7_has, 2, some .boolean)
def mi_X7_here : gh_MI := (RX7, yX7_here, cX7_here, 1, some .int)
def mi_X7_image : gh_MI := (RX7, yX7_image, cX7_image, 2, some .int)
def mi_X7_in : gh_MI := (RX7, yX7_in, cX7_in, 3, some .boolean)
def mi_X7_isCar : gh_MI := (RX7, yX7_isCar, cX7_isCar, 2, some .boolean)
def mi_X7_isCell : gh_MI := (RX7, yX7_isCell, cX7_isCell, 2, some .boolean)
def mi_X7_isFigure : gh_MI := (RX7, yX7_isFigure, cX7_isFigure, 2, some .boolean)
def mi_X7_isPart : gh_MI := (RX7, yX7_isPart, cX7_isPart, 4, some .boolean)
def mi_X7_isRow : gh_MI := (RX7, yX7_isRow, cX7_isRow, 1, some .boolean)
def mi_X7_isTold : gh_MI := (RX7, yX7_isTold, cX7_isTold, 7, some .boolean)
def mi_X7_isTrain : gh_MI := (RX7, yX7_isTrain, cX7_isTrain, 1, some .boolean)
def mi_X7_isTrick : gh_MI := (RX7, yX7_isTrick, cX7_isTrick, 2, some .boolean)
def mi_X7_kind : gh_MI := (RX7, yX7_kind, cX7_kind, 2, some .int)
def mi_X7_kindAt : gh_MI := (RX7, yX7_kindAt, cX7_kindAt, 2, some .int)
def mi_X7_kindOf : gh_MI := (RX7, yX7_kindOf, cX7_kindOf, 1, some .int)
def mi_X7_markOf : gh_MI := (RX7, yX7_markOf, cX7_markOf, 3, some .int)
def mi_X7_markOfBones : gh_MI := (RX7, yX7_markOfBones, cX7_markOfBones, 2, some .int)
def mi_X7_metOf : gh_MI := (RX7, yX7_metOf, cX7_metOf, 2, some .int)
def mi_X7_nerve : gh_MI := (RX7, yX7_nerve, cX7_nerve, 4, some .int)
def mi_X7_nerves : gh_MI := (RX7, yX7_nerves, cX7_nerves, 10, some .int)
def mi_X7_nextOrder : gh_MI := (RX7, yX7_nextOrder, cX7_nextOrder, 7, some .boolean)
def mi_X7_noHowls : gh_MI := (RX7, yX7_noHowls, cX7_noHowls, 2, none)
def mi_X7_number : gh_MI := (RX7, yX7_number, cX7_number, 5, some .int)
def mi_X7_onSet : gh_MI := (RX7, yX7_onSet, cX7_onSet, 4, some .int)
def mi_X7_order : gh_MI := (RX7, yX7_order, cX7_order, 7, some .int)
def mi_X7_over : gh_MI := (RX7, yX7_over, cX7_over, 2, some .int)
def mi_X7_place : gh_MI := (RX7, yX7_place, cX7_place, 4, some .int)
def mi_X7_rankByNumbers : gh_MI := (RX7, yX7_rankByNumbers, cX7_rankByNumbers, 2, none)
def mi_X7_readAll : gh_MI := (RX7, yX7_readAll, cX7_readAll, 2, none)
def mi_X7_readCar : gh_MI := (RX7, yX7_readCar, cX7_readCar, 3, none)
def mi_X7_readTrick : gh_MI := (RX7, yX7_readTrick, cX7_readTrick, 3, none)
def mi_X7_remember : gh_MI := (RX7, yX7_remember, cX7_remember, 2, none)
def mi_X7_restore : gh_MI := (RX7, yX7_restore, cX7_restore, 2, some .int)
def mi_X7_ridersOf : gh_MI := (RX7, yX7_ridersOf, cX7_ridersOf, 4, some .int)
def mi_X7_row : gh_MI := (RX7, yX7_row, cX7_row, 5, some .int)
def mi_X7_rowMany : gh_MI := (RX7, yX7_rowMany, cX7_rowMany, 3, some .int)
def mi_X7_runsAlone : gh_MI := (RX7, yX7_runsAlone, cX7_runsAlone, 5, some .boolean)
def mi_X7_set : gh_MI := (RX7, yX7_set, cX7_set, 5, some .int)
def mi_X7_sets : gh_MI := (RX7, yX7_sets, cX7_sets, 7, some .int)
def mi_X7_share : gh_MI := (RX7, yX7_share, cX7_share, 7, some .int)
def mi_X7_show : gh_MI := (RX7, yX7_show, cX7_show, 3, some .int)
def mi_X7_sign : gh_MI := (RX7, yX7_sign, cX7_sign, 2, none)
def mi_X7_sizeOf : gh_MI := (RX7, yX7_sizeOf, cX7_sizeOf, 2, some .int)
def mi_X7_spot : gh_MI := (RX7, yX7_spot, cX7_spot, 8, some .int)
def mi_X7_stand : gh_MI := (RX7, yX7_stand, cX7_stand, 2, some .int)
def mi_X7_status : gh_MI := (RX7, yX7_status, cX7_status, 1, some .int)
def mi_X7_sumOf : gh_MI := (RX7, yX7_sumOf, cX7_sumOf, 5, some .int)
def mi_X7_switchAll : gh_MI := (RX7, yX7_switchAll, cX7_switchAll, 3, none)
def mi_X7_tickAt : gh_MI := (RX7, yX7_tickAt, cX7_tickAt, 5, none)
def mi_X7_ticks : gh_MI := (RX7, yX7_ticks, cX7_ticks, 3, some .int)
def mi_X7_trace : gh_MI := (RX7, yX7_trace, cX7_trace, 2, some .int)
def mi_X7_train : gh_MI := (RX7, yX7_train, cX7_train, 2, some .int)
def mi_X7_trick : gh_MI := (RX7, yX7_trick, cX7_trick, 3, some .int)
def mi_X7_trickAt : gh_MI := (RX7, yX7_trickAt, cX7_trickAt, 2, some .int)
def mi_X7_tricksIn : gh_MI := (RX7, yX7_tricksIn, cX7_tricksIn, 4, some .int)
def mi_X7_undo : gh_MI := (RX7, yX7_undo, cX7_undo, 1, some .int)
def mi_X7_valueOfOrder : gh_MI := (RX7, yX7_valueOfOrder, cX7_valueOfOrder, 3, some .int)
def mi_X7_well : gh_MI := (RX7, yX7_well, cX7_well, 2, some .int)
def mi_X7_when : gh_MI := (RX7, yX7_when, cX7_when, 5, some .int)
def mi_X7_who : gh_MI := (RX7, yX7_who, cX7_who, 12, some .int)
def mi_X7_wrongRow : gh_MI := (RX7, yX7_wrongRow, cX7_wrongRow, 4, some .int)
theorem gh_cl {i : Int32} {n : Nat} (h : vp_in i n) : i.toNatClampNeg < n := Nat.not_le.mp fun q => h (Or.inr q)
theorem tw_1 : Cond.initialized "GhostTrain" ∈ gh_G := List.mem_filter.mpr ⟨List.mem_append_right _ (List.mem_of_getElem? (i := 1) (by decide +kernel)), rfl⟩
theorem tw_2 : Cond.initialized "GhostTrain$Tape" ∈ gh_G := List.mem_filter.mpr ⟨List.mem_append_right _ (List.mem_of_getElem? (i := 2) (by decide +kernel)), rfl⟩
theorem tw_3 : Cond.initialized "GhostTrain$Train" ∈ gh_G := List.mem_filter.mpr ⟨List.mem_append_right _ (List.mem_of_getElem? (i := 3) (by decide +kernel)), rfl⟩
theorem tw_4 : Cond.initialized "GhostTrain$Acts" ∈ gh_G := List.mem_filter.mpr ⟨List.mem_append_right _ (List.mem_of_getElem? (i := 4) (by decide +kernel)), rfl⟩
theorem tw_5 : Cond.initialized "GhostTrain$Foresight" ∈ gh_G := List.mem_filter.mpr ⟨List.mem_append_right _ (List.mem_of_getElem? (i := 5) (by decide +kernel)), rfl⟩
theorem tw_6 : Cond.initialized "GhostTrain$Asker" ∈ gh_G := List.mem_filter.mpr ⟨List.mem_append_right _ (List.mem_of_getElem? (i := 6) (by decide +kernel)), rfl⟩
theorem tw_7 : Cond.initialized "GhostTrain$Row" ∈ gh_G := List.mem_filter.mpr ⟨List.mem_append_right _ (List.mem_of_getElem? (i := 7) (by decide +kernel)), rfl⟩
theorem tw_8 : Cond.initialized "GhostTrainModel" ∈ gh_G := List.mem_filter.mpr ⟨List.mem_append_right _ (List.mem_of_getElem? (i := 8) (by decide +kernel)), rfl⟩
theorem tw_9 : Cond.initialized "java/util/Arrays" ∈ gh_G := List.mem_filter.mpr ⟨List.mem_append_right _ (List.mem_of_getElem? (i := 9) (by decide +kernel)), rfl⟩
theorem tw_10 : Cond.initialized "java/lang/System" ∈ gh_G := List.mem_filter.mpr ⟨List.mem_append_right _ (List.mem_of_getElem? (i := 10) (by decide +kernel)), rfl⟩
theorem tw_11 : Cond.initialized "java/lang/Math" ∈ gh_G := List.mem_filter.mpr ⟨List.mem_append_right _ (List.mem_of_getElem? (i := 11) (by decide +kernel)), rfl⟩
theorem tw_12 : Cond.initialized "java/lang/Integer" ∈ gh_G := List.mem_filter.mpr ⟨List.mem_append_right _ (List.mem_of_getElem? (i := 12) (by decide +kernel)), rfl⟩
theorem tw_29 : Cond.fieldLink "GhostTrain$Tape" 9 "GhostTrain$Tape" "bytes" "[I" ∈ gh_G := List.mem_filter.mpr ⟨List.mem_append_right _ (List.mem_of_getElem? (i := 29) (by decide +kernel)), rfl⟩
theorem tw_30 : Cond.fieldLinkNest "GhostTrain" 108 "GhostTrain$Tape" "bytes" "[I" "GhostTrain" ∈ lw_tbl := List.mem_append_right _ (List.mem_of_getElem? (i := 30) (by decide +kernel))
theorem tw_31 : Cond.fieldLink "GhostTrain$Tape" 63 "GhostTrain$Tape" "size" "I" ∈ gh_G := List.mem_filter.mpr ⟨List.mem_append_right _ (List.mem_of_getElem? (i := 31) (by decide +kernel)), rfl⟩
theorem tw_32 : Cond.fieldLinkNest "GhostTrain" 106 "GhostTrain$Tape" "size" "I" "GhostTrain" ∈ lw_tbl := List.mem_append_right _ (List.mem_of_getElem? (i := 32) (by decide +kernel))
theorem tw_33 : Cond.fieldLink "GhostTrain$Tape" 15 "GhostTrain$Tape" "at" "I" ∈ gh_G := List.mem_filter.mpr ⟨List.mem_append_right _ (List.mem_of_getElem? (i := 33) (by decide +kernel)), rfl⟩
theorem tw_34 : Cond.fieldLinkNest "GhostTrain" 122 "GhostTrain$Tape" "at" "I" "GhostTrain" ∈ lw_tbl := List.mem_append_right _ (List.mem_of_getElem? (i := 34) (by decide +kernel))
theorem tw_35 : Cond.fieldLink "GhostTrain$Tape" 19 "GhostTrain$Tape" "faultNumber" "I" ∈ gh_G := List.mem_filter.mpr ⟨List.mem_append_right _ (List.mem_of_getElem? (i := 35) (by decide +kernel)), rfl⟩
theorem tw_36 : Cond.fieldLinkNest "GhostTrain" 115 "GhostTrain$Tape" "faultNumber" "I" "GhostTrain" ∈ lw_tbl := List.mem_append_right _ (List.mem_of_getElem? (i := 36) (by decide +kernel))
theorem tw_53 : Cond.fieldLink "GhostTrain$Train" 55 "GhostTrain$Train" "cells" "I" ∈ gh_G := List.mem_filter.mpr ⟨List.mem_append_right _ (List.mem_of_getElem? (i := 53) (by decide +kernel)), rfl⟩
theorem tw_54 : Cond.fieldLinkNest "GhostTrain$Tape" 45 "GhostTrain$Train" "cells" "I" "GhostTrain" ∈ lw_tbl := List.mem_append_right _ (List.mem_of_getElem? (i := 54) (by decide +kernel))
theorem tw_55 : Cond.fieldLinkNest "GhostTrain$Foresight" 107 "GhostTrain$Train" "cells" "I" "GhostTrain" ∈ lw_tbl := List.mem_append_right _ (List.mem_of_getElem? (i := 55) (by decide +kernel))
theorem tw_56 : Cond.fieldLinkNest "GhostTrain" 220 "GhostTrain$Train" "cells" "I" "GhostTrain" ∈ lw_tbl := List.mem_append_right _ (List.mem_of_getElem? (i := 56) (by decide +kernel))
theorem tw_57 : Cond.fieldLink "GhostTrain$Train" 59 "GhostTrain$Train" "tricks" "I" ∈ gh_G := List.mem_filter.mpr ⟨List.mem_append_right _ (List.mem_of_getElem? (i := 57) (by decide +kernel)), rfl⟩
theorem tw_58 : Cond.fieldLinkNest "GhostTrain" 129 "GhostTrain$Train" "tricks" "I" "GhostTrain" ∈ lw_tbl := List.mem_append_right _ (List.mem_of_getElem? (i := 58) (by decide +kernel))
theorem tw_59 : Cond.fieldLinkNest "GhostTrain$Foresight" 113 "GhostTrain$Train" "tricks" "I" "GhostTrain" ∈ lw_tbl := List.mem_append_right _ (List.mem_of_getElem? (i := 59) (by decide +kernel))
theorem tw_60 : Cond.fieldLink "GhostTrain$Train" 62 "GhostTrain$Train" "cars" "I" ∈ gh_G := List.mem_filter.mpr ⟨List.mem_append_right _ (List.mem_of_getElem? (i := 60) (by decide +kernel)), rfl⟩
theorem tw_61 : Cond.fieldLinkNest "GhostTrain$Foresight" 97 "GhostTrain$Train" "cars" "I" "GhostTrain" ∈ lw_tbl := List.mem_append_right _ (List.mem_of_getElem? (i := 61) (by decide +kernel))
theorem tw_62 : Cond.fieldLinkNest "GhostTrain" 247 "GhostTrain$Train" "cars" "I" "GhostTrain" ∈ lw_tbl := List.mem_append_right _ (List.mem_of_getElem? (i := 62) (by decide +kernel))
theorem tw_63 : Cond.fieldLink "GhostTrain$Train" 65 "GhostTrain$Train" "tick" "I" ∈ gh_G := List.mem_filter.mpr ⟨List.mem_append_right _ (List.mem_of_getElem? (i := 63) (by decide +kernel)), rfl⟩
theorem tw_64 : Cond.fieldLinkNest "GhostTrain" 146 "GhostTrain$Train" "tick" "I" "GhostTrain" ∈ lw_tbl := List.mem_append_right _ (List.mem_of_getElem? (i := 64) (by decide +kernel))
theorem tw_65 : Cond.fieldLink "GhostTrain$Train" 68 "GhostTrain$Train" "running" "I" ∈ gh_G := List.mem_filter.mpr ⟨List.mem_append_right _ (List.mem_of_getElem? (i := 65) (by decide +kernel)), rfl⟩
theorem tw_66 : Cond.fieldLink "GhostTrain$Train" 9 "GhostTrain$Train" "kind" "[I" ∈ gh_G := List.mem_filter.mpr ⟨List.mem_append_right _ (List.mem_of_getElem? (i := 66) (by decide +kernel)), rfl⟩
theorem tw_67 : Cond.fieldLinkNest "GhostTrain$Asker" 22 "GhostTrain$Train" "kind" "[I" "GhostTrain" ∈ lw_tbl := List.mem_append_right _ (List.mem_of_getElem? (i := 67) (by decide +kernel))
theorem tw_68 : Cond.fieldLinkNest "GhostTrain$Foresight" 159 "GhostTrain$Train" "kind" "[I" "GhostTrain" ∈ lw_tbl := List.mem_append_right _ (List.mem_of_getElem? (i := 68) (by decide +kernel))
theorem tw_69 : Cond.fieldLinkNest "GhostTrain" 313 "GhostTrain$Train" "kind" "[I" "GhostTrain" ∈ lw_tbl := List.mem_append_right _ (List.mem_of_getElem? (i := 69) (by decide +kernel))
theorem tw_70 : Cond.fieldLink "GhostTrain$Train" 15 "GhostTrain$Train" "spot" "[I" ∈ gh_G := List.mem_filter.mpr ⟨List.mem_append_right _ (List.mem_of_getElem? (i := 70) (by decide +kernel)), rfl⟩
theorem tw_71 : Cond.fieldLinkNest "GhostTrain" 165 "GhostTrain$Train" "spot" "[I" "GhostTrain" ∈ lw_tbl := List.mem_append_right _ (List.mem_of_getElem? (i := 71) (by decide +kernel))
theorem tw_72 : Cond.fieldLinkNest "GhostTrain$Foresight" 110 "GhostTrain$Train" "spot" "[I" "GhostTrain" ∈ lw_tbl := List.mem_append_right _ (List.mem_of_getElem? (i := 72) (by decide +kernel))
theorem tw_73 : Cond.fieldLink "GhostTrain$Train" 18 "GhostTrain$Train" "power" "[I" ∈ gh_G := List.mem_filter.mpr ⟨List.mem_append_right _ (List.mem_of_getElem? (i := 73) (by decide +kernel)), rfl⟩
theorem tw_74 : Cond.fieldLinkNest "GhostTrain$Asker" 46 "GhostTrain$Train" "power" "[I" "GhostTrain" ∈ lw_tbl := List.mem_append_right _ (List.mem_of_getElem? (i := 74) (by decide +kernel))
theorem tw_75 : Cond.fieldLinkNest "GhostTrain" 192 "GhostTrain$Train" "power" "[I" "GhostTrain" ∈ lw_tbl := List.mem_append_right _ (List.mem_of_getElem? (i := 75) (by decide +kernel))
theorem tw_76 : Cond.fieldLinkNest "GhostTrain$Foresight" 162 "GhostTrain$Train" "power" "[I" "GhostTrain" ∈ lw_tbl := List.mem_append_right _ (List.mem_of_getElem? (i := 76) (by decide +kernel))
theorem tw_77 : Cond.fieldLink "GhostTrain$Train" 21 "GhostTrain$Train" "on" "[Z" ∈ gh_G := List.mem_filter.mpr ⟨List.mem_append_right _ (List.mem_of_getElem? (i := 77) (by decide +kernel)), rfl⟩
theorem tw_78 : Cond.fieldLinkNest "GhostTrain" 168 "GhostTrain$Train" "on" "[Z" "GhostTrain" ∈ lw_tbl := List.mem_append_right _ (List.mem_of_getElem? (i := 78) (by decide +kernel))
theorem tw_79 : Cond.fieldLink "GhostTrain$Train" 25 "GhostTrain$Train" "met" "[I" ∈ gh_G := List.mem_filter.mpr ⟨List.mem_append_right _ (List.mem_of_getElem? (i := 79) (by decide +kernel)), rfl⟩
theorem tw_80 : Cond.fieldLinkNest "GhostTrain$Asker" 49 "GhostTrain$Train" "met" "[I" "GhostTrain" ∈ lw_tbl := List.mem_append_right _ (List.mem_of_getElem? (i := 80) (by decide +kernel))
theorem tw_81 : Cond.fieldLinkNest "GhostTrain" 195 "GhostTrain$Train" "met" "[I" "GhostTrain" ∈ lw_tbl := List.mem_append_right _ (List.mem_of_getElem? (i := 81) (by decide +kernel))
theorem tw_82 : Cond.fieldLink "GhostTrain$Train" 28 "GhostTrain$Train" "riders" "[I" ∈ gh_G := List.mem_filter.mpr ⟨List.mem_append_right _ (List.mem_of_getElem? (i := 82) (by decide +kernel)), rfl⟩
theorem tw_83 : Cond.fieldLinkNest "GhostTrain" 198 "GhostTrain$Train" "riders" "[I" "GhostTrain" ∈ lw_tbl := List.mem_append_right _ (List.mem_of_getElem? (i := 83) (by decide +kernel))
theorem tw_84 : Cond.fieldLink "GhostTrain$Train" 31 "GhostTrain$Train" "nerve" "[I" ∈ gh_G := List.mem_filter.mpr ⟨List.mem_append_right _ (List.mem_of_getElem? (i := 84) (by decide +kernel)), rfl⟩
theorem tw_85 : Cond.fieldLinkNest "GhostTrain" 179 "GhostTrain$Train" "nerve" "[I" "GhostTrain" ∈ lw_tbl := List.mem_append_right _ (List.mem_of_getElem? (i := 85) (by decide +kernel))
theorem tw_86 : Cond.fieldLinkNest "GhostTrain$Foresight" 123 "GhostTrain$Train" "nerve" "[I" "GhostTrain" ∈ lw_tbl := List.mem_append_right _ (List.mem_of_getElem? (i := 86) (by decide +kernel))
theorem tw_87 : Cond.fieldLink "GhostTrain$Train" 34 "GhostTrain$Train" "pace" "[I" ∈ gh_G := List.mem_filter.mpr ⟨List.mem_append_right _ (List.mem_of_getElem? (i := 87) (by decide +kernel)), rfl⟩
theorem tw_88 : Cond.fieldLinkNest "GhostTrain" 201 "GhostTrain$Train" "pace" "[I" "GhostTrain" ∈ lw_tbl := List.mem_append_right _ (List.mem_of_getElem? (i := 88) (by decide +kernel))
theorem tw_89 : Cond.fieldLink "GhostTrain$Train" 37 "GhostTrain$Train" "where" "[I" ∈ gh_G := List.mem_filter.mpr ⟨List.mem_append_right _ (List.mem_of_getElem? (i := 89) (by decide +kernel)), rfl⟩
theorem tw_90 : Cond.fieldLinkNest "GhostTrain$Foresight" 57 "GhostTrain$Train" "where" "[I" "GhostTrain" ∈ lw_tbl := List.mem_append_right _ (List.mem_of_getElem? (i := 90) (by decide +kernel))
theorem tw_91 : Cond.fieldLinkNest "GhostTrain" 182 "GhostTrain$Train" "where" "[I" "GhostTrain" ∈ lw_tbl := List.mem_append_right _ (List.mem_of_getElem? (i := 91) (by decide +kernel))
theorem tw_92 : Cond.fieldLink "GhostTrain$Train" 40 "GhostTrain$Train" "fear" "[I" ∈ gh_G := List.mem_filter.mpr ⟨List.mem_append_right _ (List.mem_of_getElem? (i := 92) (by decide +kernel)), rfl⟩
theorem tw_93 : Cond.fieldLinkNest "GhostTrain" 204 "GhostTrain$Train" "fear" "[I" "GhostTrain" ∈ lw_tbl := List.mem_append_right _ (List.mem_of_getElem? (i := 93) (by decide +kernel))
theorem tw_94 : Cond.fieldLinkNest "GhostTrain$Foresight" 156 "GhostTrain$Train" "fear" "[I" "GhostTrain" ∈ lw_tbl := List.mem_append_right _ (List.mem_of_getElem? (i := 94) (by decide +kernel))
theorem tw_95 : Cond.fieldLink "GhostTrain$Train" 43 "GhostTrain$Train" "screams" "[I" ∈ gh_G := List.mem_filter.mpr ⟨List.mem_append_right _ (List.mem_of_getElem? (i := 95) (by decide +kernel)), rfl⟩
theorem tw_96 : Cond.fieldLinkNest "GhostTrain$Foresight" 46 "GhostTrain$Train" "screams" "[I" "GhostTrain" ∈ lw_tbl := List.mem_append_right _ (List.mem_of_getElem? (i := 96) (by decide +kernel))
theorem tw_97 : Cond.fieldLinkNest "GhostTrain" 207 "GhostTrain$Train" "screams" "[I" "GhostTrain" ∈ lw_tbl := List.mem_append_right _ (List.mem_of_getElem? (i := 97) (by decide +kernel))
theorem tw_98 : Cond.fieldLink "GhostTrain$Train" 46 "GhostTrain$Train" "halted" "[Z" ∈ gh_G := List.mem_filter.mpr ⟨List.mem_append_right _ (List.mem_of_getElem? (i := 98) (by decide +kernel)), rfl⟩
theorem tw_99 : Cond.fieldLinkNest "GhostTrain" 210 "GhostTrain$Train" "halted" "[Z" "GhostTrain" ∈ lw_tbl := List.mem_append_right _ (List.mem_of_getElem? (i := 99) (by decide +kernel))
theorem tw_100 : Cond.fieldLink "GhostTrain$Train" 49 "GhostTrain$Train" "rank" "[I" ∈ gh_G := List.mem_filter.mpr ⟨List.mem_append_right _ (List.mem_of_getElem? (i := 100) (by decide +kernel)), rfl⟩
theorem tw_101 : Cond.fieldLinkNest "GhostTrain$Foresight" 71 "GhostTrain$Train" "rank" "[I" "GhostTrain" ∈ lw_tbl := List.mem_append_right _ (List.mem_of_getElem? (i := 101) (by decide +kernel))
theorem tw_102 : Cond.fieldLink "GhostTrain$Train" 52 "GhostTrain$Train" "inCell" "[I" ∈ gh_G := List.mem_filter.mpr ⟨List.mem_append_right _ (List.mem_of_getElem? (i := 102) (by decide +kernel)), rfl⟩
theorem tw_103 : Cond.fieldLinkNest "GhostTrain" 213 "GhostTrain$Train" "inCell" "[I" "GhostTrain" ∈ lw_tbl := List.mem_append_right _ (List.mem_of_getElem? (i := 103) (by decide +kernel))
theorem tw_153 : Cond.fieldLink "GhostTrain$Acts" 11 "GhostTrain$Acts" "before" "[LGhostTrain$Train;" ∈ gh_G := List.mem_filter.mpr ⟨List.mem_append_right _ (List.mem_of_getElem? (i := 153) (by decide +kernel)), rfl⟩
theorem tw_154 : Cond.fieldLink "GhostTrain$Acts" 18 "GhostTrain$Acts" "next" "I" ∈ gh_G := List.mem_filter.mpr ⟨List.mem_append_right _ (List.mem_of_getElem? (i := 154) (by decide +kernel)), rfl⟩
theorem tw_155 : Cond.fieldLink "GhostTrain$Acts" 26 "GhostTrain$Acts" "kept" "I" ∈ gh_G := List.mem_filter.mpr ⟨List.mem_append_right _ (List.mem_of_getElem? (i := 155) (by decide +kernel)), rfl⟩
theorem tw_156 : Cond.fieldLinkNest "GhostTrain" 132 "GhostTrain$Acts" "kept" "I" "GhostTrain" ∈ lw_tbl := List.mem_append_right _ (List.mem_of_getElem? (i := 156) (by decide +kernel))
theorem tw_172 : Cond.fieldLink "GhostTrain$Foresight" 12 "GhostTrain$Foresight" "trial" "LGhostTrain$Train;" ∈ gh_G := List.mem_filter.mpr ⟨List.mem_append_right _ (List.mem_of_getElem? (i := 172) (by decide +kernel)), rfl⟩
theorem tw_173 : Cond.fieldLink "GhostTrain$Foresight" 18 "GhostTrain$Foresight" "told" "[I" ∈ gh_G := List.mem_filter.mpr ⟨List.mem_append_right _ (List.mem_of_getElem? (i := 173) (by decide +kernel)), rfl⟩
theorem tw_174 : Cond.fieldLink "GhostTrain$Foresight" 150 "GhostTrain$Foresight" "toldTicks" "I" ∈ gh_G := List.mem_filter.mpr ⟨List.mem_append_right _ (List.mem_of_getElem? (i := 174) (by decide +kernel)), rfl⟩
theorem tw_175 : Cond.fieldLink "GhostTrain$Foresight" 22 "GhostTrain$Foresight" "bestOrder" "[I" ∈ gh_G := List.mem_filter.mpr ⟨List.mem_append_right _ (List.mem_of_getElem? (i := 175) (by decide +kernel)), rfl⟩
theorem tw_176 : Cond.fieldLinkNest "GhostTrain" 257 "GhostTrain$Foresight" "bestOrder" "[I" "GhostTrain" ∈ lw_tbl := List.mem_append_right _ (List.mem_of_getElem? (i := 176) (by decide +kernel))
theorem tw_177 : Cond.fieldLink "GhostTrain$Foresight" 25 "GhostTrain$Foresight" "tried" "[I" ∈ gh_G := List.mem_filter.mpr ⟨List.mem_append_right _ (List.mem_of_getElem? (i := 177) (by decide +kernel)), rfl⟩
theorem tw_178 : Cond.fieldLink "GhostTrain$Foresight" 28 "GhostTrain$Foresight" "best" "[I" ∈ gh_G := List.mem_filter.mpr ⟨List.mem_append_right _ (List.mem_of_getElem? (i := 178) (by decide +kernel)), rfl⟩
theorem tw_179 : Cond.fieldLink "GhostTrain$Foresight" 34 "GhostTrain$Foresight" "orderTicks" "I" ∈ gh_G := List.mem_filter.mpr ⟨List.mem_append_right _ (List.mem_of_getElem? (i := 179) (by decide +kernel)), rfl⟩
theorem tw_180 : Cond.fieldLink "GhostTrain$Foresight" 64 "GhostTrain$Foresight" "orderScreams" "I" ∈ gh_G := List.mem_filter.mpr ⟨List.mem_append_right _ (List.mem_of_getElem? (i := 180) (by decide +kernel)), rfl⟩
theorem tw_181 : Cond.fieldLinkNest "GhostTrain" 254 "GhostTrain$Foresight" "orderScreams" "I" "GhostTrain" ∈ lw_tbl := List.mem_append_right _ (List.mem_of_getElem? (i := 181) (by decide +kernel))
theorem tw_182 : Cond.fieldLink "GhostTrain$Foresight" 31 "GhostTrain$Foresight" "comesOf" "[I" ∈ gh_G := List.mem_filter.mpr ⟨List.mem_append_right _ (List.mem_of_getElem? (i := 182) (by decide +kernel)), rfl⟩
theorem tw_208 : Cond.fieldLink "GhostTrain$Asker" 9 "GhostTrain$Asker" "bodies" "[I" ∈ gh_G := List.mem_filter.mpr ⟨List.mem_append_right _ (List.mem_of_getElem? (i := 208) (by decide +kernel)), rfl⟩
theorem tw_209 : Cond.fieldLinkNest "GhostTrain" 325 "GhostTrain$Asker" "bodies" "[I" "GhostTrain" ∈ lw_tbl := List.mem_append_right _ (List.mem_of_getElem? (i := 209) (by decide +kernel))
theorem tw_210 : Cond.fieldLink "GhostTrain$Asker" 18 "GhostTrain$Asker" "traced" "I" ∈ gh_G := List.mem_filter.mpr ⟨List.mem_append_right _ (List.mem_of_getElem? (i := 210) (by decide +kernel)), rfl⟩
theorem tw_211 : Cond.fieldLinkNest "GhostTrain" 322 "GhostTrain$Asker" "traced" "I" "GhostTrain" ∈ lw_tbl := List.mem_append_right _ (List.mem_of_getElem? (i := 211) (by decide +kernel))
theorem tw_222 : Cond.fieldLink "GhostTrain$Row" 15 "GhostTrain$Row" "there" "Z" ∈ gh_G := List.mem_filter.mpr ⟨List.mem_append_right _ (List.mem_of_getElem? (i := 222) (by decide +kernel)), rfl⟩
theorem tw_223 : Cond.fieldLinkNest "GhostTrain" 78 "GhostTrain$Row" "there" "Z" "GhostTrain" ∈ lw_tbl := List.mem_append_right _ (List.mem_of_getElem? (i := 223) (by decide +kernel))
theorem tw_224 : Cond.fieldLink "GhostTrain$Row" 19 "GhostTrain$Row" "lane" "I" ∈ gh_G := List.mem_filter.mpr ⟨List.mem_append_right _ (List.mem_of_getElem? (i := 224) (by decide +kernel)), rfl⟩
theorem tw_225 : Cond.fieldLinkNest "GhostTrain" 93 "GhostTrain$Row" "lane" "I" "GhostTrain" ∈ lw_tbl := List.mem_append_right _ (List.mem_of_getElem? (i := 225) (by decide +kernel))
theorem tw_226 : Cond.fieldLink "GhostTrain$Row" 23 "GhostTrain$Row" "size" "I" ∈ gh_G := List.mem_filter.mpr ⟨List.mem_append_right _ (List.mem_of_getElem? (i := 226) (by decide +kernel)), rfl⟩
theorem tw_227 : Cond.fieldLinkNest "GhostTrain" 82 "GhostTrain$Row" "size" "I" "GhostTrain" ∈ lw_tbl := List.mem_append_right _ (List.mem_of_getElem? (i := 227) (by decide +kernel))
theorem tw_228 : Cond.fieldLink "GhostTrain$Row" 9 "GhostTrain$Row" "items" "[I" ∈ gh_G := List.mem_filter.mpr ⟨List.mem_append_right _ (List.mem_of_getElem? (i := 228) (by decide +kernel)), rfl⟩
theorem tw_229 : Cond.fieldLinkNest "GhostTrain" 86 "GhostTrain$Row" "items" "[I" "GhostTrain" ∈ lw_tbl := List.mem_append_right _ (List.mem_of_getElem? (i := 229) (by decide +kernel))
theorem tw_230 : Cond.fieldLinkNest "GhostTrain$Foresight" 153 "GhostTrain$Row" "items" "[I" "GhostTrain" ∈ lw_tbl := List.mem_append_right _ (List.mem_of_getElem? (i := 230) (by decide +kernel))
theorem tw_240 : Cond.fieldLink "GhostTrain" 11 "GhostTrain" "rows" "[LGhostTrain$Row;" ∈ gh_G := List.mem_filter.mpr ⟨List.mem_append_right _ (List.mem_of_getElem? (i := 240) (by decide +kernel)), rfl⟩
theorem tw_241 : Cond.fieldLink "GhostTrain" 18 "GhostTrain" "tape" "LGhostTrain$Tape;" ∈ gh_G := List.mem_filter.mpr ⟨List.mem_append_right _ (List.mem_of_getElem? (i := 241) (by decide +kernel)), rfl⟩
theorem tw_242 : Cond.fieldLink "GhostTrain" 25 "GhostTrain" "train" "LGhostTrain$Train;" ∈ gh_G := List.mem_filter.mpr ⟨List.mem_append_right _ (List.mem_of_getElem? (i := 242) (by decide +kernel)), rfl⟩
theorem tw_243 : Cond.fieldLink "GhostTrain" 29 "GhostTrain" "draft" "LGhostTrain$Train;" ∈ gh_G := List.mem_filter.mpr ⟨List.mem_append_right _ (List.mem_of_getElem? (i := 243) (by decide +kernel)), rfl⟩
theorem tw_244 : Cond.fieldLink "GhostTrain" 35 "GhostTrain" "acts" "LGhostTrain$Acts;" ∈ gh_G := List.mem_filter.mpr ⟨List.mem_append_right _ (List.mem_of_getElem? (i := 244) (by decide +kernel)), rfl⟩
theorem tw_245 : Cond.fieldLink "GhostTrain" 39 "GhostTrain" "images" "[LGhostTrain$Train;" ∈ gh_G := List.mem_filter.mpr ⟨List.mem_append_right _ (List.mem_of_getElem? (i := 245) (by decide +kernel)), rfl⟩
theorem tw_246 : Cond.fieldLink "GhostTrain" 46 "GhostTrain" "foresight" "LGhostTrain$Foresight;" ∈ gh_G := List.mem_filter.mpr ⟨List.mem_append_right _ (List.mem_of_getElem? (i := 246) (by decide +kernel)), rfl⟩
theorem tw_247 : Cond.fieldLink "GhostTrain" 53 "GhostTrain" "asker" "LGhostTrain$Asker;" ∈ gh_G := List.mem_filter.mpr ⟨List.mem_append_right _ (List.mem_of_getElem? (i := 247) (by decide +kernel)), rfl⟩
theorem tw_248 : Cond.fieldLink "GhostTrain" 118 "GhostTrain" "latestFault" "I" ∈ gh_G := List.mem_filter.mpr ⟨List.mem_append_right _ (List.mem_of_getElem? (i := 248) (by decide +kernel)), rfl⟩
theorem tw_249 : Cond.fieldLink "GhostTrain" 334 "GhostTrain" "latestFinding" "I" ∈ gh_G := List.mem_filter.mpr ⟨List.mem_append_right _ (List.mem_of_getElem? (i := 249) (by decide +kernel)), rfl⟩
theorem tw_272 : Cond.instanceMethod ⟨"GhostTrain", "row", "(III)I"⟩ ∈ gh_G := List.mem_filter.mpr ⟨List.mem_append_right _ (List.mem_of_getElem? (i := 272) (by decide +kernel)), rfl⟩
theorem tw_273 : Cond.selects "GhostTrain" ⟨"GhostTrain", "row", "(III)I"⟩ ⟨"GhostTrain", "row", "(III)I"⟩ ∈ gh_G := List.mem_filter.mpr ⟨List.mem_append_right _ (List.mem_of_getElem? (i := 273) (by decide +kernel)), rfl⟩
theorem tw_274 : Cond.code ⟨"GhostTrain", "row", "(III)I"⟩ cX6_row 4 (some .int) ∈ gh_G := List.mem_filter.mpr ⟨List.mem_append_right _ (List.mem_of_getElem? (i := 274) (by decide +kernel)), rfl⟩
theorem tw_275 : Cond.methodLink "GhostTrain" 58 ⟨"GhostTrain", "isRow", "(I)Z"⟩ ∈ gh_G := List.mem_filter.mpr ⟨List.mem_append_right _ (List.mem_of_getElem? (i := 275) (by decide +kernel)), rfl⟩
theorem tw_276 : Cond.static ⟨"GhostTrain", "isRow", "(I)Z"⟩ ∈ gh_G := List.mem_filter.mpr ⟨List.mem_append_right _ (List.mem_of_getElem? (i := 276) (by decide +kernel)), rfl⟩
theorem tw_277 : Cond.code ⟨"GhostTrain", "isRow", "(I)Z"⟩ cX6_isRow 1 (some .boolean) ∈ gh_G := List.mem_filter.mpr ⟨List.mem_append_right _ (List.mem_of_getElem? (i := 277) (by decide +kernel)), rfl⟩
theorem tw_278 : Cond.methodLink "GhostTrain" 62 ⟨"GhostTrain", "within", "(III)Z"⟩ ∈ gh_G := List.mem_filter.mpr ⟨List.mem_append_right _ (List.mem_of_getElem? (i := 278) (by decide +kernel)), rfl⟩
theorem tw_279 : Cond.static ⟨"GhostTrain", "within", "(III)Z"⟩ ∈ gh_G := List.mem_filter.mpr ⟨List.mem_append_right _ (List.mem_of_getElem? (i := 279) (by decide +kernel)), rfl⟩
theorem tw_280 : Cond.code ⟨"GhostTrain", "within", "(III)Z"⟩ cX6_within 3 (some .boolean) ∈ gh_G := List.mem_filter.mpr ⟨List.mem_append_right _ (List.mem_of_getElem? (i := 280) (by decide +kernel)), rfl⟩
theorem tw_281 : Cond.constant "GhostTrain" 66 (-1000001) ∈ gh_G := List.mem_filter.mpr ⟨List.mem_append_right _ (List.mem_of_getElem? (i := 281) (by decide +kernel)), rfl⟩
theorem tw_282 : Cond.methodLink "GhostTrain" 67 ⟨"GhostTrain", "found", "(I)I"⟩ ∈ gh_G := List.mem_filter.mpr ⟨List.mem_append_right _ (List.mem_of_getElem? (i := 282) (by decide +kernel)), rfl⟩
theorem tw_284 : Cond.instanceMethod ⟨"GhostTrain", "found", "(I)I"⟩ ∈ gh_G := List.mem_filter.mpr ⟨List.mem_append_right _ (List.mem_of_getElem? (i := 284) (by decide +kernel)), rfl⟩
theorem tw_285 : Cond.code ⟨"GhostTrain", "found", "(I)I"⟩ cX6_found 2 (some .int) ∈ gh_G := List.mem_filter.mpr ⟨List.mem_append_right _ (List.mem_of_getElem? (i := 285) (by decide +kernel)), rfl⟩
theorem tw_286 : Cond.constant "GhostTrain" 337 (-1000010) ∈ gh_G := List.mem_filter.mpr ⟨List.mem_append_right _ (List.mem_of_getElem? (i := 286) (by decide +kernel)), rfl⟩
theorem tw_287 : Cond.methodLinkNest "GhostTrain" 71 ⟨"GhostTrain$Row", "begin", "(II)V"⟩ "GhostTrain" ∈ lw_tbl := List.mem_append_right _ (List.mem_of_getElem? (i := 287) (by decide +kernel))
theorem tw_289 : Cond.instanceMethod ⟨"GhostTrain$Row", "begin", "(II)V"⟩ ∈ gh_G := List.mem_filter.mpr ⟨List.mem_append_right _ (List.mem_of_getElem? (i := 289) (by decide +kernel)), rfl⟩
theorem tw_290 : Cond.code ⟨"GhostTrain$Row", "begin", "(II)V"⟩ cX3_begin 3 (none) ∈ gh_G := List.mem_filter.mpr ⟨List.mem_append_right _ (List.mem_of_getElem? (i := 290) (by decide +kernel)), rfl⟩
theorem tw_291 : Cond.methodLink "GhostTrain$Row" 26 ⟨"java/util/Arrays", "fill", "([II)V"⟩ ∈ gh_G := List.mem_filter.mpr ⟨List.mem_append_right _ (List.mem_of_getElem? (i := 291) (by decide +kernel)), rfl⟩
theorem tw_292 : Cond.static ⟨"java/util/Arrays", "fill", "([II)V"⟩ ∈ gh_G := List.mem_filter.mpr ⟨List.mem_append_right _ (List.mem_of_getElem? (i := 292) (by decide +kernel)), rfl⟩
theorem tw_293 : Cond.code ⟨"java/util/Arrays", "fill", "([II)V"⟩ cJ7_fill_53178 4 (none) ∈ gh_G := List.mem_filter.mpr ⟨List.mem_append_right _ (List.mem_of_getElem? (i := 293) (by decide +kernel)), rfl⟩
theorem tw_294 : Cond.methodLink "GhostTrain" 75 ⟨"GhostTrain", "fine", "(I)I"⟩ ∈ gh_G := List.mem_filter.mpr ⟨List.mem_append_right _ (List.mem_of_getElem? (i := 294) (by decide +kernel)), rfl⟩
theorem tw_296 : Cond.instanceMethod ⟨"GhostTrain", "fine", "(I)I"⟩ ∈ gh_G := List.mem_filter.mpr ⟨List.mem_append_right _ (List.mem_of_getElem? (i := 296) (by decide +kernel)), rfl⟩
theorem tw_297 : Cond.code ⟨"GhostTrain", "fine", "(I)I"⟩ cX6_fine 2 (some .int) ∈ gh_G := List.mem_filter.mpr ⟨List.mem_append_right _ (List.mem_of_getElem? (i := 297) (by decide +kernel)), rfl⟩
theorem tw_299 : Cond.instanceMethod ⟨"GhostTrain", "set", "(III)I"⟩ ∈ gh_G := List.mem_filter.mpr ⟨List.mem_append_right _ (List.mem_of_getElem? (i := 299) (by decide +kernel)), rfl⟩
theorem tw_300 : Cond.selects "GhostTrain" ⟨"GhostTrain", "set", "(III)I"⟩ ⟨"GhostTrain", "set", "(III)I"⟩ ∈ gh_G := List.mem_filter.mpr ⟨List.mem_append_right _ (List.mem_of_getElem? (i := 300) (by decide +kernel)), rfl⟩
theorem tw_301 : Cond.code ⟨"GhostTrain", "set", "(III)I"⟩ cX6_set 5 (some .int) ∈ gh_G := List.mem_filter.mpr ⟨List.mem_append_right _ (List.mem_of_getElem? (i := 301) (by decide +kernel)), rfl⟩
theorem tw_302 : Cond.methodLinkNest "GhostTrain" 90 ⟨"GhostTrain$Row", "cut", "(I)I"⟩ "GhostTrain" ∈ lw_tbl := List.mem_append_right _ (List.mem_of_getElem? (i := 302) (by decide +kernel))
theorem tw_304 : Cond.instanceMethod ⟨"GhostTrain$Row", "cut", "(I)I"⟩ ∈ gh_G := List.mem_filter.mpr ⟨List.mem_append_right _ (List.mem_of_getElem? (i := 304) (by decide +kernel)), rfl⟩
theorem tw_305 : Cond.code ⟨"GhostTrain$Row", "cut", "(I)I"⟩ cX3_cut 2 (some .int) ∈ gh_G := List.mem_filter.mpr ⟨List.mem_append_right _ (List.mem_of_getElem? (i := 305) (by decide +kernel)), rfl⟩
theorem tw_307 : Cond.instanceMethod ⟨"GhostTrain", "copy", "(IIIII)I"⟩ ∈ gh_G := List.mem_filter.mpr ⟨List.mem_append_right _ (List.mem_of_getElem? (i := 307) (by decide +kernel)), rfl⟩
theorem tw_308 : Cond.selects "GhostTrain" ⟨"GhostTrain", "copy", "(IIIII)I"⟩ ⟨"GhostTrain", "copy", "(IIIII)I"⟩ ∈ gh_G := List.mem_filter.mpr ⟨List.mem_append_right _ (List.mem_of_getElem? (i := 308) (by decide +kernel)), rfl⟩
theorem tw_309 : Cond.code ⟨"GhostTrain", "copy", "(IIIII)I"⟩ cX6_copy 8 (some .int) ∈ gh_G := List.mem_filter.mpr ⟨List.mem_append_right _ (List.mem_of_getElem? (i := 309) (by decide +kernel)), rfl⟩
theorem tw_310 : Cond.methodLinkNest "GhostTrain" 96 ⟨"GhostTrain$Row", "holds", "(II)Z"⟩ "GhostTrain" ∈ lw_tbl := List.mem_append_right _ (List.mem_of_getElem? (i := 310) (by decide +kernel))
theorem tw_312 : Cond.instanceMethod ⟨"GhostTrain$Row", "holds", "(II)Z"⟩ ∈ gh_G := List.mem_filter.mpr ⟨List.mem_append_right _ (List.mem_of_getElem? (i := 312) (by decide +kernel)), rfl⟩
theorem tw_313 : Cond.code ⟨"GhostTrain$Row", "holds", "(II)Z"⟩ cX3_holds 3 (some .boolean) ∈ gh_G := List.mem_filter.mpr ⟨List.mem_append_right _ (List.mem_of_getElem? (i := 313) (by decide +kernel)), rfl⟩
theorem tw_314 : Cond.methodLink "GhostTrain" 100 ⟨"java/lang/System", "arraycopy", "(Ljava/lang/Object;ILjava/lang/Object;II)V"⟩ ∈ gh_G := List.mem_filter.mpr ⟨List.mem_append_right _ (List.mem_of_getElem? (i := 314) (by decide +kernel)), rfl⟩
theorem tw_315 : Cond.static ⟨"java/lang/System", "arraycopy", "(Ljava/lang/Object;ILjava/lang/Object;II)V"⟩ ∈ gh_G := List.mem_filter.mpr ⟨List.mem_append_right _ (List.mem_of_getElem? (i := 315) (by decide +kernel)), rfl⟩
theorem tw_316 : Cond.native ⟨"java/lang/System", "arraycopy", "(Ljava/lang/Object;ILjava/lang/Object;II)V"⟩ ∈ gh_G := List.mem_filter.mpr ⟨List.mem_append_right _ (List.mem_of_getElem? (i := 316) (by decide +kernel)), rfl⟩
theorem tw_318 : Cond.instanceMethod ⟨"GhostTrain", "drop", "(I)I"⟩ ∈ gh_G := List.mem_filter.mpr ⟨List.mem_append_right _ (List.mem_of_getElem? (i := 318) (by decide +kernel)), rfl⟩
theorem tw_319 : Cond.selects "GhostTrain" ⟨"GhostTrain", "drop", "(I)I"⟩ ⟨"GhostTrain", "drop", "(I)I"⟩ ∈ gh_G := List.mem_filter.mpr ⟨List.mem_append_right _ (List.mem_of_getElem? (i := 319) (by decide +kernel)), rfl⟩
theorem tw_320 : Cond.code ⟨"GhostTrain", "drop", "(I)I"⟩ cX6_drop 2 (some .int) ∈ gh_G := List.mem_filter.mpr ⟨List.mem_append_right _ (List.mem_of_getElem? (i := 320) (by decide +kernel)), rfl⟩
theorem tw_322 : Cond.instanceMethod ⟨"GhostTrain", "feed", "(I)I"⟩ ∈ gh_G := List.mem_filter.mpr ⟨List.mem_append_right _ (List.mem_of_getElem? (i := 322) (by decide +kernel)), rfl⟩
theorem tw_323 : Cond.selects "GhostTrain" ⟨"GhostTrain", "feed", "(I)I"⟩ ⟨"GhostTrain", "feed", "(I)I"⟩ ∈ gh_G := List.mem_filter.mpr ⟨List.mem_append_right _ (List.mem_of_getElem? (i := 323) (by decide +kernel)), rfl⟩
theorem tw_324 : Cond.code ⟨"GhostTrain", "feed", "(I)I"⟩ cX6_feed 2 (some .int) ∈ gh_G := List.mem_filter.mpr ⟨List.mem_append_right _ (List.mem_of_getElem? (i := 324) (by decide +kernel)), rfl⟩
theorem tw_325 : Cond.constant "GhostTrain" 107 (-1000003) ∈ gh_G := List.mem_filter.mpr ⟨List.mem_append_right _ (List.mem_of_getElem? (i := 325) (by decide +kernel)), rfl⟩
theorem tw_327 : Cond.instanceMethod ⟨"GhostTrain", "train", "()I"⟩ ∈ gh_G := List.mem_filter.mpr ⟨List.mem_append_right _ (List.mem_of_getElem? (i := 327) (by decide +kernel)), rfl⟩
theorem tw_328 : Cond.selects "GhostTrain" ⟨"GhostTrain", "train", "()I"⟩ ⟨"GhostTrain", "train", "()I"⟩ ∈ gh_G := List.mem_filter.mpr ⟨List.mem_append_right _ (List.mem_of_getElem? (i := 328) (by decide +kernel)), rfl⟩
theorem tw_329 : Cond.code ⟨"GhostTrain", "train", "()I"⟩ cX6_train 2 (some .int) ∈ gh_G := List.mem_filter.mpr ⟨List.mem_append_right _ (List.mem_of_getElem? (i := 329) (by decide +kernel)), rfl⟩
theorem tw_330 : Cond.methodLinkNest "GhostTrain" 111 ⟨"GhostTrain$Tape", "readInto", "(LGhostTrain$Train;)Z"⟩ "GhostTrain" ∈ lw_tbl := List.mem_append_right _ (List.mem_of_getElem? (i := 330) (by decide +kernel))
theorem tw_332 : Cond.instanceMethod ⟨"GhostTrain$Tape", "readInto", "(LGhostTrain$Train;)Z"⟩ ∈ gh_G := List.mem_filter.mpr ⟨List.mem_append_right _ (List.mem_of_getElem? (i := 332) (by decide +kernel)), rfl⟩
theorem tw_333 : Cond.code ⟨"GhostTrain$Tape", "readInto", "(LGhostTrain$Train;)Z"⟩ cX4_readInto 2 (some .boolean) ∈ gh_G := List.mem_filter.mpr ⟨List.mem_append_right _ (List.mem_of_getElem? (i := 333) (by decide +kernel)), rfl⟩
theorem tw_334 : Cond.methodLinkNest "GhostTrain$Tape" 22 ⟨"GhostTrain$Train", "clear", "()V"⟩ "GhostTrain" ∈ lw_tbl := List.mem_append_right _ (List.mem_of_getElem? (i := 334) (by decide +kernel))
theorem tw_336 : Cond.instanceMethod ⟨"GhostTrain$Train", "clear", "()V"⟩ ∈ gh_G := List.mem_filter.mpr ⟨List.mem_append_right _ (List.mem_of_getElem? (i := 336) (by decide +kernel)), rfl⟩
theorem tw_337 : Cond.code ⟨"GhostTrain$Train", "clear", "()V"⟩ cX5_clear 1 (none) ∈ gh_G := List.mem_filter.mpr ⟨List.mem_append_right _ (List.mem_of_getElem? (i := 337) (by decide +kernel)), rfl⟩
theorem tw_338 : Cond.methodLink "GhostTrain$Train" 71 ⟨"java/util/Arrays", "fill", "([II)V"⟩ ∈ gh_G := List.mem_filter.mpr ⟨List.mem_append_right _ (List.mem_of_getElem? (i := 338) (by decide +kernel)), rfl⟩
theorem tw_339 : Cond.methodLink "GhostTrain$Tape" 27 ⟨"GhostTrain$Tape", "readLaw", "(LGhostTrain$Train;)Z"⟩ ∈ gh_G := List.mem_filter.mpr ⟨List.mem_append_right _ (List.mem_of_getElem? (i := 339) (by decide +kernel)), rfl⟩
theorem tw_341 : Cond.instanceMethod ⟨"GhostTrain$Tape", "readLaw", "(LGhostTrain$Train;)Z"⟩ ∈ gh_G := List.mem_filter.mpr ⟨List.mem_append_right _ (List.mem_of_getElem? (i := 341) (by decide +kernel)), rfl⟩
theorem tw_342 : Cond.code ⟨"GhostTrain$Tape", "readLaw", "(LGhostTrain$Train;)Z"⟩ cX4_readLaw 2 (some .boolean) ∈ gh_G := List.mem_filter.mpr ⟨List.mem_append_right _ (List.mem_of_getElem? (i := 342) (by decide +kernel)), rfl⟩
theorem tw_343 : Cond.methodLink "GhostTrain$Tape" 37 ⟨"GhostTrain$Tape", "readSign", "(I)Z"⟩ ∈ gh_G := List.mem_filter.mpr ⟨List.mem_append_right _ (List.mem_of_getElem? (i := 343) (by decide +kernel)), rfl⟩
theorem tw_345 : Cond.instanceMethod ⟨"GhostTrain$Tape", "readSign", "(I)Z"⟩ ∈ gh_G := List.mem_filter.mpr ⟨List.mem_append_right _ (List.mem_of_getElem? (i := 345) (by decide +kernel)), rfl⟩
theorem tw_346 : Cond.code ⟨"GhostTrain$Tape", "readSign", "(I)Z"⟩ cX4_readSign 2 (some .boolean) ∈ gh_G := List.mem_filter.mpr ⟨List.mem_append_right _ (List.mem_of_getElem? (i := 346) (by decide +kernel)), rfl⟩
theorem tw_347 : Cond.methodLink "GhostTrain$Tape" 48 ⟨"GhostTrain$Tape", "next", "()I"⟩ ∈ gh_G := List.mem_filter.mpr ⟨List.mem_append_right _ (List.mem_of_getElem? (i := 347) (by decide +kernel)), rfl⟩
theorem tw_349 : Cond.instanceMethod ⟨"GhostTrain$Tape", "next", "()I"⟩ ∈ gh_G := List.mem_filter.mpr ⟨List.mem_append_right _ (List.mem_of_getElem? (i := 349) (by decide +kernel)), rfl⟩
theorem tw_350 : Cond.code ⟨"GhostTrain$Tape", "next", "()I"⟩ cX4_next 1 (some .int) ∈ gh_G := List.mem_filter.mpr ⟨List.mem_append_right _ (List.mem_of_getElem? (i := 350) (by decide +kernel)), rfl⟩
theorem tw_351 : Cond.constant "GhostTrain$Tape" 69 (-1000000) ∈ gh_G := List.mem_filter.mpr ⟨List.mem_append_right _ (List.mem_of_getElem? (i := 351) (by decide +kernel)), rfl⟩
theorem tw_352 : Cond.methodLink "GhostTrain$Tape" 56 ⟨"GhostTrain$Tape", "faulty", "(I)Z"⟩ ∈ gh_G := List.mem_filter.mpr ⟨List.mem_append_right _ (List.mem_of_getElem? (i := 352) (by decide +kernel)), rfl⟩
theorem tw_354 : Cond.instanceMethod ⟨"GhostTrain$Tape", "faulty", "(I)Z"⟩ ∈ gh_G := List.mem_filter.mpr ⟨List.mem_append_right _ (List.mem_of_getElem? (i := 354) (by decide +kernel)), rfl⟩
theorem tw_355 : Cond.code ⟨"GhostTrain$Tape", "faulty", "(I)Z"⟩ cX4_faulty 2 (some .boolean) ∈ gh_G := List.mem_filter.mpr ⟨List.mem_append_right _ (List.mem_of_getElem? (i := 355) (by decide +kernel)), rfl⟩
theorem tw_356 : Cond.methodLink "GhostTrain$Tape" 41 ⟨"GhostTrain$Tape", "readNumber", "(II)I"⟩ ∈ gh_G := List.mem_filter.mpr ⟨List.mem_append_right _ (List.mem_of_getElem? (i := 356) (by decide +kernel)), rfl⟩
theorem tw_358 : Cond.instanceMethod ⟨"GhostTrain$Tape", "readNumber", "(II)I"⟩ ∈ gh_G := List.mem_filter.mpr ⟨List.mem_append_right _ (List.mem_of_getElem? (i := 358) (by decide +kernel)), rfl⟩
theorem tw_359 : Cond.code ⟨"GhostTrain$Tape", "readNumber", "(II)I"⟩ cX4_readNumber 6 (some .int) ∈ gh_G := List.mem_filter.mpr ⟨List.mem_append_right _ (List.mem_of_getElem? (i := 359) (by decide +kernel)), rfl⟩
theorem tw_360 : Cond.methodLinkNest "GhostTrain$Tape" 70 ⟨"GhostTrain", "within", "(III)Z"⟩ "GhostTrain" ∈ lw_tbl := List.mem_append_right _ (List.mem_of_getElem? (i := 360) (by decide +kernel))
theorem tw_361 : Cond.methodLink "GhostTrain$Tape" 31 ⟨"GhostTrain$Tape", "readTricks", "(LGhostTrain$Train;)Z"⟩ ∈ gh_G := List.mem_filter.mpr ⟨List.mem_append_right _ (List.mem_of_getElem? (i := 361) (by decide +kernel)), rfl⟩
theorem tw_363 : Cond.instanceMethod ⟨"GhostTrain$Tape", "readTricks", "(LGhostTrain$Train;)Z"⟩ ∈ gh_G := List.mem_filter.mpr ⟨List.mem_append_right _ (List.mem_of_getElem? (i := 363) (by decide +kernel)), rfl⟩
theorem tw_364 : Cond.code ⟨"GhostTrain$Tape", "readTricks", "(LGhostTrain$Train;)Z"⟩ cX4_readTricks 6 (some .boolean) ∈ gh_G := List.mem_filter.mpr ⟨List.mem_append_right _ (List.mem_of_getElem? (i := 364) (by decide +kernel)), rfl⟩
theorem tw_365 : Cond.methodLink "GhostTrain$Tape" 52 ⟨"GhostTrain$Tape", "kindOfLetter", "(I)I"⟩ ∈ gh_G := List.mem_filter.mpr ⟨List.mem_append_right _ (List.mem_of_getElem? (i := 365) (by decide +kernel)), rfl⟩
theorem tw_366 : Cond.static ⟨"GhostTrain$Tape", "kindOfLetter", "(I)I"⟩ ∈ gh_G := List.mem_filter.mpr ⟨List.mem_append_right _ (List.mem_of_getElem? (i := 366) (by decide +kernel)), rfl⟩
theorem tw_367 : Cond.code ⟨"GhostTrain$Tape", "kindOfLetter", "(I)I"⟩ cX4_kindOfLetter 1 (some .int) ∈ gh_G := List.mem_filter.mpr ⟨List.mem_append_right _ (List.mem_of_getElem? (i := 367) (by decide +kernel)), rfl⟩
theorem tw_368 : Cond.methodLinkNest "GhostTrain$Tape" 59 ⟨"GhostTrain$Train", "addTrick", "(III)V"⟩ "GhostTrain" ∈ lw_tbl := List.mem_append_right _ (List.mem_of_getElem? (i := 368) (by decide +kernel))
theorem tw_370 : Cond.instanceMethod ⟨"GhostTrain$Train", "addTrick", "(III)V"⟩ ∈ gh_G := List.mem_filter.mpr ⟨List.mem_append_right _ (List.mem_of_getElem? (i := 370) (by decide +kernel)), rfl⟩
theorem tw_371 : Cond.code ⟨"GhostTrain$Train", "addTrick", "(III)V"⟩ cX5_addTrick 4 (none) ∈ gh_G := List.mem_filter.mpr ⟨List.mem_append_right _ (List.mem_of_getElem? (i := 371) (by decide +kernel)), rfl⟩
theorem tw_372 : Cond.methodLink "GhostTrain$Tape" 34 ⟨"GhostTrain$Tape", "readCars", "(LGhostTrain$Train;)Z"⟩ ∈ gh_G := List.mem_filter.mpr ⟨List.mem_append_right _ (List.mem_of_getElem? (i := 372) (by decide +kernel)), rfl⟩
theorem tw_374 : Cond.instanceMethod ⟨"GhostTrain$Tape", "readCars", "(LGhostTrain$Train;)Z"⟩ ∈ gh_G := List.mem_filter.mpr ⟨List.mem_append_right _ (List.mem_of_getElem? (i := 374) (by decide +kernel)), rfl⟩
theorem tw_375 : Cond.code ⟨"GhostTrain$Tape", "readCars", "(LGhostTrain$Train;)Z"⟩ cX4_readCars 6 (some .boolean) ∈ gh_G := List.mem_filter.mpr ⟨List.mem_append_right _ (List.mem_of_getElem? (i := 375) (by decide +kernel)), rfl⟩
theorem tw_376 : Cond.methodLinkNest "GhostTrain$Tape" 66 ⟨"GhostTrain$Train", "addCar", "(III)V"⟩ "GhostTrain" ∈ lw_tbl := List.mem_append_right _ (List.mem_of_getElem? (i := 376) (by decide +kernel))
theorem tw_378 : Cond.instanceMethod ⟨"GhostTrain$Train", "addCar", "(III)V"⟩ ∈ gh_G := List.mem_filter.mpr ⟨List.mem_append_right _ (List.mem_of_getElem? (i := 378) (by decide +kernel)), rfl⟩
theorem tw_379 : Cond.code ⟨"GhostTrain$Train", "addCar", "(III)V"⟩ cX5_addCar 4 (none) ∈ gh_G := List.mem_filter.mpr ⟨List.mem_append_right _ (List.mem_of_getElem? (i := 379) (by decide +kernel)), rfl⟩
theorem tw_380 : Cond.constant "GhostTrain" 121 (-1000100) ∈ gh_G := List.mem_filter.mpr ⟨List.mem_append_right _ (List.mem_of_getElem? (i := 380) (by decide +kernel)), rfl⟩
theorem tw_381 : Cond.methodLink "GhostTrain" 125 ⟨"GhostTrain", "becomes", "(LGhostTrain$Train;)V"⟩ ∈ gh_G := List.mem_filter.mpr ⟨List.mem_append_right _ (List.mem_of_getElem? (i := 381) (by decide +kernel)), rfl⟩
theorem tw_383 : Cond.instanceMethod ⟨"GhostTrain", "becomes", "(LGhostTrain$Train;)V"⟩ ∈ gh_G := List.mem_filter.mpr ⟨List.mem_append_right _ (List.mem_of_getElem? (i := 383) (by decide +kernel)), rfl⟩
theorem tw_384 : Cond.code ⟨"GhostTrain", "becomes", "(LGhostTrain$Train;)V"⟩ cX6_becomes 2 (none) ∈ gh_G := List.mem_filter.mpr ⟨List.mem_append_right _ (List.mem_of_getElem? (i := 384) (by decide +kernel)), rfl⟩
theorem tw_385 : Cond.methodLinkNest "GhostTrain" 310 ⟨"GhostTrain$Train", "copyFrom", "(LGhostTrain$Train;)V"⟩ "GhostTrain" ∈ lw_tbl := List.mem_append_right _ (List.mem_of_getElem? (i := 385) (by decide +kernel))
theorem tw_387 : Cond.instanceMethod ⟨"GhostTrain$Train", "copyFrom", "(LGhostTrain$Train;)V"⟩ ∈ gh_G := List.mem_filter.mpr ⟨List.mem_append_right _ (List.mem_of_getElem? (i := 387) (by decide +kernel)), rfl⟩
theorem tw_388 : Cond.code ⟨"GhostTrain$Train", "copyFrom", "(LGhostTrain$Train;)V"⟩ cX5_copyFrom 2 (none) ∈ gh_G := List.mem_filter.mpr ⟨List.mem_append_right _ (List.mem_of_getElem? (i := 388) (by decide +kernel)), rfl⟩
theorem tw_389 : Cond.methodLink "GhostTrain$Train" 77 ⟨"java/lang/System", "arraycopy", "(Ljava/lang/Object;ILjava/lang/Object;II)V"⟩ ∈ gh_G := List.mem_filter.mpr ⟨List.mem_append_right _ (List.mem_of_getElem? (i := 389) (by decide +kernel)), rfl⟩
theorem tw_390 : Cond.methodLinkNest "GhostTrain" 139 ⟨"GhostTrain$Foresight", "forget", "()V"⟩ "GhostTrain" ∈ lw_tbl := List.mem_append_right _ (List.mem_of_getElem? (i := 390) (by decide +kernel))
theorem tw_392 : Cond.instanceMethod ⟨"GhostTrain$Foresight", "forget", "()V"⟩ ∈ gh_G := List.mem_filter.mpr ⟨List.mem_append_right _ (List.mem_of_getElem? (i := 392) (by decide +kernel)), rfl⟩
theorem tw_393 : Cond.code ⟨"GhostTrain$Foresight", "forget", "()V"⟩ cX2_forget 1 (none) ∈ gh_G := List.mem_filter.mpr ⟨List.mem_append_right _ (List.mem_of_getElem? (i := 393) (by decide +kernel)), rfl⟩
theorem tw_395 : Cond.instanceMethod ⟨"GhostTrain", "fault", "()I"⟩ ∈ gh_G := List.mem_filter.mpr ⟨List.mem_append_right _ (List.mem_of_getElem? (i := 395) (by decide +kernel)), rfl⟩
theorem tw_396 : Cond.selects "GhostTrain" ⟨"GhostTrain", "fault", "()I"⟩ ⟨"GhostTrain", "fault", "()I"⟩ ∈ gh_G := List.mem_filter.mpr ⟨List.mem_append_right _ (List.mem_of_getElem? (i := 396) (by decide +kernel)), rfl⟩
theorem tw_397 : Cond.code ⟨"GhostTrain", "fault", "()I"⟩ cX6_fault 1 (some .int) ∈ gh_G := List.mem_filter.mpr ⟨List.mem_append_right _ (List.mem_of_getElem? (i := 397) (by decide +kernel)), rfl⟩
theorem tw_399 : Cond.instanceMethod ⟨"GhostTrain", "undo", "()I"⟩ ∈ gh_G := List.mem_filter.mpr ⟨List.mem_append_right _ (List.mem_of_getElem? (i := 399) (by decide +kernel)), rfl⟩
theorem tw_400 : Cond.selects "GhostTrain" ⟨"GhostTrain", "undo", "()I"⟩ ⟨"GhostTrain", "undo", "()I"⟩ ∈ gh_G := List.mem_filter.mpr ⟨List.mem_append_right _ (List.mem_of_getElem? (i := 400) (by decide +kernel)), rfl⟩
theorem tw_401 : Cond.code ⟨"GhostTrain", "undo", "()I"⟩ cX6_undo 1 (some .int) ∈ gh_G := List.mem_filter.mpr ⟨List.mem_append_right _ (List.mem_of_getElem? (i := 401) (by decide +kernel)), rfl⟩
theorem tw_402 : Cond.constant "GhostTrain" 135 (-1000002) ∈ gh_G := List.mem_filter.mpr ⟨List.mem_append_right _ (List.mem_of_getElem? (i := 402) (by decide +kernel)), rfl⟩
theorem tw_403 : Cond.methodLinkNest "GhostTrain" 136 ⟨"GhostTrain$Acts", "takeBack", "(LGhostTrain$Train;)V"⟩ "GhostTrain" ∈ lw_tbl := List.mem_append_right _ (List.mem_of_getElem? (i := 403) (by decide +kernel))
theorem tw_405 : Cond.instanceMethod ⟨"GhostTrain$Acts", "takeBack", "(LGhostTrain$Train;)V"⟩ ∈ gh_G := List.mem_filter.mpr ⟨List.mem_append_right _ (List.mem_of_getElem? (i := 405) (by decide +kernel)), rfl⟩
theorem tw_406 : Cond.code ⟨"GhostTrain$Acts", "takeBack", "(LGhostTrain$Train;)V"⟩ cX0_takeBack 2 (none) ∈ gh_G := List.mem_filter.mpr ⟨List.mem_append_right _ (List.mem_of_getElem? (i := 406) (by decide +kernel)), rfl⟩
theorem tw_407 : Cond.methodLinkNest "GhostTrain$Acts" 22 ⟨"GhostTrain$Train", "copyFrom", "(LGhostTrain$Train;)V"⟩ "GhostTrain" ∈ lw_tbl := List.mem_append_right _ (List.mem_of_getElem? (i := 407) (by decide +kernel))
theorem tw_409 : Cond.instanceMethod ⟨"GhostTrain", "ticks", "(I)I"⟩ ∈ gh_G := List.mem_filter.mpr ⟨List.mem_append_right _ (List.mem_of_getElem? (i := 409) (by decide +kernel)), rfl⟩
theorem tw_410 : Cond.selects "GhostTrain" ⟨"GhostTrain", "ticks", "(I)I"⟩ ⟨"GhostTrain", "ticks", "(I)I"⟩ ∈ gh_G := List.mem_filter.mpr ⟨List.mem_append_right _ (List.mem_of_getElem? (i := 410) (by decide +kernel)), rfl⟩
theorem tw_411 : Cond.code ⟨"GhostTrain", "ticks", "(I)I"⟩ cX6_ticks 3 (some .int) ∈ gh_G := List.mem_filter.mpr ⟨List.mem_append_right _ (List.mem_of_getElem? (i := 411) (by decide +kernel)), rfl⟩
theorem tw_412 : Cond.methodLink "GhostTrain" 142 ⟨"GhostTrain", "hasTrain", "()Z"⟩ ∈ gh_G := List.mem_filter.mpr ⟨List.mem_append_right _ (List.mem_of_getElem? (i := 412) (by decide +kernel)), rfl⟩
theorem tw_414 : Cond.instanceMethod ⟨"GhostTrain", "hasTrain", "()Z"⟩ ∈ gh_G := List.mem_filter.mpr ⟨List.mem_append_right _ (List.mem_of_getElem? (i := 414) (by decide +kernel)), rfl⟩
theorem tw_415 : Cond.code ⟨"GhostTrain", "hasTrain", "()Z"⟩ cX6_hasTrain 1 (some .boolean) ∈ gh_G := List.mem_filter.mpr ⟨List.mem_append_right _ (List.mem_of_getElem? (i := 415) (by decide +kernel)), rfl⟩
theorem tw_416 : Cond.methodLink "GhostTrain" 149 ⟨"GhostTrain", "beginAct", "()V"⟩ ∈ gh_G := List.mem_filter.mpr ⟨List.mem_append_right _ (List.mem_of_getElem? (i := 416) (by decide +kernel)), rfl⟩
theorem tw_418 : Cond.instanceMethod ⟨"GhostTrain", "beginAct", "()V"⟩ ∈ gh_G := List.mem_filter.mpr ⟨List.mem_append_right _ (List.mem_of_getElem? (i := 418) (by decide +kernel)), rfl⟩
theorem tw_419 : Cond.code ⟨"GhostTrain", "beginAct", "()V"⟩ cX6_beginAct 1 (none) ∈ gh_G := List.mem_filter.mpr ⟨List.mem_append_right _ (List.mem_of_getElem? (i := 419) (by decide +kernel)), rfl⟩
theorem tw_420 : Cond.methodLinkNest "GhostTrain" 338 ⟨"GhostTrain$Acts", "keep", "(LGhostTrain$Train;)V"⟩ "GhostTrain" ∈ lw_tbl := List.mem_append_right _ (List.mem_of_getElem? (i := 420) (by decide +kernel))
theorem tw_422 : Cond.instanceMethod ⟨"GhostTrain$Acts", "keep", "(LGhostTrain$Train;)V"⟩ ∈ gh_G := List.mem_filter.mpr ⟨List.mem_append_right _ (List.mem_of_getElem? (i := 422) (by decide +kernel)), rfl⟩
theorem tw_423 : Cond.code ⟨"GhostTrain$Acts", "keep", "(LGhostTrain$Train;)V"⟩ cX0_keep 2 (none) ∈ gh_G := List.mem_filter.mpr ⟨List.mem_append_right _ (List.mem_of_getElem? (i := 423) (by decide +kernel)), rfl⟩
theorem tw_424 : Cond.methodLink "GhostTrain$Acts" 29 ⟨"java/lang/Math", "min", "(II)I"⟩ ∈ gh_G := List.mem_filter.mpr ⟨List.mem_append_right _ (List.mem_of_getElem? (i := 424) (by decide +kernel)), rfl⟩
theorem tw_425 : Cond.static ⟨"java/lang/Math", "min", "(II)I"⟩ ∈ gh_G := List.mem_filter.mpr ⟨List.mem_append_right _ (List.mem_of_getElem? (i := 425) (by decide +kernel)), rfl⟩
theorem tw_426 : Cond.code Lib.Math.min.name Lib.Math.min.code 2 (some .int) ∈ gh_G := List.mem_filter.mpr ⟨List.mem_append_right _ (List.mem_of_getElem? (i := 426) (by decide +kernel)), rfl⟩
theorem tw_427 : Cond.methodLinkNest "GhostTrain" 152 ⟨"GhostTrain$Train", "tickOn", "()V"⟩ "GhostTrain" ∈ lw_tbl := List.mem_append_right _ (List.mem_of_getElem? (i := 427) (by decide +kernel))
theorem tw_429 : Cond.instanceMethod ⟨"GhostTrain$Train", "tickOn", "()V"⟩ ∈ gh_G := List.mem_filter.mpr ⟨List.mem_append_right _ (List.mem_of_getElem? (i := 429) (by decide +kernel)), rfl⟩
theorem tw_430 : Cond.code ⟨"GhostTrain$Train", "tickOn", "()V"⟩ cX5_tickOn 2 (none) ∈ gh_G := List.mem_filter.mpr ⟨List.mem_append_right _ (List.mem_of_getElem? (i := 430) (by decide +kernel)), rfl⟩
theorem tw_431 : Cond.methodLink "GhostTrain$Train" 83 ⟨"GhostTrain$Train", "goOn", "(I)V"⟩ ∈ gh_G := List.mem_filter.mpr ⟨List.mem_append_right _ (List.mem_of_getElem? (i := 431) (by decide +kernel)), rfl⟩
theorem tw_433 : Cond.instanceMethod ⟨"GhostTrain$Train", "goOn", "(I)V"⟩ ∈ gh_G := List.mem_filter.mpr ⟨List.mem_append_right _ (List.mem_of_getElem? (i := 433) (by decide +kernel)), rfl⟩
theorem tw_434 : Cond.code ⟨"GhostTrain$Train", "goOn", "(I)V"⟩ cX5_goOn 5 (none) ∈ gh_G := List.mem_filter.mpr ⟨List.mem_append_right _ (List.mem_of_getElem? (i := 434) (by decide +kernel)), rfl⟩
theorem tw_435 : Cond.methodLink "GhostTrain$Train" 97 ⟨"GhostTrain$Train", "comeInto", "(II)V"⟩ ∈ gh_G := List.mem_filter.mpr ⟨List.mem_append_right _ (List.mem_of_getElem? (i := 435) (by decide +kernel)), rfl⟩
theorem tw_437 : Cond.instanceMethod ⟨"GhostTrain$Train", "comeInto", "(II)V"⟩ ∈ gh_G := List.mem_filter.mpr ⟨List.mem_append_right _ (List.mem_of_getElem? (i := 437) (by decide +kernel)), rfl⟩
theorem tw_438 : Cond.code ⟨"GhostTrain$Train", "comeInto", "(II)V"⟩ cX5_comeInto 4 (none) ∈ gh_G := List.mem_filter.mpr ⟨List.mem_append_right _ (List.mem_of_getElem? (i := 438) (by decide +kernel)), rfl⟩
theorem tw_439 : Cond.methodLink "GhostTrain$Train" 101 ⟨"java/lang/Math", "min", "(II)I"⟩ ∈ gh_G := List.mem_filter.mpr ⟨List.mem_append_right _ (List.mem_of_getElem? (i := 439) (by decide +kernel)), rfl⟩
theorem tw_440 : Cond.methodLink "GhostTrain$Train" 107 ⟨"GhostTrain$Train", "fright", "(II)I"⟩ ∈ gh_G := List.mem_filter.mpr ⟨List.mem_append_right _ (List.mem_of_getElem? (i := 440) (by decide +kernel)), rfl⟩
theorem tw_442 : Cond.instanceMethod ⟨"GhostTrain$Train", "fright", "(II)I"⟩ ∈ gh_G := List.mem_filter.mpr ⟨List.mem_append_right _ (List.mem_of_getElem? (i := 442) (by decide +kernel)), rfl⟩
theorem tw_443 : Cond.code ⟨"GhostTrain$Train", "fright", "(II)I"⟩ cX5_fright 4 (some .int) ∈ gh_G := List.mem_filter.mpr ⟨List.mem_append_right _ (List.mem_of_getElem? (i := 443) (by decide +kernel)), rfl⟩
theorem tw_444 : Cond.methodLink "GhostTrain$Train" 87 ⟨"GhostTrain$Train", "letIn", "()V"⟩ ∈ gh_G := List.mem_filter.mpr ⟨List.mem_append_right _ (List.mem_of_getElem? (i := 444) (by decide +kernel)), rfl⟩
theorem tw_446 : Cond.instanceMethod ⟨"GhostTrain$Train", "letIn", "()V"⟩ ∈ gh_G := List.mem_filter.mpr ⟨List.mem_append_right _ (List.mem_of_getElem? (i := 446) (by decide +kernel)), rfl⟩
theorem tw_447 : Cond.code ⟨"GhostTrain$Train", "letIn", "()V"⟩ cX5_letIn 3 (none) ∈ gh_G := List.mem_filter.mpr ⟨List.mem_append_right _ (List.mem_of_getElem? (i := 447) (by decide +kernel)), rfl⟩
theorem tw_448 : Cond.methodLinkNest "GhostTrain" 155 ⟨"GhostTrain$Train", "bitsOut", "()I"⟩ "GhostTrain" ∈ lw_tbl := List.mem_append_right _ (List.mem_of_getElem? (i := 448) (by decide +kernel))
theorem tw_450 : Cond.instanceMethod ⟨"GhostTrain$Train", "bitsOut", "()I"⟩ ∈ gh_G := List.mem_filter.mpr ⟨List.mem_append_right _ (List.mem_of_getElem? (i := 450) (by decide +kernel)), rfl⟩
theorem tw_451 : Cond.code ⟨"GhostTrain$Train", "bitsOut", "()I"⟩ cX5_bitsOut 1 (some .int) ∈ gh_G := List.mem_filter.mpr ⟨List.mem_append_right _ (List.mem_of_getElem? (i := 451) (by decide +kernel)), rfl⟩
theorem tw_452 : Cond.methodLink "GhostTrain$Train" 110 ⟨"GhostTrain$Train", "bitsBetween", "(II)I"⟩ ∈ gh_G := List.mem_filter.mpr ⟨List.mem_append_right _ (List.mem_of_getElem? (i := 452) (by decide +kernel)), rfl⟩
theorem tw_454 : Cond.instanceMethod ⟨"GhostTrain$Train", "bitsBetween", "(II)I"⟩ ∈ gh_G := List.mem_filter.mpr ⟨List.mem_append_right _ (List.mem_of_getElem? (i := 454) (by decide +kernel)), rfl⟩
theorem tw_455 : Cond.code ⟨"GhostTrain$Train", "bitsBetween", "(II)I"⟩ cX5_bitsBetween 5 (some .int) ∈ gh_G := List.mem_filter.mpr ⟨List.mem_append_right _ (List.mem_of_getElem? (i := 455) (by decide +kernel)), rfl⟩
theorem tw_456 : Cond.methodLinkNest "GhostTrain$Train" 113 ⟨"GhostTrain", "within", "(III)Z"⟩ "GhostTrain" ∈ lw_tbl := List.mem_append_right _ (List.mem_of_getElem? (i := 456) (by decide +kernel))
theorem tw_458 : Cond.instanceMethod ⟨"GhostTrain", "place", "(II)I"⟩ ∈ gh_G := List.mem_filter.mpr ⟨List.mem_append_right _ (List.mem_of_getElem? (i := 458) (by decide +kernel)), rfl⟩
theorem tw_459 : Cond.selects "GhostTrain" ⟨"GhostTrain", "place", "(II)I"⟩ ⟨"GhostTrain", "place", "(II)I"⟩ ∈ gh_G := List.mem_filter.mpr ⟨List.mem_append_right _ (List.mem_of_getElem? (i := 459) (by decide +kernel)), rfl⟩
theorem tw_460 : Cond.code ⟨"GhostTrain", "place", "(II)I"⟩ cX6_place 4 (some .int) ∈ gh_G := List.mem_filter.mpr ⟨List.mem_append_right _ (List.mem_of_getElem? (i := 460) (by decide +kernel)), rfl⟩
theorem tw_461 : Cond.methodLink "GhostTrain" 159 ⟨"GhostTrain", "isTrick", "(I)Z"⟩ ∈ gh_G := List.mem_filter.mpr ⟨List.mem_append_right _ (List.mem_of_getElem? (i := 461) (by decide +kernel)), rfl⟩
theorem tw_463 : Cond.instanceMethod ⟨"GhostTrain", "isTrick", "(I)Z"⟩ ∈ gh_G := List.mem_filter.mpr ⟨List.mem_append_right _ (List.mem_of_getElem? (i := 463) (by decide +kernel)), rfl⟩
theorem tw_464 : Cond.code ⟨"GhostTrain", "isTrick", "(I)Z"⟩ cX6_isTrick 2 (some .boolean) ∈ gh_G := List.mem_filter.mpr ⟨List.mem_append_right _ (List.mem_of_getElem? (i := 464) (by decide +kernel)), rfl⟩
theorem tw_465 : Cond.methodLink "GhostTrain" 162 ⟨"GhostTrain", "isCell", "(I)Z"⟩ ∈ gh_G := List.mem_filter.mpr ⟨List.mem_append_right _ (List.mem_of_getElem? (i := 465) (by decide +kernel)), rfl⟩
theorem tw_467 : Cond.instanceMethod ⟨"GhostTrain", "isCell", "(I)Z"⟩ ∈ gh_G := List.mem_filter.mpr ⟨List.mem_append_right _ (List.mem_of_getElem? (i := 467) (by decide +kernel)), rfl⟩
theorem tw_468 : Cond.code ⟨"GhostTrain", "isCell", "(I)Z"⟩ cX6_isCell 2 (some .boolean) ∈ gh_G := List.mem_filter.mpr ⟨List.mem_append_right _ (List.mem_of_getElem? (i := 468) (by decide +kernel)), rfl⟩
theorem tw_470 : Cond.instanceMethod ⟨"GhostTrain", "flip", "(I)I"⟩ ∈ gh_G := List.mem_filter.mpr ⟨List.mem_append_right _ (List.mem_of_getElem? (i := 470) (by decide +kernel)), rfl⟩
theorem tw_471 : Cond.selects "GhostTrain" ⟨"GhostTrain", "flip", "(I)I"⟩ ⟨"GhostTrain", "flip", "(I)I"⟩ ∈ gh_G := List.mem_filter.mpr ⟨List.mem_append_right _ (List.mem_of_getElem? (i := 471) (by decide +kernel)), rfl⟩
theorem tw_472 : Cond.code ⟨"GhostTrain", "flip", "(I)I"⟩ cX6_flip 2 (some .int) ∈ gh_G := List.mem_filter.mpr ⟨List.mem_append_right _ (List.mem_of_getElem? (i := 472) (by decide +kernel)), rfl⟩
theorem tw_473 : Cond.methodLink "GhostTrain" 172 ⟨"GhostTrain", "oneIf", "(Z)I"⟩ ∈ gh_G := List.mem_filter.mpr ⟨List.mem_append_right _ (List.mem_of_getElem? (i := 473) (by decide +kernel)), rfl⟩
theorem tw_474 : Cond.static ⟨"GhostTrain", "oneIf", "(Z)I"⟩ ∈ gh_G := List.mem_filter.mpr ⟨List.mem_append_right _ (List.mem_of_getElem? (i := 474) (by decide +kernel)), rfl⟩
theorem tw_475 : Cond.code ⟨"GhostTrain", "oneIf", "(Z)I"⟩ cX6_oneIf 1 (some .int) ∈ gh_G := List.mem_filter.mpr ⟨List.mem_append_right _ (List.mem_of_getElem? (i := 475) (by decide +kernel)), rfl⟩
theorem tw_477 : Cond.instanceMethod ⟨"GhostTrain", "nerve", "(II)I"⟩ ∈ gh_G := List.mem_filter.mpr ⟨List.mem_append_right _ (List.mem_of_getElem? (i := 477) (by decide +kernel)), rfl⟩
theorem tw_478 : Cond.selects "GhostTrain" ⟨"GhostTrain", "nerve", "(II)I"⟩ ⟨"GhostTrain", "nerve", "(II)I"⟩ ∈ gh_G := List.mem_filter.mpr ⟨List.mem_append_right _ (List.mem_of_getElem? (i := 478) (by decide +kernel)), rfl⟩
theorem tw_479 : Cond.code ⟨"GhostTrain", "nerve", "(II)I"⟩ cX6_nerve 4 (some .int) ∈ gh_G := List.mem_filter.mpr ⟨List.mem_append_right _ (List.mem_of_getElem? (i := 479) (by decide +kernel)), rfl⟩
theorem tw_480 : Cond.methodLink "GhostTrain" 176 ⟨"GhostTrain", "isCar", "(I)Z"⟩ ∈ gh_G := List.mem_filter.mpr ⟨List.mem_append_right _ (List.mem_of_getElem? (i := 480) (by decide +kernel)), rfl⟩
theorem tw_482 : Cond.instanceMethod ⟨"GhostTrain", "isCar", "(I)Z"⟩ ∈ gh_G := List.mem_filter.mpr ⟨List.mem_append_right _ (List.mem_of_getElem? (i := 482) (by decide +kernel)), rfl⟩
theorem tw_483 : Cond.code ⟨"GhostTrain", "isCar", "(I)Z"⟩ cX6_isCar 2 (some .boolean) ∈ gh_G := List.mem_filter.mpr ⟨List.mem_append_right _ (List.mem_of_getElem? (i := 483) (by decide +kernel)), rfl⟩
theorem tw_485 : Cond.instanceMethod ⟨"GhostTrain", "again", "(I)I"⟩ ∈ gh_G := List.mem_filter.mpr ⟨List.mem_append_right _ (List.mem_of_getElem? (i := 485) (by decide +kernel)), rfl⟩
theorem tw_486 : Cond.selects "GhostTrain" ⟨"GhostTrain", "again", "(I)I"⟩ ⟨"GhostTrain", "again", "(I)I"⟩ ∈ gh_G := List.mem_filter.mpr ⟨List.mem_append_right _ (List.mem_of_getElem? (i := 486) (by decide +kernel)), rfl⟩
theorem tw_487 : Cond.code ⟨"GhostTrain", "again", "(I)I"⟩ cX6_again 2 (some .int) ∈ gh_G := List.mem_filter.mpr ⟨List.mem_append_right _ (List.mem_of_getElem? (i := 487) (by decide +kernel)), rfl⟩
theorem tw_488 : Cond.methodLinkNest "GhostTrain" 185 ⟨"GhostTrain$Train", "goAgain", "(I)V"⟩ "GhostTrain" ∈ lw_tbl := List.mem_append_right _ (List.mem_of_getElem? (i := 488) (by decide +kernel))
theorem tw_490 : Cond.instanceMethod ⟨"GhostTrain$Train", "goAgain", "(I)V"⟩ ∈ gh_G := List.mem_filter.mpr ⟨List.mem_append_right _ (List.mem_of_getElem? (i := 490) (by decide +kernel)), rfl⟩
theorem tw_491 : Cond.code ⟨"GhostTrain$Train", "goAgain", "(I)V"⟩ cX5_goAgain 2 (none) ∈ gh_G := List.mem_filter.mpr ⟨List.mem_append_right _ (List.mem_of_getElem? (i := 491) (by decide +kernel)), rfl⟩
theorem tw_492 : Cond.methodLinkNest "GhostTrain" 189 ⟨"GhostTrain$Train", "bitsWaiting", "()I"⟩ "GhostTrain" ∈ lw_tbl := List.mem_append_right _ (List.mem_of_getElem? (i := 492) (by decide +kernel))
theorem tw_494 : Cond.instanceMethod ⟨"GhostTrain$Train", "bitsWaiting", "()I"⟩ ∈ gh_G := List.mem_filter.mpr ⟨List.mem_append_right _ (List.mem_of_getElem? (i := 494) (by decide +kernel)), rfl⟩
theorem tw_495 : Cond.code ⟨"GhostTrain$Train", "bitsWaiting", "()I"⟩ cX5_bitsWaiting 1 (some .int) ∈ gh_G := List.mem_filter.mpr ⟨List.mem_append_right _ (List.mem_of_getElem? (i := 495) (by decide +kernel)), rfl⟩
theorem tw_497 : Cond.instanceMethod ⟨"GhostTrain", "trick", "(II)I"⟩ ∈ gh_G := List.mem_filter.mpr ⟨List.mem_append_right _ (List.mem_of_getElem? (i := 497) (by decide +kernel)), rfl⟩
theorem tw_498 : Cond.selects "GhostTrain" ⟨"GhostTrain", "trick", "(II)I"⟩ ⟨"GhostTrain", "trick", "(II)I"⟩ ∈ gh_G := List.mem_filter.mpr ⟨List.mem_append_right _ (List.mem_of_getElem? (i := 498) (by decide +kernel)), rfl⟩
theorem tw_499 : Cond.code ⟨"GhostTrain", "trick", "(II)I"⟩ cX6_trick 3 (some .int) ∈ gh_G := List.mem_filter.mpr ⟨List.mem_append_right _ (List.mem_of_getElem? (i := 499) (by decide +kernel)), rfl⟩
theorem tw_501 : Cond.instanceMethod ⟨"GhostTrain", "car", "(II)I"⟩ ∈ gh_G := List.mem_filter.mpr ⟨List.mem_append_right _ (List.mem_of_getElem? (i := 501) (by decide +kernel)), rfl⟩
theorem tw_502 : Cond.selects "GhostTrain" ⟨"GhostTrain", "car", "(II)I"⟩ ⟨"GhostTrain", "car", "(II)I"⟩ ∈ gh_G := List.mem_filter.mpr ⟨List.mem_append_right _ (List.mem_of_getElem? (i := 502) (by decide +kernel)), rfl⟩
theorem tw_503 : Cond.code ⟨"GhostTrain", "car", "(II)I"⟩ cX6_car 3 (some .int) ∈ gh_G := List.mem_filter.mpr ⟨List.mem_append_right _ (List.mem_of_getElem? (i := 503) (by decide +kernel)), rfl⟩
theorem tw_505 : Cond.instanceMethod ⟨"GhostTrain", "cell", "(II)I"⟩ ∈ gh_G := List.mem_filter.mpr ⟨List.mem_append_right _ (List.mem_of_getElem? (i := 505) (by decide +kernel)), rfl⟩
theorem tw_506 : Cond.selects "GhostTrain" ⟨"GhostTrain", "cell", "(II)I"⟩ ⟨"GhostTrain", "cell", "(II)I"⟩ ∈ gh_G := List.mem_filter.mpr ⟨List.mem_append_right _ (List.mem_of_getElem? (i := 506) (by decide +kernel)), rfl⟩
theorem tw_507 : Cond.code ⟨"GhostTrain", "cell", "(II)I"⟩ cX6_cell 3 (some .int) ∈ gh_G := List.mem_filter.mpr ⟨List.mem_append_right _ (List.mem_of_getElem? (i := 507) (by decide +kernel)), rfl⟩
theorem tw_508 : Cond.constant "GhostTrain" 216 (-1000000) ∈ gh_G := List.mem_filter.mpr ⟨List.mem_append_right _ (List.mem_of_getElem? (i := 508) (by decide +kernel)), rfl⟩
theorem tw_509 : Cond.methodLinkNest "GhostTrain" 217 ⟨"GhostTrain$Train", "tricksIn", "(I)I"⟩ "GhostTrain" ∈ lw_tbl := List.mem_append_right _ (List.mem_of_getElem? (i := 509) (by decide +kernel))
theorem tw_511 : Cond.instanceMethod ⟨"GhostTrain$Train", "tricksIn", "(I)I"⟩ ∈ gh_G := List.mem_filter.mpr ⟨List.mem_append_right _ (List.mem_of_getElem? (i := 511) (by decide +kernel)), rfl⟩
theorem tw_512 : Cond.code ⟨"GhostTrain$Train", "tricksIn", "(I)I"⟩ cX5_tricksIn 4 (some .int) ∈ gh_G := List.mem_filter.mpr ⟨List.mem_append_right _ (List.mem_of_getElem? (i := 512) (by decide +kernel)), rfl⟩
theorem tw_513 : Cond.methodLinkNest "GhostTrain$Train" 117 ⟨"GhostTrain", "oneIf", "(Z)I"⟩ "GhostTrain" ∈ lw_tbl := List.mem_append_right _ (List.mem_of_getElem? (i := 513) (by decide +kernel))
theorem tw_515 : Cond.instanceMethod ⟨"GhostTrain", "stand", "(I)I"⟩ ∈ gh_G := List.mem_filter.mpr ⟨List.mem_append_right _ (List.mem_of_getElem? (i := 515) (by decide +kernel)), rfl⟩
theorem tw_516 : Cond.selects "GhostTrain" ⟨"GhostTrain", "stand", "(I)I"⟩ ⟨"GhostTrain", "stand", "(I)I"⟩ ∈ gh_G := List.mem_filter.mpr ⟨List.mem_append_right _ (List.mem_of_getElem? (i := 516) (by decide +kernel)), rfl⟩
theorem tw_517 : Cond.code ⟨"GhostTrain", "stand", "(I)I"⟩ cX6_stand 2 (some .int) ∈ gh_G := List.mem_filter.mpr ⟨List.mem_append_right _ (List.mem_of_getElem? (i := 517) (by decide +kernel)), rfl⟩
theorem tw_518 : Cond.methodLinkNest "GhostTrain" 223 ⟨"GhostTrain$Train", "bitsRunning", "()I"⟩ "GhostTrain" ∈ lw_tbl := List.mem_append_right _ (List.mem_of_getElem? (i := 518) (by decide +kernel))
theorem tw_520 : Cond.instanceMethod ⟨"GhostTrain$Train", "bitsRunning", "()I"⟩ ∈ gh_G := List.mem_filter.mpr ⟨List.mem_append_right _ (List.mem_of_getElem? (i := 520) (by decide +kernel)), rfl⟩
theorem tw_521 : Cond.code ⟨"GhostTrain$Train", "bitsRunning", "()I"⟩ cX5_bitsRunning 1 (some .int) ∈ gh_G := List.mem_filter.mpr ⟨List.mem_append_right _ (List.mem_of_getElem? (i := 521) (by decide +kernel)), rfl⟩
theorem tw_522 : Cond.methodLinkNest "GhostTrain" 226 ⟨"GhostTrain$Train", "bitsOn", "()I"⟩ "GhostTrain" ∈ lw_tbl := List.mem_append_right _ (List.mem_of_getElem? (i := 522) (by decide +kernel))
theorem tw_524 : Cond.instanceMethod ⟨"GhostTrain$Train", "bitsOn", "()I"⟩ ∈ gh_G := List.mem_filter.mpr ⟨List.mem_append_right _ (List.mem_of_getElem? (i := 524) (by decide +kernel)), rfl⟩
theorem tw_525 : Cond.code ⟨"GhostTrain$Train", "bitsOn", "()I"⟩ cX5_bitsOn 3 (some .int) ∈ gh_G := List.mem_filter.mpr ⟨List.mem_append_right _ (List.mem_of_getElem? (i := 525) (by decide +kernel)), rfl⟩
theorem tw_527 : Cond.instanceMethod ⟨"GhostTrain", "ahead", "(III)I"⟩ ∈ gh_G := List.mem_filter.mpr ⟨List.mem_append_right _ (List.mem_of_getElem? (i := 527) (by decide +kernel)), rfl⟩
theorem tw_528 : Cond.selects "GhostTrain" ⟨"GhostTrain", "ahead", "(III)I"⟩ ⟨"GhostTrain", "ahead", "(III)I"⟩ ∈ gh_G := List.mem_filter.mpr ⟨List.mem_append_right _ (List.mem_of_getElem? (i := 528) (by decide +kernel)), rfl⟩
theorem tw_529 : Cond.code ⟨"GhostTrain", "ahead", "(III)I"⟩ cX6_ahead 5 (some .int) ∈ gh_G := List.mem_filter.mpr ⟨List.mem_append_right _ (List.mem_of_getElem? (i := 529) (by decide +kernel)), rfl⟩
theorem tw_530 : Cond.methodLinkNest "GhostTrain" 229 ⟨"GhostTrain$Foresight", "behind", "(LGhostTrain$Train;I)LGhostTrain$Train;"⟩ "GhostTrain" ∈ lw_tbl := List.mem_append_right _ (List.mem_of_getElem? (i := 530) (by decide +kernel))
theorem tw_532 : Cond.instanceMethod ⟨"GhostTrain$Foresight", "behind", "(LGhostTrain$Train;I)LGhostTrain$Train;"⟩ ∈ gh_G := List.mem_filter.mpr ⟨List.mem_append_right _ (List.mem_of_getElem? (i := 532) (by decide +kernel)), rfl⟩
theorem tw_533 : Cond.code ⟨"GhostTrain$Foresight", "behind", "(LGhostTrain$Train;I)LGhostTrain$Train;"⟩ cX2_behind 3 (some (.object "GhostTrain$Train")) ∈ gh_G := List.mem_filter.mpr ⟨List.mem_append_right _ (List.mem_of_getElem? (i := 533) (by decide +kernel)), rfl⟩
theorem tw_534 : Cond.methodLinkNest "GhostTrain$Foresight" 38 ⟨"GhostTrain$Train", "copyFrom", "(LGhostTrain$Train;)V"⟩ "GhostTrain" ∈ lw_tbl := List.mem_append_right _ (List.mem_of_getElem? (i := 534) (by decide +kernel))
theorem tw_535 : Cond.methodLinkNest "GhostTrain$Foresight" 42 ⟨"GhostTrain$Train", "tickOnFor", "(I)V"⟩ "GhostTrain" ∈ lw_tbl := List.mem_append_right _ (List.mem_of_getElem? (i := 535) (by decide +kernel))
theorem tw_537 : Cond.instanceMethod ⟨"GhostTrain$Train", "tickOnFor", "(I)V"⟩ ∈ gh_G := List.mem_filter.mpr ⟨List.mem_append_right _ (List.mem_of_getElem? (i := 537) (by decide +kernel)), rfl⟩
theorem tw_538 : Cond.code ⟨"GhostTrain$Train", "tickOnFor", "(I)V"⟩ cX5_tickOnFor 3 (none) ∈ gh_G := List.mem_filter.mpr ⟨List.mem_append_right _ (List.mem_of_getElem? (i := 538) (by decide +kernel)), rfl⟩
theorem tw_539 : Cond.methodLink "GhostTrain$Train" 90 ⟨"GhostTrain$Train", "allOut", "()Z"⟩ ∈ gh_G := List.mem_filter.mpr ⟨List.mem_append_right _ (List.mem_of_getElem? (i := 539) (by decide +kernel)), rfl⟩
theorem tw_541 : Cond.instanceMethod ⟨"GhostTrain$Train", "allOut", "()Z"⟩ ∈ gh_G := List.mem_filter.mpr ⟨List.mem_append_right _ (List.mem_of_getElem? (i := 541) (by decide +kernel)), rfl⟩
theorem tw_542 : Cond.code ⟨"GhostTrain$Train", "allOut", "()Z"⟩ cX5_allOut 2 (some .boolean) ∈ gh_G := List.mem_filter.mpr ⟨List.mem_append_right _ (List.mem_of_getElem? (i := 542) (by decide +kernel)), rfl⟩
theorem tw_543 : Cond.methodLink "GhostTrain$Train" 94 ⟨"GhostTrain$Train", "tickOn", "()V"⟩ ∈ gh_G := List.mem_filter.mpr ⟨List.mem_append_right _ (List.mem_of_getElem? (i := 543) (by decide +kernel)), rfl⟩
theorem tw_545 : Cond.instanceMethod ⟨"GhostTrain", "show", "(II)I"⟩ ∈ gh_G := List.mem_filter.mpr ⟨List.mem_append_right _ (List.mem_of_getElem? (i := 545) (by decide +kernel)), rfl⟩
theorem tw_546 : Cond.selects "GhostTrain" ⟨"GhostTrain", "show", "(II)I"⟩ ⟨"GhostTrain", "show", "(II)I"⟩ ∈ gh_G := List.mem_filter.mpr ⟨List.mem_append_right _ (List.mem_of_getElem? (i := 546) (by decide +kernel)), rfl⟩
theorem tw_547 : Cond.code ⟨"GhostTrain", "show", "(II)I"⟩ cX6_show 4 (some .int) ∈ gh_G := List.mem_filter.mpr ⟨List.mem_append_right _ (List.mem_of_getElem? (i := 547) (by decide +kernel)), rfl⟩
theorem tw_548 : Cond.methodLinkNest "GhostTrain" 233 ⟨"GhostTrain$Train", "allScreams", "()I"⟩ "GhostTrain" ∈ lw_tbl := List.mem_append_right _ (List.mem_of_getElem? (i := 548) (by decide +kernel))
theorem tw_550 : Cond.instanceMethod ⟨"GhostTrain$Train", "allScreams", "()I"⟩ ∈ gh_G := List.mem_filter.mpr ⟨List.mem_append_right _ (List.mem_of_getElem? (i := 550) (by decide +kernel)), rfl⟩
theorem tw_551 : Cond.code ⟨"GhostTrain$Train", "allScreams", "()I"⟩ cX5_allScreams 1 (some .int) ∈ gh_G := List.mem_filter.mpr ⟨List.mem_append_right _ (List.mem_of_getElem? (i := 551) (by decide +kernel)), rfl⟩
theorem tw_552 : Cond.methodLink "GhostTrain$Train" 121 ⟨"GhostTrain$Train", "sum", "([II)I"⟩ ∈ gh_G := List.mem_filter.mpr ⟨List.mem_append_right _ (List.mem_of_getElem? (i := 552) (by decide +kernel)), rfl⟩
theorem tw_553 : Cond.static ⟨"GhostTrain$Train", "sum", "([II)I"⟩ ∈ gh_G := List.mem_filter.mpr ⟨List.mem_append_right _ (List.mem_of_getElem? (i := 553) (by decide +kernel)), rfl⟩
theorem tw_554 : Cond.code ⟨"GhostTrain$Train", "sum", "([II)I"⟩ cX5_sum 4 (some .int) ∈ gh_G := List.mem_filter.mpr ⟨List.mem_append_right _ (List.mem_of_getElem? (i := 554) (by decide +kernel)), rfl⟩
theorem tw_555 : Cond.methodLinkNest "GhostTrain" 236 ⟨"GhostTrain$Train", "allMet", "()I"⟩ "GhostTrain" ∈ lw_tbl := List.mem_append_right _ (List.mem_of_getElem? (i := 555) (by decide +kernel))
theorem tw_557 : Cond.instanceMethod ⟨"GhostTrain$Train", "allMet", "()I"⟩ ∈ gh_G := List.mem_filter.mpr ⟨List.mem_append_right _ (List.mem_of_getElem? (i := 557) (by decide +kernel)), rfl⟩
theorem tw_558 : Cond.code ⟨"GhostTrain$Train", "allMet", "()I"⟩ cX5_allMet 1 (some .int) ∈ gh_G := List.mem_filter.mpr ⟨List.mem_append_right _ (List.mem_of_getElem? (i := 558) (by decide +kernel)), rfl⟩
theorem tw_560 : Cond.instanceMethod ⟨"GhostTrain", "when", "(II)I"⟩ ∈ gh_G := List.mem_filter.mpr ⟨List.mem_append_right _ (List.mem_of_getElem? (i := 560) (by decide +kernel)), rfl⟩
theorem tw_561 : Cond.selects "GhostTrain" ⟨"GhostTrain", "when", "(II)I"⟩ ⟨"GhostTrain", "when", "(II)I"⟩ ∈ gh_G := List.mem_filter.mpr ⟨List.mem_append_right _ (List.mem_of_getElem? (i := 561) (by decide +kernel)), rfl⟩
theorem tw_562 : Cond.code ⟨"GhostTrain", "when", "(II)I"⟩ cX6_when 3 (some .int) ∈ gh_G := List.mem_filter.mpr ⟨List.mem_append_right _ (List.mem_of_getElem? (i := 562) (by decide +kernel)), rfl⟩
theorem tw_563 : Cond.methodLinkNest "GhostTrain" 239 ⟨"GhostTrain$Foresight", "firstTime", "(LGhostTrain$Train;II)I"⟩ "GhostTrain" ∈ lw_tbl := List.mem_append_right _ (List.mem_of_getElem? (i := 563) (by decide +kernel))
theorem tw_565 : Cond.instanceMethod ⟨"GhostTrain$Foresight", "firstTime", "(LGhostTrain$Train;II)I"⟩ ∈ gh_G := List.mem_filter.mpr ⟨List.mem_append_right _ (List.mem_of_getElem? (i := 565) (by decide +kernel)), rfl⟩
theorem tw_566 : Cond.code ⟨"GhostTrain$Foresight", "firstTime", "(LGhostTrain$Train;II)I"⟩ cX2_firstTime 5 (some .int) ∈ gh_G := List.mem_filter.mpr ⟨List.mem_append_right _ (List.mem_of_getElem? (i := 566) (by decide +kernel)), rfl⟩
theorem tw_567 : Cond.methodLink "GhostTrain$Foresight" 49 ⟨"GhostTrain$Foresight", "hasCome", "(III)Z"⟩ ∈ gh_G := List.mem_filter.mpr ⟨List.mem_append_right _ (List.mem_of_getElem? (i := 567) (by decide +kernel)), rfl⟩
theorem tw_569 : Cond.instanceMethod ⟨"GhostTrain$Foresight", "hasCome", "(III)Z"⟩ ∈ gh_G := List.mem_filter.mpr ⟨List.mem_append_right _ (List.mem_of_getElem? (i := 569) (by decide +kernel)), rfl⟩
theorem tw_570 : Cond.code ⟨"GhostTrain$Foresight", "hasCome", "(III)Z"⟩ cX2_hasCome 4 (some .boolean) ∈ gh_G := List.mem_filter.mpr ⟨List.mem_append_right _ (List.mem_of_getElem? (i := 570) (by decide +kernel)), rfl⟩
theorem tw_571 : Cond.methodLinkNest "GhostTrain$Foresight" 53 ⟨"GhostTrain$Train", "tickOn", "()V"⟩ "GhostTrain" ∈ lw_tbl := List.mem_append_right _ (List.mem_of_getElem? (i := 571) (by decide +kernel))
theorem tw_572 : Cond.constant "GhostTrain$Foresight" 56 (-1000000) ∈ gh_G := List.mem_filter.mpr ⟨List.mem_append_right _ (List.mem_of_getElem? (i := 572) (by decide +kernel)), rfl⟩
theorem tw_574 : Cond.instanceMethod ⟨"GhostTrain", "over", "()I"⟩ ∈ gh_G := List.mem_filter.mpr ⟨List.mem_append_right _ (List.mem_of_getElem? (i := 574) (by decide +kernel)), rfl⟩
theorem tw_575 : Cond.selects "GhostTrain" ⟨"GhostTrain", "over", "()I"⟩ ⟨"GhostTrain", "over", "()I"⟩ ∈ gh_G := List.mem_filter.mpr ⟨List.mem_append_right _ (List.mem_of_getElem? (i := 575) (by decide +kernel)), rfl⟩
theorem tw_576 : Cond.code ⟨"GhostTrain", "over", "()I"⟩ cX6_over 1 (some .int) ∈ gh_G := List.mem_filter.mpr ⟨List.mem_append_right _ (List.mem_of_getElem? (i := 576) (by decide +kernel)), rfl⟩
theorem tw_577 : Cond.methodLinkNest "GhostTrain" 243 ⟨"GhostTrain$Foresight", "firstAllOut", "(LGhostTrain$Train;)I"⟩ "GhostTrain" ∈ lw_tbl := List.mem_append_right _ (List.mem_of_getElem? (i := 577) (by decide +kernel))
theorem tw_579 : Cond.instanceMethod ⟨"GhostTrain$Foresight", "firstAllOut", "(LGhostTrain$Train;)I"⟩ ∈ gh_G := List.mem_filter.mpr ⟨List.mem_append_right _ (List.mem_of_getElem? (i := 579) (by decide +kernel)), rfl⟩
theorem tw_580 : Cond.code ⟨"GhostTrain$Foresight", "firstAllOut", "(LGhostTrain$Train;)I"⟩ cX2_firstAllOut 3 (some .int) ∈ gh_G := List.mem_filter.mpr ⟨List.mem_append_right _ (List.mem_of_getElem? (i := 580) (by decide +kernel)), rfl⟩
theorem tw_581 : Cond.methodLinkNest "GhostTrain$Foresight" 60 ⟨"GhostTrain$Train", "allOut", "()Z"⟩ "GhostTrain" ∈ lw_tbl := List.mem_append_right _ (List.mem_of_getElem? (i := 581) (by decide +kernel))
theorem tw_583 : Cond.instanceMethod ⟨"GhostTrain", "order", "(II)I"⟩ ∈ gh_G := List.mem_filter.mpr ⟨List.mem_append_right _ (List.mem_of_getElem? (i := 583) (by decide +kernel)), rfl⟩
theorem tw_584 : Cond.selects "GhostTrain" ⟨"GhostTrain", "order", "(II)I"⟩ ⟨"GhostTrain", "order", "(II)I"⟩ ∈ gh_G := List.mem_filter.mpr ⟨List.mem_append_right _ (List.mem_of_getElem? (i := 584) (by decide +kernel)), rfl⟩
theorem tw_585 : Cond.code ⟨"GhostTrain", "order", "(II)I"⟩ cX6_order 3 (some .int) ∈ gh_G := List.mem_filter.mpr ⟨List.mem_append_right _ (List.mem_of_getElem? (i := 585) (by decide +kernel)), rfl⟩
theorem tw_586 : Cond.methodLinkNest "GhostTrain" 250 ⟨"GhostTrain$Foresight", "findOrder", "(LGhostTrain$Train;I)V"⟩ "GhostTrain" ∈ lw_tbl := List.mem_append_right _ (List.mem_of_getElem? (i := 586) (by decide +kernel))
theorem tw_588 : Cond.instanceMethod ⟨"GhostTrain$Foresight", "findOrder", "(LGhostTrain$Train;I)V"⟩ ∈ gh_G := List.mem_filter.mpr ⟨List.mem_append_right _ (List.mem_of_getElem? (i := 588) (by decide +kernel)), rfl⟩
theorem tw_589 : Cond.code ⟨"GhostTrain$Foresight", "findOrder", "(LGhostTrain$Train;I)V"⟩ cX2_findOrder 9 (none) ∈ gh_G := List.mem_filter.mpr ⟨List.mem_append_right _ (List.mem_of_getElem? (i := 589) (by decide +kernel)), rfl⟩
theorem tw_590 : Cond.methodLink "GhostTrain$Foresight" 67 ⟨"GhostTrain$Foresight", "listWaitingFirst", "(LGhostTrain$Train;)I"⟩ ∈ gh_G := List.mem_filter.mpr ⟨List.mem_append_right _ (List.mem_of_getElem? (i := 590) (by decide +kernel)), rfl⟩
theorem tw_592 : Cond.instanceMethod ⟨"GhostTrain$Foresight", "listWaitingFirst", "(LGhostTrain$Train;)I"⟩ ∈ gh_G := List.mem_filter.mpr ⟨List.mem_append_right _ (List.mem_of_getElem? (i := 592) (by decide +kernel)), rfl⟩
theorem tw_593 : Cond.code ⟨"GhostTrain$Foresight", "listWaitingFirst", "(LGhostTrain$Train;)I"⟩ cX2_listWaitingFirst 5 (some .int) ∈ gh_G := List.mem_filter.mpr ⟨List.mem_append_right _ (List.mem_of_getElem? (i := 593) (by decide +kernel)), rfl⟩
theorem tw_594 : Cond.methodLink "GhostTrain$Foresight" 74 ⟨"java/lang/System", "arraycopy", "(Ljava/lang/Object;ILjava/lang/Object;II)V"⟩ ∈ gh_G := List.mem_filter.mpr ⟨List.mem_append_right _ (List.mem_of_getElem? (i := 594) (by decide +kernel)), rfl⟩
theorem tw_595 : Cond.methodLinkNest "GhostTrain$Foresight" 80 ⟨"GhostTrain$Train", "allScreams", "()I"⟩ "GhostTrain" ∈ lw_tbl := List.mem_append_right _ (List.mem_of_getElem? (i := 595) (by decide +kernel))
theorem tw_596 : Cond.methodLinkNest "GhostTrain$Foresight" 84 ⟨"GhostTrain$Train", "bitsOut", "()I"⟩ "GhostTrain" ∈ lw_tbl := List.mem_append_right _ (List.mem_of_getElem? (i := 596) (by decide +kernel))
theorem tw_597 : Cond.methodLink "GhostTrain$Foresight" 87 ⟨"java/lang/Integer", "bitCount", "(I)I"⟩ ∈ gh_G := List.mem_filter.mpr ⟨List.mem_append_right _ (List.mem_of_getElem? (i := 597) (by decide +kernel)), rfl⟩
theorem tw_598 : Cond.static ⟨"java/lang/Integer", "bitCount", "(I)I"⟩ ∈ gh_G := List.mem_filter.mpr ⟨List.mem_append_right _ (List.mem_of_getElem? (i := 598) (by decide +kernel)), rfl⟩
theorem tw_599 : Cond.code ⟨"java/lang/Integer", "bitCount", "(I)I"⟩ cJ6_bitCount_0f7a4 1 (some .int) ∈ gh_G := List.mem_filter.mpr ⟨List.mem_append_right _ (List.mem_of_getElem? (i := 599) (by decide +kernel)), rfl⟩
theorem tw_600 : Cond.constant "java/lang/Integer" 265 (1431655765) ∈ gh_G := List.mem_filter.mpr ⟨List.mem_append_right _ (List.mem_of_getElem? (i := 600) (by decide +kernel)), rfl⟩
theorem tw_601 : Cond.constant "java/lang/Integer" 266 (858993459) ∈ gh_G := List.mem_filter.mpr ⟨List.mem_append_right _ (List.mem_of_getElem? (i := 601) (by decide +kernel)), rfl⟩
theorem tw_602 : Cond.constant "java/lang/Integer" 267 (252645135) ∈ gh_G := List.mem_filter.mpr ⟨List.mem_append_right _ (List.mem_of_getElem? (i := 602) (by decide +kernel)), rfl⟩
theorem tw_603 : Cond.methodLink "GhostTrain$Foresight" 93 ⟨"GhostTrain$Foresight", "nextOrder", "(I)Z"⟩ ∈ gh_G := List.mem_filter.mpr ⟨List.mem_append_right _ (List.mem_of_getElem? (i := 603) (by decide +kernel)), rfl⟩
theorem tw_605 : Cond.instanceMethod ⟨"GhostTrain$Foresight", "nextOrder", "(I)Z"⟩ ∈ gh_G := List.mem_filter.mpr ⟨List.mem_append_right _ (List.mem_of_getElem? (i := 605) (by decide +kernel)), rfl⟩
theorem tw_606 : Cond.code ⟨"GhostTrain$Foresight", "nextOrder", "(I)Z"⟩ cX2_nextOrder 6 (some .boolean) ∈ gh_G := List.mem_filter.mpr ⟨List.mem_append_right _ (List.mem_of_getElem? (i := 606) (by decide +kernel)), rfl⟩
theorem tw_607 : Cond.methodLink "GhostTrain$Foresight" 104 ⟨"GhostTrain$Foresight", "swapTried", "(II)V"⟩ ∈ gh_G := List.mem_filter.mpr ⟨List.mem_append_right _ (List.mem_of_getElem? (i := 607) (by decide +kernel)), rfl⟩
theorem tw_609 : Cond.instanceMethod ⟨"GhostTrain$Foresight", "swapTried", "(II)V"⟩ ∈ gh_G := List.mem_filter.mpr ⟨List.mem_append_right _ (List.mem_of_getElem? (i := 609) (by decide +kernel)), rfl⟩
theorem tw_610 : Cond.code ⟨"GhostTrain$Foresight", "swapTried", "(II)V"⟩ cX2_swapTried 4 (none) ∈ gh_G := List.mem_filter.mpr ⟨List.mem_append_right _ (List.mem_of_getElem? (i := 610) (by decide +kernel)), rfl⟩
theorem tw_611 : Cond.methodLink "GhostTrain$Foresight" 100 ⟨"GhostTrain$Foresight", "mergeBest", "(II)V"⟩ ∈ gh_G := List.mem_filter.mpr ⟨List.mem_append_right _ (List.mem_of_getElem? (i := 611) (by decide +kernel)), rfl⟩
theorem tw_613 : Cond.instanceMethod ⟨"GhostTrain$Foresight", "mergeBest", "(II)V"⟩ ∈ gh_G := List.mem_filter.mpr ⟨List.mem_append_right _ (List.mem_of_getElem? (i := 613) (by decide +kernel)), rfl⟩
theorem tw_614 : Cond.code ⟨"GhostTrain$Foresight", "mergeBest", "(II)V"⟩ cX2_mergeBest 6 (none) ∈ gh_G := List.mem_filter.mpr ⟨List.mem_append_right _ (List.mem_of_getElem? (i := 614) (by decide +kernel)), rfl⟩
theorem tw_616 : Cond.instanceMethod ⟨"GhostTrain", "spot", "(III)I"⟩ ∈ gh_G := List.mem_filter.mpr ⟨List.mem_append_right _ (List.mem_of_getElem? (i := 616) (by decide +kernel)), rfl⟩
theorem tw_617 : Cond.selects "GhostTrain" ⟨"GhostTrain", "spot", "(III)I"⟩ ⟨"GhostTrain", "spot", "(III)I"⟩ ∈ gh_G := List.mem_filter.mpr ⟨List.mem_append_right _ (List.mem_of_getElem? (i := 617) (by decide +kernel)), rfl⟩
theorem tw_618 : Cond.code ⟨"GhostTrain", "spot", "(III)I"⟩ cX6_spot 4 (some .int) ∈ gh_G := List.mem_filter.mpr ⟨List.mem_append_right _ (List.mem_of_getElem? (i := 618) (by decide +kernel)), rfl⟩
theorem tw_619 : Cond.methodLinkNest "GhostTrain" 260 ⟨"GhostTrain$Foresight", "mostAt", "(LGhostTrain$Train;III)I"⟩ "GhostTrain" ∈ lw_tbl := List.mem_append_right _ (List.mem_of_getElem? (i := 619) (by decide +kernel))
theorem tw_621 : Cond.instanceMethod ⟨"GhostTrain$Foresight", "mostAt", "(LGhostTrain$Train;III)I"⟩ ∈ gh_G := List.mem_filter.mpr ⟨List.mem_append_right _ (List.mem_of_getElem? (i := 621) (by decide +kernel)), rfl⟩
theorem tw_622 : Cond.code ⟨"GhostTrain$Foresight", "mostAt", "(LGhostTrain$Train;III)I"⟩ cX2_mostAt 8 (some .int) ∈ gh_G := List.mem_filter.mpr ⟨List.mem_append_right _ (List.mem_of_getElem? (i := 622) (by decide +kernel)), rfl⟩
theorem tw_624 : Cond.instanceMethod ⟨"GhostTrain", "calm", "(II)I"⟩ ∈ gh_G := List.mem_filter.mpr ⟨List.mem_append_right _ (List.mem_of_getElem? (i := 624) (by decide +kernel)), rfl⟩
theorem tw_625 : Cond.selects "GhostTrain" ⟨"GhostTrain", "calm", "(II)I"⟩ ⟨"GhostTrain", "calm", "(II)I"⟩ ∈ gh_G := List.mem_filter.mpr ⟨List.mem_append_right _ (List.mem_of_getElem? (i := 625) (by decide +kernel)), rfl⟩
theorem tw_626 : Cond.code ⟨"GhostTrain", "calm", "(II)I"⟩ cX6_calm 4 (some .int) ∈ gh_G := List.mem_filter.mpr ⟨List.mem_append_right _ (List.mem_of_getElem? (i := 626) (by decide +kernel)), rfl⟩
theorem tw_627 : Cond.methodLinkNest "GhostTrain" 264 ⟨"GhostTrain$Foresight", "fewestOff", "(LGhostTrain$Train;I)I"⟩ "GhostTrain" ∈ lw_tbl := List.mem_append_right _ (List.mem_of_getElem? (i := 627) (by decide +kernel))
theorem tw_629 : Cond.instanceMethod ⟨"GhostTrain$Foresight", "fewestOff", "(LGhostTrain$Train;I)I"⟩ ∈ gh_G := List.mem_filter.mpr ⟨List.mem_append_right _ (List.mem_of_getElem? (i := 629) (by decide +kernel)), rfl⟩
theorem tw_630 : Cond.code ⟨"GhostTrain$Foresight", "fewestOff", "(LGhostTrain$Train;I)I"⟩ cX2_fewestOff 6 (some .int) ∈ gh_G := List.mem_filter.mpr ⟨List.mem_append_right _ (List.mem_of_getElem? (i := 630) (by decide +kernel)), rfl⟩
theorem tw_631 : Cond.methodLink "GhostTrain$Foresight" 116 ⟨"GhostTrain$Foresight", "isCalm", "(LGhostTrain$Train;II)Z"⟩ ∈ gh_G := List.mem_filter.mpr ⟨List.mem_append_right _ (List.mem_of_getElem? (i := 631) (by decide +kernel)), rfl⟩
theorem tw_633 : Cond.instanceMethod ⟨"GhostTrain$Foresight", "isCalm", "(LGhostTrain$Train;II)Z"⟩ ∈ gh_G := List.mem_filter.mpr ⟨List.mem_append_right _ (List.mem_of_getElem? (i := 633) (by decide +kernel)), rfl⟩
theorem tw_634 : Cond.code ⟨"GhostTrain$Foresight", "isCalm", "(LGhostTrain$Train;II)Z"⟩ cX2_isCalm 4 (some .boolean) ∈ gh_G := List.mem_filter.mpr ⟨List.mem_append_right _ (List.mem_of_getElem? (i := 634) (by decide +kernel)), rfl⟩
theorem tw_635 : Cond.methodLinkNest "GhostTrain$Foresight" 120 ⟨"GhostTrain$Train", "switchTo", "(I)V"⟩ "GhostTrain" ∈ lw_tbl := List.mem_append_right _ (List.mem_of_getElem? (i := 635) (by decide +kernel))
theorem tw_637 : Cond.instanceMethod ⟨"GhostTrain$Train", "switchTo", "(I)V"⟩ ∈ gh_G := List.mem_filter.mpr ⟨List.mem_append_right _ (List.mem_of_getElem? (i := 637) (by decide +kernel)), rfl⟩
theorem tw_638 : Cond.code ⟨"GhostTrain$Train", "switchTo", "(I)V"⟩ cX5_switchTo 3 (none) ∈ gh_G := List.mem_filter.mpr ⟨List.mem_append_right _ (List.mem_of_getElem? (i := 638) (by decide +kernel)), rfl⟩
theorem tw_639 : Cond.methodLink "GhostTrain" 268 ⟨"java/lang/Integer", "bitCount", "(I)I"⟩ ∈ gh_G := List.mem_filter.mpr ⟨List.mem_append_right _ (List.mem_of_getElem? (i := 639) (by decide +kernel)), rfl⟩
theorem tw_641 : Cond.instanceMethod ⟨"GhostTrain", "bears", "(II)I"⟩ ∈ gh_G := List.mem_filter.mpr ⟨List.mem_append_right _ (List.mem_of_getElem? (i := 641) (by decide +kernel)), rfl⟩
theorem tw_642 : Cond.selects "GhostTrain" ⟨"GhostTrain", "bears", "(II)I"⟩ ⟨"GhostTrain", "bears", "(II)I"⟩ ∈ gh_G := List.mem_filter.mpr ⟨List.mem_append_right _ (List.mem_of_getElem? (i := 642) (by decide +kernel)), rfl⟩
theorem tw_643 : Cond.code ⟨"GhostTrain", "bears", "(II)I"⟩ cX6_bears 3 (some .int) ∈ gh_G := List.mem_filter.mpr ⟨List.mem_append_right _ (List.mem_of_getElem? (i := 643) (by decide +kernel)), rfl⟩
theorem tw_644 : Cond.methodLinkNest "GhostTrain" 273 ⟨"GhostTrain$Foresight", "leastNerve", "(LGhostTrain$Train;II)I"⟩ "GhostTrain" ∈ lw_tbl := List.mem_append_right _ (List.mem_of_getElem? (i := 644) (by decide +kernel))
theorem tw_646 : Cond.instanceMethod ⟨"GhostTrain$Foresight", "leastNerve", "(LGhostTrain$Train;II)I"⟩ ∈ gh_G := List.mem_filter.mpr ⟨List.mem_append_right _ (List.mem_of_getElem? (i := 646) (by decide +kernel)), rfl⟩
theorem tw_647 : Cond.code ⟨"GhostTrain$Foresight", "leastNerve", "(LGhostTrain$Train;II)I"⟩ cX2_leastNerve 5 (some .int) ∈ gh_G := List.mem_filter.mpr ⟨List.mem_append_right _ (List.mem_of_getElem? (i := 647) (by decide +kernel)), rfl⟩
theorem tw_649 : Cond.instanceMethod ⟨"GhostTrain", "sets", "(II)I"⟩ ∈ gh_G := List.mem_filter.mpr ⟨List.mem_append_right _ (List.mem_of_getElem? (i := 649) (by decide +kernel)), rfl⟩
theorem tw_650 : Cond.selects "GhostTrain" ⟨"GhostTrain", "sets", "(II)I"⟩ ⟨"GhostTrain", "sets", "(II)I"⟩ ∈ gh_G := List.mem_filter.mpr ⟨List.mem_append_right _ (List.mem_of_getElem? (i := 650) (by decide +kernel)), rfl⟩
theorem tw_651 : Cond.code ⟨"GhostTrain", "sets", "(II)I"⟩ cX6_sets 3 (some .int) ∈ gh_G := List.mem_filter.mpr ⟨List.mem_append_right _ (List.mem_of_getElem? (i := 651) (by decide +kernel)), rfl⟩
theorem tw_652 : Cond.methodLinkNest "GhostTrain" 276 ⟨"GhostTrain$Train", "setsWith", "(II)I"⟩ "GhostTrain" ∈ lw_tbl := List.mem_append_right _ (List.mem_of_getElem? (i := 652) (by decide +kernel))
theorem tw_654 : Cond.instanceMethod ⟨"GhostTrain$Train", "setsWith", "(II)I"⟩ ∈ gh_G := List.mem_filter.mpr ⟨List.mem_append_right _ (List.mem_of_getElem? (i := 654) (by decide +kernel)), rfl⟩
theorem tw_655 : Cond.code ⟨"GhostTrain$Train", "setsWith", "(II)I"⟩ cX5_setsWith 8 (some .int) ∈ gh_G := List.mem_filter.mpr ⟨List.mem_append_right _ (List.mem_of_getElem? (i := 655) (by decide +kernel)), rfl⟩
theorem tw_656 : Cond.methodLink "GhostTrain$Train" 125 ⟨"GhostTrain$Train", "bitsOut", "()I"⟩ ∈ gh_G := List.mem_filter.mpr ⟨List.mem_append_right _ (List.mem_of_getElem? (i := 656) (by decide +kernel)), rfl⟩
theorem tw_657 : Cond.methodLink "GhostTrain$Train" 129 ⟨"GhostTrain$Train", "ridersOf", "(I)I"⟩ ∈ gh_G := List.mem_filter.mpr ⟨List.mem_append_right _ (List.mem_of_getElem? (i := 657) (by decide +kernel)), rfl⟩
theorem tw_659 : Cond.instanceMethod ⟨"GhostTrain$Train", "ridersOf", "(I)I"⟩ ∈ gh_G := List.mem_filter.mpr ⟨List.mem_append_right _ (List.mem_of_getElem? (i := 659) (by decide +kernel)), rfl⟩
theorem tw_660 : Cond.code ⟨"GhostTrain$Train", "ridersOf", "(I)I"⟩ cX5_ridersOf 4 (some .int) ∈ gh_G := List.mem_filter.mpr ⟨List.mem_append_right _ (List.mem_of_getElem? (i := 660) (by decide +kernel)), rfl⟩
theorem tw_662 : Cond.instanceMethod ⟨"GhostTrain", "share", "(II)I"⟩ ∈ gh_G := List.mem_filter.mpr ⟨List.mem_append_right _ (List.mem_of_getElem? (i := 662) (by decide +kernel)), rfl⟩
theorem tw_663 : Cond.selects "GhostTrain" ⟨"GhostTrain", "share", "(II)I"⟩ ⟨"GhostTrain", "share", "(II)I"⟩ ∈ gh_G := List.mem_filter.mpr ⟨List.mem_append_right _ (List.mem_of_getElem? (i := 663) (by decide +kernel)), rfl⟩
theorem tw_664 : Cond.code ⟨"GhostTrain", "share", "(II)I"⟩ cX6_share 3 (some .int) ∈ gh_G := List.mem_filter.mpr ⟨List.mem_append_right _ (List.mem_of_getElem? (i := 664) (by decide +kernel)), rfl⟩
theorem tw_665 : Cond.methodLinkNest "GhostTrain" 280 ⟨"GhostTrain$Train", "takings", "(II)I"⟩ "GhostTrain" ∈ lw_tbl := List.mem_append_right _ (List.mem_of_getElem? (i := 665) (by decide +kernel))
theorem tw_667 : Cond.instanceMethod ⟨"GhostTrain$Train", "takings", "(II)I"⟩ ∈ gh_G := List.mem_filter.mpr ⟨List.mem_append_right _ (List.mem_of_getElem? (i := 667) (by decide +kernel)), rfl⟩
theorem tw_668 : Cond.code ⟨"GhostTrain$Train", "takings", "(II)I"⟩ cX5_takings 7 (some .int) ∈ gh_G := List.mem_filter.mpr ⟨List.mem_append_right _ (List.mem_of_getElem? (i := 668) (by decide +kernel)), rfl⟩
theorem tw_669 : Cond.methodLink "GhostTrain$Train" 133 ⟨"GhostTrain$Train", "allMet", "()I"⟩ ∈ gh_G := List.mem_filter.mpr ⟨List.mem_append_right _ (List.mem_of_getElem? (i := 669) (by decide +kernel)), rfl⟩
theorem tw_671 : Cond.instanceMethod ⟨"GhostTrain", "byTurns", "(II)I"⟩ ∈ gh_G := List.mem_filter.mpr ⟨List.mem_append_right _ (List.mem_of_getElem? (i := 671) (by decide +kernel)), rfl⟩
theorem tw_672 : Cond.selects "GhostTrain" ⟨"GhostTrain", "byTurns", "(II)I"⟩ ⟨"GhostTrain", "byTurns", "(II)I"⟩ ∈ gh_G := List.mem_filter.mpr ⟨List.mem_append_right _ (List.mem_of_getElem? (i := 672) (by decide +kernel)), rfl⟩
theorem tw_673 : Cond.code ⟨"GhostTrain", "byTurns", "(II)I"⟩ cX6_byTurns 3 (some .int) ∈ gh_G := List.mem_filter.mpr ⟨List.mem_append_right _ (List.mem_of_getElem? (i := 673) (by decide +kernel)), rfl⟩
theorem tw_674 : Cond.methodLinkNest "GhostTrain" 283 ⟨"GhostTrain$Foresight", "switchingByTurns", "(LGhostTrain$Train;II)I"⟩ "GhostTrain" ∈ lw_tbl := List.mem_append_right _ (List.mem_of_getElem? (i := 674) (by decide +kernel))
theorem tw_676 : Cond.instanceMethod ⟨"GhostTrain$Foresight", "switchingByTurns", "(LGhostTrain$Train;II)I"⟩ ∈ gh_G := List.mem_filter.mpr ⟨List.mem_append_right _ (List.mem_of_getElem? (i := 676) (by decide +kernel)), rfl⟩
theorem tw_677 : Cond.code ⟨"GhostTrain$Foresight", "switchingByTurns", "(LGhostTrain$Train;II)I"⟩ cX2_switchingByTurns 6 (some .int) ∈ gh_G := List.mem_filter.mpr ⟨List.mem_append_right _ (List.mem_of_getElem? (i := 677) (by decide +kernel)), rfl⟩
theorem tw_678 : Cond.methodLink "GhostTrain$Foresight" 126 ⟨"GhostTrain$Foresight", "switchOnForMost", "(I)V"⟩ ∈ gh_G := List.mem_filter.mpr ⟨List.mem_append_right _ (List.mem_of_getElem? (i := 678) (by decide +kernel)), rfl⟩
theorem tw_680 : Cond.instanceMethod ⟨"GhostTrain$Foresight", "switchOnForMost", "(I)V"⟩ ∈ gh_G := List.mem_filter.mpr ⟨List.mem_append_right _ (List.mem_of_getElem? (i := 680) (by decide +kernel)), rfl⟩
theorem tw_681 : Cond.code ⟨"GhostTrain$Foresight", "switchOnForMost", "(I)V"⟩ cX2_switchOnForMost 5 (none) ∈ gh_G := List.mem_filter.mpr ⟨List.mem_append_right _ (List.mem_of_getElem? (i := 681) (by decide +kernel)), rfl⟩
theorem tw_682 : Cond.methodLink "GhostTrain$Foresight" 135 ⟨"java/lang/Math", "max", "(II)I"⟩ ∈ gh_G := List.mem_filter.mpr ⟨List.mem_append_right _ (List.mem_of_getElem? (i := 682) (by decide +kernel)), rfl⟩
theorem tw_683 : Cond.static ⟨"java/lang/Math", "max", "(II)I"⟩ ∈ gh_G := List.mem_filter.mpr ⟨List.mem_append_right _ (List.mem_of_getElem? (i := 683) (by decide +kernel)), rfl⟩
theorem tw_684 : Cond.code Lib.Math.max.name Lib.Math.max.code 2 (some .int) ∈ gh_G := List.mem_filter.mpr ⟨List.mem_append_right _ (List.mem_of_getElem? (i := 684) (by decide +kernel)), rfl⟩
theorem tw_685 : Cond.methodLink "GhostTrain$Foresight" 129 ⟨"GhostTrain$Foresight", "switchOffForFewest", "(I)V"⟩ ∈ gh_G := List.mem_filter.mpr ⟨List.mem_append_right _ (List.mem_of_getElem? (i := 685) (by decide +kernel)), rfl⟩
theorem tw_687 : Cond.instanceMethod ⟨"GhostTrain$Foresight", "switchOffForFewest", "(I)V"⟩ ∈ gh_G := List.mem_filter.mpr ⟨List.mem_append_right _ (List.mem_of_getElem? (i := 687) (by decide +kernel)), rfl⟩
theorem tw_688 : Cond.code ⟨"GhostTrain$Foresight", "switchOffForFewest", "(I)V"⟩ cX2_switchOffForFewest 5 (none) ∈ gh_G := List.mem_filter.mpr ⟨List.mem_append_right _ (List.mem_of_getElem? (i := 688) (by decide +kernel)), rfl⟩
theorem tw_689 : Cond.methodLink "GhostTrain$Foresight" 141 ⟨"java/lang/Math", "min", "(II)I"⟩ ∈ gh_G := List.mem_filter.mpr ⟨List.mem_append_right _ (List.mem_of_getElem? (i := 689) (by decide +kernel)), rfl⟩
theorem tw_690 : Cond.methodLinkNest "GhostTrain$Foresight" 132 ⟨"GhostTrain$Train", "bitsOn", "()I"⟩ "GhostTrain" ∈ lw_tbl := List.mem_append_right _ (List.mem_of_getElem? (i := 690) (by decide +kernel))
theorem tw_692 : Cond.instanceMethod ⟨"GhostTrain", "who", "(IIIIII)I"⟩ ∈ gh_G := List.mem_filter.mpr ⟨List.mem_append_right _ (List.mem_of_getElem? (i := 692) (by decide +kernel)), rfl⟩
theorem tw_693 : Cond.selects "GhostTrain" ⟨"GhostTrain", "who", "(IIIIII)I"⟩ ⟨"GhostTrain", "who", "(IIIIII)I"⟩ ∈ gh_G := List.mem_filter.mpr ⟨List.mem_append_right _ (List.mem_of_getElem? (i := 693) (by decide +kernel)), rfl⟩
theorem tw_694 : Cond.code ⟨"GhostTrain", "who", "(IIIIII)I"⟩ cX6_who 8 (some .int) ∈ gh_G := List.mem_filter.mpr ⟨List.mem_append_right _ (List.mem_of_getElem? (i := 694) (by decide +kernel)), rfl⟩
theorem tw_695 : Cond.methodLink "GhostTrain" 286 ⟨"GhostTrain", "findingIn", "(LGhostTrain$Row;II)I"⟩ ∈ gh_G := List.mem_filter.mpr ⟨List.mem_append_right _ (List.mem_of_getElem? (i := 695) (by decide +kernel)), rfl⟩
theorem tw_696 : Cond.static ⟨"GhostTrain", "findingIn", "(LGhostTrain$Row;II)I"⟩ ∈ gh_G := List.mem_filter.mpr ⟨List.mem_append_right _ (List.mem_of_getElem? (i := 696) (by decide +kernel)), rfl⟩
theorem tw_697 : Cond.code ⟨"GhostTrain", "findingIn", "(LGhostTrain$Row;II)I"⟩ cX6_findingIn 3 (some .int) ∈ gh_G := List.mem_filter.mpr ⟨List.mem_append_right _ (List.mem_of_getElem? (i := 697) (by decide +kernel)), rfl⟩
theorem tw_698 : Cond.methodLinkNest "GhostTrain" 290 ⟨"GhostTrain$Foresight", "hear", "(LGhostTrain$Row;II)V"⟩ "GhostTrain" ∈ lw_tbl := List.mem_append_right _ (List.mem_of_getElem? (i := 698) (by decide +kernel))
theorem tw_700 : Cond.instanceMethod ⟨"GhostTrain$Foresight", "hear", "(LGhostTrain$Row;II)V"⟩ ∈ gh_G := List.mem_filter.mpr ⟨List.mem_append_right _ (List.mem_of_getElem? (i := 700) (by decide +kernel)), rfl⟩
theorem tw_701 : Cond.code ⟨"GhostTrain$Foresight", "hear", "(LGhostTrain$Row;II)V"⟩ cX2_hear 4 (none) ∈ gh_G := List.mem_filter.mpr ⟨List.mem_append_right _ (List.mem_of_getElem? (i := 701) (by decide +kernel)), rfl⟩
theorem tw_702 : Cond.methodLinkNest "GhostTrain$Foresight" 144 ⟨"GhostTrain$Row", "holds", "(II)Z"⟩ "GhostTrain" ∈ lw_tbl := List.mem_append_right _ (List.mem_of_getElem? (i := 702) (by decide +kernel))
theorem tw_703 : Cond.methodLinkNest "GhostTrain" 294 ⟨"GhostTrain$Foresight", "fittingTricks", "(LGhostTrain$Train;III)I"⟩ "GhostTrain" ∈ lw_tbl := List.mem_append_right _ (List.mem_of_getElem? (i := 703) (by decide +kernel))
theorem tw_705 : Cond.instanceMethod ⟨"GhostTrain$Foresight", "fittingTricks", "(LGhostTrain$Train;III)I"⟩ ∈ gh_G := List.mem_filter.mpr ⟨List.mem_append_right _ (List.mem_of_getElem? (i := 705) (by decide +kernel)), rfl⟩
theorem tw_706 : Cond.code ⟨"GhostTrain$Foresight", "fittingTricks", "(LGhostTrain$Train;III)I"⟩ cX2_fittingTricks 9 (some .int) ∈ gh_G := List.mem_filter.mpr ⟨List.mem_append_right _ (List.mem_of_getElem? (i := 706) (by decide +kernel)), rfl⟩
theorem tw_707 : Cond.methodLink "GhostTrain$Foresight" 165 ⟨"GhostTrain$Foresight", "isAsTold", "(I)Z"⟩ ∈ gh_G := List.mem_filter.mpr ⟨List.mem_append_right _ (List.mem_of_getElem? (i := 707) (by decide +kernel)), rfl⟩
theorem tw_709 : Cond.instanceMethod ⟨"GhostTrain$Foresight", "isAsTold", "(I)Z"⟩ ∈ gh_G := List.mem_filter.mpr ⟨List.mem_append_right _ (List.mem_of_getElem? (i := 709) (by decide +kernel)), rfl⟩
theorem tw_710 : Cond.code ⟨"GhostTrain$Foresight", "isAsTold", "(I)Z"⟩ cX2_isAsTold 3 (some .boolean) ∈ gh_G := List.mem_filter.mpr ⟨List.mem_append_right _ (List.mem_of_getElem? (i := 710) (by decide +kernel)), rfl⟩
theorem tw_711 : Cond.methodLinkNest "GhostTrain$Foresight" 168 ⟨"GhostTrain", "oneIf", "(Z)I"⟩ "GhostTrain" ∈ lw_tbl := List.mem_append_right _ (List.mem_of_getElem? (i := 711) (by decide +kernel))
theorem tw_713 : Cond.instanceMethod ⟨"GhostTrain", "nerves", "(IIIII)I"⟩ ∈ gh_G := List.mem_filter.mpr ⟨List.mem_append_right _ (List.mem_of_getElem? (i := 713) (by decide +kernel)), rfl⟩
theorem tw_714 : Cond.selects "GhostTrain" ⟨"GhostTrain", "nerves", "(IIIII)I"⟩ ⟨"GhostTrain", "nerves", "(IIIII)I"⟩ ∈ gh_G := List.mem_filter.mpr ⟨List.mem_append_right _ (List.mem_of_getElem? (i := 714) (by decide +kernel)), rfl⟩
theorem tw_715 : Cond.code ⟨"GhostTrain", "nerves", "(IIIII)I"⟩ cX6_nerves 7 (some .int) ∈ gh_G := List.mem_filter.mpr ⟨List.mem_append_right _ (List.mem_of_getElem? (i := 715) (by decide +kernel)), rfl⟩
theorem tw_716 : Cond.methodLinkNest "GhostTrain" 297 ⟨"GhostTrain$Foresight", "fittingNerves", "(LGhostTrain$Train;II)I"⟩ "GhostTrain" ∈ lw_tbl := List.mem_append_right _ (List.mem_of_getElem? (i := 716) (by decide +kernel))
theorem tw_718 : Cond.instanceMethod ⟨"GhostTrain$Foresight", "fittingNerves", "(LGhostTrain$Train;II)I"⟩ ∈ gh_G := List.mem_filter.mpr ⟨List.mem_append_right _ (List.mem_of_getElem? (i := 718) (by decide +kernel)), rfl⟩
theorem tw_719 : Cond.code ⟨"GhostTrain$Foresight", "fittingNerves", "(LGhostTrain$Train;II)I"⟩ cX2_fittingNerves 7 (some .int) ∈ gh_G := List.mem_filter.mpr ⟨List.mem_append_right _ (List.mem_of_getElem? (i := 719) (by decide +kernel)), rfl⟩
theorem tw_721 : Cond.instanceMethod ⟨"GhostTrain", "fails", "(IIII)J"⟩ ∈ gh_G := List.mem_filter.mpr ⟨List.mem_append_right _ (List.mem_of_getElem? (i := 721) (by decide +kernel)), rfl⟩
theorem tw_722 : Cond.selects "GhostTrain" ⟨"GhostTrain", "fails", "(IIII)J"⟩ ⟨"GhostTrain", "fails", "(IIII)J"⟩ ∈ gh_G := List.mem_filter.mpr ⟨List.mem_append_right _ (List.mem_of_getElem? (i := 722) (by decide +kernel)), rfl⟩
theorem tw_723 : Cond.code ⟨"GhostTrain", "fails", "(IIII)J"⟩ cX6_fails 5 (some .long) ∈ gh_G := List.mem_filter.mpr ⟨List.mem_append_right _ (List.mem_of_getElem? (i := 723) (by decide +kernel)), rfl⟩
theorem tw_724 : Cond.constantLong "GhostTrain" 300 (-1000001) ∈ gh_G := List.mem_filter.mpr ⟨List.mem_append_right _ (List.mem_of_getElem? (i := 724) (by decide +kernel)), rfl⟩
theorem tw_725 : Cond.methodLinkNest "GhostTrain" 302 ⟨"GhostTrain$Foresight", "screamsIfFailing", "(LGhostTrain$Train;IIII)J"⟩ "GhostTrain" ∈ lw_tbl := List.mem_append_right _ (List.mem_of_getElem? (i := 725) (by decide +kernel))
theorem tw_727 : Cond.instanceMethod ⟨"GhostTrain$Foresight", "screamsIfFailing", "(LGhostTrain$Train;IIII)J"⟩ ∈ gh_G := List.mem_filter.mpr ⟨List.mem_append_right _ (List.mem_of_getElem? (i := 727) (by decide +kernel)), rfl⟩
theorem tw_728 : Cond.code ⟨"GhostTrain$Foresight", "screamsIfFailing", "(LGhostTrain$Train;IIII)J"⟩ cX2_screamsIfFailing 15 (some .long) ∈ gh_G := List.mem_filter.mpr ⟨List.mem_append_right _ (List.mem_of_getElem? (i := 728) (by decide +kernel)), rfl⟩
theorem tw_729 : Cond.methodLink "GhostTrain$Foresight" 172 ⟨"GhostTrain$Foresight", "power", "(JI)J"⟩ ∈ gh_G := List.mem_filter.mpr ⟨List.mem_append_right _ (List.mem_of_getElem? (i := 729) (by decide +kernel)), rfl⟩
theorem tw_730 : Cond.static ⟨"GhostTrain$Foresight", "power", "(JI)J"⟩ ∈ gh_G := List.mem_filter.mpr ⟨List.mem_append_right _ (List.mem_of_getElem? (i := 730) (by decide +kernel)), rfl⟩
theorem tw_731 : Cond.code ⟨"GhostTrain$Foresight", "power", "(JI)J"⟩ cX2_power 6 (some .long) ∈ gh_G := List.mem_filter.mpr ⟨List.mem_append_right _ (List.mem_of_getElem? (i := 731) (by decide +kernel)), rfl⟩
theorem tw_732 : Cond.methodLink "GhostTrain$Foresight" 175 ⟨"GhostTrain$Foresight", "commonDivisor", "(JJ)J"⟩ ∈ gh_G := List.mem_filter.mpr ⟨List.mem_append_right _ (List.mem_of_getElem? (i := 732) (by decide +kernel)), rfl⟩
theorem tw_733 : Cond.static ⟨"GhostTrain$Foresight", "commonDivisor", "(JJ)J"⟩ ∈ gh_G := List.mem_filter.mpr ⟨List.mem_append_right _ (List.mem_of_getElem? (i := 733) (by decide +kernel)), rfl⟩
theorem tw_734 : Cond.code ⟨"GhostTrain$Foresight", "commonDivisor", "(JJ)J"⟩ cX2_commonDivisor 11 (some .long) ∈ gh_G := List.mem_filter.mpr ⟨List.mem_append_right _ (List.mem_of_getElem? (i := 734) (by decide +kernel)), rfl⟩
theorem tw_736 : Cond.instanceMethod ⟨"GhostTrain", "drawn", "(III)I"⟩ ∈ gh_G := List.mem_filter.mpr ⟨List.mem_append_right _ (List.mem_of_getElem? (i := 736) (by decide +kernel)), rfl⟩
theorem tw_737 : Cond.selects "GhostTrain" ⟨"GhostTrain", "drawn", "(III)I"⟩ ⟨"GhostTrain", "drawn", "(III)I"⟩ ∈ gh_G := List.mem_filter.mpr ⟨List.mem_append_right _ (List.mem_of_getElem? (i := 737) (by decide +kernel)), rfl⟩
theorem tw_738 : Cond.code ⟨"GhostTrain", "drawn", "(III)I"⟩ cX6_drawn 4 (some .int) ∈ gh_G := List.mem_filter.mpr ⟨List.mem_append_right _ (List.mem_of_getElem? (i := 738) (by decide +kernel)), rfl⟩
theorem tw_739 : Cond.constant "GhostTrain" 306 (999999) ∈ gh_G := List.mem_filter.mpr ⟨List.mem_append_right _ (List.mem_of_getElem? (i := 739) (by decide +kernel)), rfl⟩
theorem tw_740 : Cond.methodLinkNest "GhostTrain" 307 ⟨"GhostTrain$Foresight", "nightsByDraws", "(LGhostTrain$Train;III)I"⟩ "GhostTrain" ∈ lw_tbl := List.mem_append_right _ (List.mem_of_getElem? (i := 740) (by decide +kernel))
theorem tw_742 : Cond.instanceMethod ⟨"GhostTrain$Foresight", "nightsByDraws", "(LGhostTrain$Train;III)I"⟩ ∈ gh_G := List.mem_filter.mpr ⟨List.mem_append_right _ (List.mem_of_getElem? (i := 742) (by decide +kernel)), rfl⟩
theorem tw_743 : Cond.code ⟨"GhostTrain$Foresight", "nightsByDraws", "(LGhostTrain$Train;III)I"⟩ cX2_nightsByDraws 8 (some .int) ∈ gh_G := List.mem_filter.mpr ⟨List.mem_append_right _ (List.mem_of_getElem? (i := 743) (by decide +kernel)), rfl⟩
theorem tw_744 : Cond.constantLong "GhostTrain$Foresight" 179 (16807) ∈ gh_G := List.mem_filter.mpr ⟨List.mem_append_right _ (List.mem_of_getElem? (i := 744) (by decide +kernel)), rfl⟩
theorem tw_745 : Cond.constantLong "GhostTrain$Foresight" 181 (2147483647) ∈ gh_G := List.mem_filter.mpr ⟨List.mem_append_right _ (List.mem_of_getElem? (i := 745) (by decide +kernel)), rfl⟩
theorem tw_746 : Cond.methodLink "GhostTrain$Foresight" 183 ⟨"GhostTrain$Foresight", "draw", "(J)V"⟩ ∈ gh_G := List.mem_filter.mpr ⟨List.mem_append_right _ (List.mem_of_getElem? (i := 746) (by decide +kernel)), rfl⟩
theorem tw_748 : Cond.instanceMethod ⟨"GhostTrain$Foresight", "draw", "(J)V"⟩ ∈ gh_G := List.mem_filter.mpr ⟨List.mem_append_right _ (List.mem_of_getElem? (i := 748) (by decide +kernel)), rfl⟩
theorem tw_749 : Cond.code ⟨"GhostTrain$Foresight", "draw", "(J)V"⟩ cX2_draw 4 (none) ∈ gh_G := List.mem_filter.mpr ⟨List.mem_append_right _ (List.mem_of_getElem? (i := 749) (by decide +kernel)), rfl⟩
theorem tw_750 : Cond.methodLinkNest "GhostTrain$Foresight" 190 ⟨"GhostTrain$Train", "goAgain", "(I)V"⟩ "GhostTrain" ∈ lw_tbl := List.mem_append_right _ (List.mem_of_getElem? (i := 750) (by decide +kernel))
theorem tw_751 : Cond.constantLong "GhostTrain$Foresight" 193 (3) ∈ gh_G := List.mem_filter.mpr ⟨List.mem_append_right _ (List.mem_of_getElem? (i := 751) (by decide +kernel)), rfl⟩
theorem tw_752 : Cond.methodLinkNest "GhostTrain$Foresight" 187 ⟨"GhostTrain$Train", "allFear", "()I"⟩ "GhostTrain" ∈ lw_tbl := List.mem_append_right _ (List.mem_of_getElem? (i := 752) (by decide +kernel))
theorem tw_754 : Cond.instanceMethod ⟨"GhostTrain$Train", "allFear", "()I"⟩ ∈ gh_G := List.mem_filter.mpr ⟨List.mem_append_right _ (List.mem_of_getElem? (i := 754) (by decide +kernel)), rfl⟩
theorem tw_755 : Cond.code ⟨"GhostTrain$Train", "allFear", "()I"⟩ cX5_allFear 1 (some .int) ∈ gh_G := List.mem_filter.mpr ⟨List.mem_append_right _ (List.mem_of_getElem? (i := 755) (by decide +kernel)), rfl⟩
theorem tw_757 : Cond.instanceMethod ⟨"GhostTrain", "image", "(I)I"⟩ ∈ gh_G := List.mem_filter.mpr ⟨List.mem_append_right _ (List.mem_of_getElem? (i := 757) (by decide +kernel)), rfl⟩
theorem tw_758 : Cond.selects "GhostTrain" ⟨"GhostTrain", "image", "(I)I"⟩ ⟨"GhostTrain", "image", "(I)I"⟩ ∈ gh_G := List.mem_filter.mpr ⟨List.mem_append_right _ (List.mem_of_getElem? (i := 758) (by decide +kernel)), rfl⟩
theorem tw_759 : Cond.code ⟨"GhostTrain", "image", "(I)I"⟩ cX6_image 2 (some .int) ∈ gh_G := List.mem_filter.mpr ⟨List.mem_append_right _ (List.mem_of_getElem? (i := 759) (by decide +kernel)), rfl⟩
theorem tw_761 : Cond.instanceMethod ⟨"GhostTrain", "restore", "(I)I"⟩ ∈ gh_G := List.mem_filter.mpr ⟨List.mem_append_right _ (List.mem_of_getElem? (i := 761) (by decide +kernel)), rfl⟩
theorem tw_762 : Cond.selects "GhostTrain" ⟨"GhostTrain", "restore", "(I)I"⟩ ⟨"GhostTrain", "restore", "(I)I"⟩ ∈ gh_G := List.mem_filter.mpr ⟨List.mem_append_right _ (List.mem_of_getElem? (i := 762) (by decide +kernel)), rfl⟩
theorem tw_763 : Cond.code ⟨"GhostTrain", "restore", "(I)I"⟩ cX6_restore 2 (some .int) ∈ gh_G := List.mem_filter.mpr ⟨List.mem_append_right _ (List.mem_of_getElem? (i := 763) (by decide +kernel)), rfl⟩
theorem tw_765 : Cond.instanceMethod ⟨"GhostTrain", "kind", "(I)I"⟩ ∈ gh_G := List.mem_filter.mpr ⟨List.mem_append_right _ (List.mem_of_getElem? (i := 765) (by decide +kernel)), rfl⟩
theorem tw_766 : Cond.selects "GhostTrain" ⟨"GhostTrain", "kind", "(I)I"⟩ ⟨"GhostTrain", "kind", "(I)I"⟩ ∈ gh_G := List.mem_filter.mpr ⟨List.mem_append_right _ (List.mem_of_getElem? (i := 766) (by decide +kernel)), rfl⟩
theorem tw_767 : Cond.code ⟨"GhostTrain", "kind", "(I)I"⟩ cX6_kind 2 (some .int) ∈ gh_G := List.mem_filter.mpr ⟨List.mem_append_right _ (List.mem_of_getElem? (i := 767) (by decide +kernel)), rfl⟩
theorem tw_769 : Cond.instanceMethod ⟨"GhostTrain", "as", "(II)I"⟩ ∈ gh_G := List.mem_filter.mpr ⟨List.mem_append_right _ (List.mem_of_getElem? (i := 769) (by decide +kernel)), rfl⟩
theorem tw_770 : Cond.selects "GhostTrain" ⟨"GhostTrain", "as", "(II)I"⟩ ⟨"GhostTrain", "as", "(II)I"⟩ ∈ gh_G := List.mem_filter.mpr ⟨List.mem_append_right _ (List.mem_of_getElem? (i := 770) (by decide +kernel)), rfl⟩
theorem tw_771 : Cond.code ⟨"GhostTrain", "as", "(II)I"⟩ cX6_as 3 (some .int) ∈ gh_G := List.mem_filter.mpr ⟨List.mem_append_right _ (List.mem_of_getElem? (i := 771) (by decide +kernel)), rfl⟩
theorem tw_772 : Cond.methodLinkNest "GhostTrain" 316 ⟨"GhostTrain$Asker", "isOfKind", "(II)Z"⟩ "GhostTrain" ∈ lw_tbl := List.mem_append_right _ (List.mem_of_getElem? (i := 772) (by decide +kernel))
theorem tw_773 : Cond.static ⟨"GhostTrain$Asker", "isOfKind", "(II)Z"⟩ ∈ gh_G := List.mem_filter.mpr ⟨List.mem_append_right _ (List.mem_of_getElem? (i := 773) (by decide +kernel)), rfl⟩
theorem tw_774 : Cond.code ⟨"GhostTrain$Asker", "isOfKind", "(II)Z"⟩ cX1_isOfKind 4 (some .boolean) ∈ gh_G := List.mem_filter.mpr ⟨List.mem_append_right _ (List.mem_of_getElem? (i := 774) (by decide +kernel)), rfl⟩
theorem tw_775 : Cond.fieldLink "GhostTrain$Asker" 15 "GhostTrain$Asker" "IS_TOO" "[I" ∈ gh_G := List.mem_filter.mpr ⟨List.mem_append_right _ (List.mem_of_getElem? (i := 775) (by decide +kernel)), rfl⟩
theorem tw_778 : Cond.instanceMethod ⟨"GhostTrain", "ask", "(II)I"⟩ ∈ gh_G := List.mem_filter.mpr ⟨List.mem_append_right _ (List.mem_of_getElem? (i := 778) (by decide +kernel)), rfl⟩
theorem tw_779 : Cond.selects "GhostTrain" ⟨"GhostTrain", "ask", "(II)I"⟩ ⟨"GhostTrain", "ask", "(II)I"⟩ ∈ gh_G := List.mem_filter.mpr ⟨List.mem_append_right _ (List.mem_of_getElem? (i := 779) (by decide +kernel)), rfl⟩
theorem tw_780 : Cond.code ⟨"GhostTrain", "ask", "(II)I"⟩ cX6_ask 3 (some .int) ∈ gh_G := List.mem_filter.mpr ⟨List.mem_append_right _ (List.mem_of_getElem? (i := 780) (by decide +kernel)), rfl⟩
theorem tw_781 : Cond.methodLinkNest "GhostTrain" 319 ⟨"GhostTrain$Asker", "answer", "(LGhostTrain$Train;II)I"⟩ "GhostTrain" ∈ lw_tbl := List.mem_append_right _ (List.mem_of_getElem? (i := 781) (by decide +kernel))
theorem tw_783 : Cond.instanceMethod ⟨"GhostTrain$Asker", "answer", "(LGhostTrain$Train;II)I"⟩ ∈ gh_G := List.mem_filter.mpr ⟨List.mem_append_right _ (List.mem_of_getElem? (i := 783) (by decide +kernel)), rfl⟩
theorem tw_784 : Cond.code ⟨"GhostTrain$Asker", "answer", "(LGhostTrain$Train;II)I"⟩ cX1_answer 5 (some .int) ∈ gh_G := List.mem_filter.mpr ⟨List.mem_append_right _ (List.mem_of_getElem? (i := 784) (by decide +kernel)), rfl⟩
theorem tw_785 : Cond.methodLinkNest "GhostTrain$Asker" 27 ⟨"GhostTrain", "within", "(III)Z"⟩ "GhostTrain" ∈ lw_tbl := List.mem_append_right _ (List.mem_of_getElem? (i := 785) (by decide +kernel))
theorem tw_786 : Cond.constant "GhostTrain$Asker" 31 (-1000000) ∈ gh_G := List.mem_filter.mpr ⟨List.mem_append_right _ (List.mem_of_getElem? (i := 786) (by decide +kernel)), rfl⟩
theorem tw_787 : Cond.fieldLink "GhostTrain$Asker" 32 "GhostTrain$Asker" "SIZE_BODY" "[I" ∈ gh_G := List.mem_filter.mpr ⟨List.mem_append_right _ (List.mem_of_getElem? (i := 787) (by decide +kernel)), rfl⟩
theorem tw_789 : Cond.fieldLink "GhostTrain$Asker" 35 "GhostTrain$Asker" "MARK_BODY" "[I" ∈ gh_G := List.mem_filter.mpr ⟨List.mem_append_right _ (List.mem_of_getElem? (i := 789) (by decide +kernel)), rfl⟩
theorem tw_791 : Cond.methodLink "GhostTrain$Asker" 38 ⟨"GhostTrain$Asker", "give", "(LGhostTrain$Asker;LGhostTrain$Train;III)I"⟩ ∈ gh_G := List.mem_filter.mpr ⟨List.mem_append_right _ (List.mem_of_getElem? (i := 791) (by decide +kernel)), rfl⟩
theorem tw_792 : Cond.static ⟨"GhostTrain$Asker", "give", "(LGhostTrain$Asker;LGhostTrain$Train;III)I"⟩ ∈ gh_G := List.mem_filter.mpr ⟨List.mem_append_right _ (List.mem_of_getElem? (i := 792) (by decide +kernel)), rfl⟩
theorem tw_793 : Cond.code ⟨"GhostTrain$Asker", "give", "(LGhostTrain$Asker;LGhostTrain$Train;III)I"⟩ cX1_give 7 (some .int) ∈ gh_G := List.mem_filter.mpr ⟨List.mem_append_right _ (List.mem_of_getElem? (i := 793) (by decide +kernel)), rfl⟩
theorem tw_794 : Cond.methodLink "GhostTrain$Asker" 42 ⟨"GhostTrain$Asker", "begins", "(I)V"⟩ ∈ gh_G := List.mem_filter.mpr ⟨List.mem_append_right _ (List.mem_of_getElem? (i := 794) (by decide +kernel)), rfl⟩
theorem tw_796 : Cond.instanceMethod ⟨"GhostTrain$Asker", "begins", "(I)V"⟩ ∈ gh_G := List.mem_filter.mpr ⟨List.mem_append_right _ (List.mem_of_getElem? (i := 796) (by decide +kernel)), rfl⟩
theorem tw_797 : Cond.code ⟨"GhostTrain$Asker", "begins", "(I)V"⟩ cX1_begins 2 (none) ∈ gh_G := List.mem_filter.mpr ⟨List.mem_append_right _ (List.mem_of_getElem? (i := 797) (by decide +kernel)), rfl⟩
theorem tw_799 : Cond.instanceMethod ⟨"GhostTrain", "trace", "(I)I"⟩ ∈ gh_G := List.mem_filter.mpr ⟨List.mem_append_right _ (List.mem_of_getElem? (i := 799) (by decide +kernel)), rfl⟩
theorem tw_800 : Cond.selects "GhostTrain" ⟨"GhostTrain", "trace", "(I)I"⟩ ⟨"GhostTrain", "trace", "(I)I"⟩ ∈ gh_G := List.mem_filter.mpr ⟨List.mem_append_right _ (List.mem_of_getElem? (i := 800) (by decide +kernel)), rfl⟩
theorem tw_801 : Cond.code ⟨"GhostTrain", "trace", "(I)I"⟩ cX6_trace 2 (some .int) ∈ gh_G := List.mem_filter.mpr ⟨List.mem_append_right _ (List.mem_of_getElem? (i := 801) (by decide +kernel)), rfl⟩
theorem tw_803 : Cond.instanceMethod ⟨"GhostTrain", "count", "(I)I"⟩ ∈ gh_G := List.mem_filter.mpr ⟨List.mem_append_right _ (List.mem_of_getElem? (i := 803) (by decide +kernel)), rfl⟩
theorem tw_804 : Cond.selects "GhostTrain" ⟨"GhostTrain", "count", "(I)I"⟩ ⟨"GhostTrain", "count", "(I)I"⟩ ∈ gh_G := List.mem_filter.mpr ⟨List.mem_append_right _ (List.mem_of_getElem? (i := 804) (by decide +kernel)), rfl⟩
theorem tw_805 : Cond.code ⟨"GhostTrain", "count", "(I)I"⟩ cX6_count 2 (some .int) ∈ gh_G := List.mem_filter.mpr ⟨List.mem_append_right _ (List.mem_of_getElem? (i := 805) (by decide +kernel)), rfl⟩
theorem tw_806 : Cond.methodLink "GhostTrain" 328 ⟨"GhostTrain", "rowsThere", "()I"⟩ ∈ gh_G := List.mem_filter.mpr ⟨List.mem_append_right _ (List.mem_of_getElem? (i := 806) (by decide +kernel)), rfl⟩
theorem tw_808 : Cond.instanceMethod ⟨"GhostTrain", "rowsThere", "()I"⟩ ∈ gh_G := List.mem_filter.mpr ⟨List.mem_append_right _ (List.mem_of_getElem? (i := 808) (by decide +kernel)), rfl⟩
theorem tw_809 : Cond.code ⟨"GhostTrain", "rowsThere", "()I"⟩ cX6_rowsThere 3 (some .int) ∈ gh_G := List.mem_filter.mpr ⟨List.mem_append_right _ (List.mem_of_getElem? (i := 809) (by decide +kernel)), rfl⟩
theorem tw_810 : Cond.methodLinkNest "GhostTrain" 331 ⟨"GhostTrain$Train", "allFear", "()I"⟩ "GhostTrain" ∈ lw_tbl := List.mem_append_right _ (List.mem_of_getElem? (i := 810) (by decide +kernel))
theorem tw_812 : Cond.instanceMethod ⟨"GhostTrain", "status", "()I"⟩ ∈ gh_G := List.mem_filter.mpr ⟨List.mem_append_right _ (List.mem_of_getElem? (i := 812) (by decide +kernel)), rfl⟩
theorem tw_813 : Cond.selects "GhostTrain" ⟨"GhostTrain", "status", "()I"⟩ ⟨"GhostTrain", "status", "()I"⟩ ∈ gh_G := List.mem_filter.mpr ⟨List.mem_append_right _ (List.mem_of_getElem? (i := 813) (by decide +kernel)), rfl⟩
theorem tw_814 : Cond.code ⟨"GhostTrain", "status", "()I"⟩ cX6_status 1 (some .int) ∈ gh_G := List.mem_filter.mpr ⟨List.mem_append_right _ (List.mem_of_getElem? (i := 814) (by decide +kernel)), rfl⟩
theorem tw_821 : Cond.fieldLink "GhostTrainModel" 7 "GhostTrainModel" "w" "[I" ∈ gh_G := List.mem_filter.mpr ⟨List.mem_append_right _ (List.mem_of_getElem? (i := 821) (by decide +kernel)), rfl⟩
theorem tw_822 : Cond.fieldLink "GhostTrainModel" 131 "GhostTrainModel" "acts" "I" ∈ gh_G := List.mem_filter.mpr ⟨List.mem_append_right _ (List.mem_of_getElem? (i := 822) (by decide +kernel)), rfl⟩
theorem tw_823 : Cond.fieldLink "GhostTrainModel" 253 "GhostTrainModel" "kept" "I" ∈ gh_G := List.mem_filter.mpr ⟨List.mem_append_right _ (List.mem_of_getElem? (i := 823) (by decide +kernel)), rfl⟩
theorem tw_824 : Cond.fieldLink "GhostTrainModel" 13 "GhostTrainModel" "rank" "[I" ∈ gh_G := List.mem_filter.mpr ⟨List.mem_append_right _ (List.mem_of_getElem? (i := 824) (by decide +kernel)), rfl⟩
theorem tw_825 : Cond.fieldLink "GhostTrainModel" 16 "GhostTrainModel" "best" "[I" ∈ gh_G := List.mem_filter.mpr ⟨List.mem_append_right _ (List.mem_of_getElem? (i := 825) (by decide +kernel)), rfl⟩
theorem tw_826 : Cond.fieldLink "GhostTrainModel" 143 "GhostTrainModel" "howls" "I" ∈ gh_G := List.mem_filter.mpr ⟨List.mem_append_right _ (List.mem_of_getElem? (i := 826) (by decide +kernel)), rfl⟩
theorem tw_827 : Cond.fieldLink "GhostTrainModel" 19 "GhostTrainModel" "howled" "[I" ∈ gh_G := List.mem_filter.mpr ⟨List.mem_append_right _ (List.mem_of_getElem? (i := 827) (by decide +kernel)), rfl⟩
theorem tw_828 : Cond.fieldLink "GhostTrainModel" 22 "GhostTrainModel" "tape" "[I" ∈ gh_G := List.mem_filter.mpr ⟨List.mem_append_right _ (List.mem_of_getElem? (i := 828) (by decide +kernel)), rfl⟩
theorem tw_829 : Cond.fieldLink "GhostTrainModel" 70 "GhostTrainModel" "taped" "I" ∈ gh_G := List.mem_filter.mpr ⟨List.mem_append_right _ (List.mem_of_getElem? (i := 829) (by decide +kernel)), rfl⟩
theorem tw_830 : Cond.fieldLink "GhostTrainModel" 124 "GhostTrainModel" "fault" "I" ∈ gh_G := List.mem_filter.mpr ⟨List.mem_append_right _ (List.mem_of_getElem? (i := 830) (by decide +kernel)), rfl⟩
theorem tw_831 : Cond.fieldLink "GhostTrainModel" 25 "GhostTrainModel" "items" "[I" ∈ gh_G := List.mem_filter.mpr ⟨List.mem_append_right _ (List.mem_of_getElem? (i := 831) (by decide +kernel)), rfl⟩
theorem tw_832 : Cond.fieldLink "GhostTrainModel" 28 "GhostTrainModel" "lanes" "[I" ∈ gh_G := List.mem_filter.mpr ⟨List.mem_append_right _ (List.mem_of_getElem? (i := 832) (by decide +kernel)), rfl⟩
theorem tw_833 : Cond.fieldLink "GhostTrainModel" 31 "GhostTrainModel" "sizes" "[I" ∈ gh_G := List.mem_filter.mpr ⟨List.mem_append_right _ (List.mem_of_getElem? (i := 833) (by decide +kernel)), rfl⟩
theorem tw_834 : Cond.fieldLink "GhostTrainModel" 46 "GhostTrainModel" "status" "I" ∈ gh_G := List.mem_filter.mpr ⟨List.mem_append_right _ (List.mem_of_getElem? (i := 834) (by decide +kernel)), rfl⟩
theorem tw_835 : Cond.fieldLink "GhostTrainModel" 34 "GhostTrainModel" "trace" "[I" ∈ gh_G := List.mem_filter.mpr ⟨List.mem_append_right _ (List.mem_of_getElem? (i := 835) (by decide +kernel)), rfl⟩
theorem tw_836 : Cond.fieldLink "GhostTrainModel" 259 "GhostTrainModel" "traced" "I" ∈ gh_G := List.mem_filter.mpr ⟨List.mem_append_right _ (List.mem_of_getElem? (i := 836) (by decide +kernel)), rfl⟩
theorem tw_837 : Cond.fieldLink "GhostTrainModel" 84 "GhostTrainModel" "at" "I" ∈ gh_G := List.mem_filter.mpr ⟨List.mem_append_right _ (List.mem_of_getElem? (i := 837) (by decide +kernel)), rfl⟩
theorem tw_838 : Cond.fieldLink "GhostTrainModel" 74 "GhostTrainModel" "wrong" "I" ∈ gh_G := List.mem_filter.mpr ⟨List.mem_append_right _ (List.mem_of_getElem? (i := 838) (by decide +kernel)), rfl⟩
theorem tw_839 : Cond.fieldLink "GhostTrainModel" 81 "GhostTrainModel" "place" "I" ∈ gh_G := List.mem_filter.mpr ⟨List.mem_append_right _ (List.mem_of_getElem? (i := 839) (by decide +kernel)), rfl⟩
theorem tw_840 : Cond.fieldLink "GhostTrainModel" 37 "GhostTrainModel" "order" "[I" ∈ gh_G := List.mem_filter.mpr ⟨List.mem_append_right _ (List.mem_of_getElem? (i := 840) (by decide +kernel)), rfl⟩
theorem tw_841 : Cond.fieldLink "GhostTrainModel" 40 "GhostTrainModel" "worth" "[I" ∈ gh_G := List.mem_filter.mpr ⟨List.mem_append_right _ (List.mem_of_getElem? (i := 841) (by decide +kernel)), rfl⟩
theorem tw_842 : Cond.fieldLink "GhostTrainModel" 43 "GhostTrainModel" "behind" "[I" ∈ gh_G := List.mem_filter.mpr ⟨List.mem_append_right _ (List.mem_of_getElem? (i := 842) (by decide +kernel)), rfl⟩
theorem tw_889 : Cond.instanceMethod ⟨"GhostTrainModel", "row", "(III)I"⟩ ∈ gh_G := List.mem_filter.mpr ⟨List.mem_append_right _ (List.mem_of_getElem? (i := 889) (by decide +kernel)), rfl⟩
theorem tw_890 : Cond.selects "GhostTrainModel" ⟨"GhostTrainModel", "row", "(III)I"⟩ ⟨"GhostTrainModel", "row", "(III)I"⟩ ∈ gh_G := List.mem_filter.mpr ⟨List.mem_append_right _ (List.mem_of_getElem? (i := 890) (by decide +kernel)), rfl⟩
theorem tw_891 : Cond.code ⟨"GhostTrainModel", "row", "(III)I"⟩ cX7_row 5 (some .int) ∈ gh_G := List.mem_filter.mpr ⟨List.mem_append_right _ (List.mem_of_getElem? (i := 891) (by decide +kernel)), rfl⟩
theorem tw_892 : Cond.methodLink "GhostTrainModel" 55 ⟨"GhostTrainModel", "isRow", "(I)Z"⟩ ∈ gh_G := List.mem_filter.mpr ⟨List.mem_append_right _ (List.mem_of_getElem? (i := 892) (by decide +kernel)), rfl⟩
theorem tw_893 : Cond.static ⟨"GhostTrainModel", "isRow", "(I)Z"⟩ ∈ gh_G := List.mem_filter.mpr ⟨List.mem_append_right _ (List.mem_of_getElem? (i := 893) (by decide +kernel)), rfl⟩
theorem tw_894 : Cond.code ⟨"GhostTrainModel", "isRow", "(I)Z"⟩ cX7_isRow 1 (some .boolean) ∈ gh_G := List.mem_filter.mpr ⟨List.mem_append_right _ (List.mem_of_getElem? (i := 894) (by decide +kernel)), rfl⟩
theorem tw_895 : Cond.methodLink "GhostTrainModel" 51 ⟨"GhostTrainModel", "in", "(III)Z"⟩ ∈ gh_G := List.mem_filter.mpr ⟨List.mem_append_right _ (List.mem_of_getElem? (i := 895) (by decide +kernel)), rfl⟩
theorem tw_896 : Cond.static ⟨"GhostTrainModel", "in", "(III)Z"⟩ ∈ gh_G := List.mem_filter.mpr ⟨List.mem_append_right _ (List.mem_of_getElem? (i := 896) (by decide +kernel)), rfl⟩
theorem tw_897 : Cond.code ⟨"GhostTrainModel", "in", "(III)Z"⟩ cX7_in 3 (some .boolean) ∈ gh_G := List.mem_filter.mpr ⟨List.mem_append_right _ (List.mem_of_getElem? (i := 897) (by decide +kernel)), rfl⟩
theorem tw_898 : Cond.constant "GhostTrainModel" 59 (-1000001) ∈ gh_G := List.mem_filter.mpr ⟨List.mem_append_right _ (List.mem_of_getElem? (i := 898) (by decide +kernel)), rfl⟩
theorem tw_899 : Cond.methodLink "GhostTrainModel" 60 ⟨"GhostTrainModel", "found", "(I)I"⟩ ∈ gh_G := List.mem_filter.mpr ⟨List.mem_append_right _ (List.mem_of_getElem? (i := 899) (by decide +kernel)), rfl⟩
theorem tw_901 : Cond.instanceMethod ⟨"GhostTrainModel", "found", "(I)I"⟩ ∈ gh_G := List.mem_filter.mpr ⟨List.mem_append_right _ (List.mem_of_getElem? (i := 901) (by decide +kernel)), rfl⟩
theorem tw_902 : Cond.code ⟨"GhostTrainModel", "found", "(I)I"⟩ cX7_found 2 (some .int) ∈ gh_G := List.mem_filter.mpr ⟨List.mem_append_right _ (List.mem_of_getElem? (i := 902) (by decide +kernel)), rfl⟩
theorem tw_903 : Cond.constant "GhostTrainModel" 50 (-1000010) ∈ gh_G := List.mem_filter.mpr ⟨List.mem_append_right _ (List.mem_of_getElem? (i := 903) (by decide +kernel)), rfl⟩
theorem tw_904 : Cond.methodLink "GhostTrainModel" 64 ⟨"GhostTrainModel", "well", "(I)I"⟩ ∈ gh_G := List.mem_filter.mpr ⟨List.mem_append_right _ (List.mem_of_getElem? (i := 904) (by decide +kernel)), rfl⟩
theorem tw_906 : Cond.instanceMethod ⟨"GhostTrainModel", "well", "(I)I"⟩ ∈ gh_G := List.mem_filter.mpr ⟨List.mem_append_right _ (List.mem_of_getElem? (i := 906) (by decide +kernel)), rfl⟩
theorem tw_907 : Cond.code ⟨"GhostTrainModel", "well", "(I)I"⟩ cX7_well 2 (some .int) ∈ gh_G := List.mem_filter.mpr ⟨List.mem_append_right _ (List.mem_of_getElem? (i := 907) (by decide +kernel)), rfl⟩
theorem tw_909 : Cond.instanceMethod ⟨"GhostTrainModel", "set", "(III)I"⟩ ∈ gh_G := List.mem_filter.mpr ⟨List.mem_append_right _ (List.mem_of_getElem? (i := 909) (by decide +kernel)), rfl⟩
theorem tw_910 : Cond.selects "GhostTrainModel" ⟨"GhostTrainModel", "set", "(III)I"⟩ ⟨"GhostTrainModel", "set", "(III)I"⟩ ∈ gh_G := List.mem_filter.mpr ⟨List.mem_append_right _ (List.mem_of_getElem? (i := 910) (by decide +kernel)), rfl⟩
theorem tw_911 : Cond.code ⟨"GhostTrainModel", "set", "(III)I"⟩ cX7_set 5 (some .int) ∈ gh_G := List.mem_filter.mpr ⟨List.mem_append_right _ (List.mem_of_getElem? (i := 911) (by decide +kernel)), rfl⟩
theorem tw_913 : Cond.instanceMethod ⟨"GhostTrainModel", "copy", "(IIIII)I"⟩ ∈ gh_G := List.mem_filter.mpr ⟨List.mem_append_right _ (List.mem_of_getElem? (i := 913) (by decide +kernel)), rfl⟩
theorem tw_914 : Cond.selects "GhostTrainModel" ⟨"GhostTrainModel", "copy", "(IIIII)I"⟩ ⟨"GhostTrainModel", "copy", "(IIIII)I"⟩ ∈ gh_G := List.mem_filter.mpr ⟨List.mem_append_right _ (List.mem_of_getElem? (i := 914) (by decide +kernel)), rfl⟩
theorem tw_915 : Cond.code ⟨"GhostTrainModel", "copy", "(IIIII)I"⟩ cX7_copy 9 (some .int) ∈ gh_G := List.mem_filter.mpr ⟨List.mem_append_right _ (List.mem_of_getElem? (i := 915) (by decide +kernel)), rfl⟩
theorem tw_916 : Cond.methodLink "GhostTrainModel" 67 ⟨"GhostTrainModel", "isPart", "(III)Z"⟩ ∈ gh_G := List.mem_filter.mpr ⟨List.mem_append_right _ (List.mem_of_getElem? (i := 916) (by decide +kernel)), rfl⟩
theorem tw_918 : Cond.instanceMethod ⟨"GhostTrainModel", "isPart", "(III)Z"⟩ ∈ gh_G := List.mem_filter.mpr ⟨List.mem_append_right _ (List.mem_of_getElem? (i := 918) (by decide +kernel)), rfl⟩
theorem tw_919 : Cond.code ⟨"GhostTrainModel", "isPart", "(III)Z"⟩ cX7_isPart 4 (some .boolean) ∈ gh_G := List.mem_filter.mpr ⟨List.mem_append_right _ (List.mem_of_getElem? (i := 919) (by decide +kernel)), rfl⟩
theorem tw_921 : Cond.instanceMethod ⟨"GhostTrainModel", "drop", "(I)I"⟩ ∈ gh_G := List.mem_filter.mpr ⟨List.mem_append_right _ (List.mem_of_getElem? (i := 921) (by decide +kernel)), rfl⟩
theorem tw_922 : Cond.selects "GhostTrainModel" ⟨"GhostTrainModel", "drop", "(I)I"⟩ ⟨"GhostTrainModel", "drop", "(I)I"⟩ ∈ gh_G := List.mem_filter.mpr ⟨List.mem_append_right _ (List.mem_of_getElem? (i := 922) (by decide +kernel)), rfl⟩
theorem tw_923 : Cond.code ⟨"GhostTrainModel", "drop", "(I)I"⟩ cX7_drop 3 (some .int) ∈ gh_G := List.mem_filter.mpr ⟨List.mem_append_right _ (List.mem_of_getElem? (i := 923) (by decide +kernel)), rfl⟩
theorem tw_925 : Cond.instanceMethod ⟨"GhostTrainModel", "feed", "(I)I"⟩ ∈ gh_G := List.mem_filter.mpr ⟨List.mem_append_right _ (List.mem_of_getElem? (i := 925) (by decide +kernel)), rfl⟩
theorem tw_926 : Cond.selects "GhostTrainModel" ⟨"GhostTrainModel", "feed", "(I)I"⟩ ⟨"GhostTrainModel", "feed", "(I)I"⟩ ∈ gh_G := List.mem_filter.mpr ⟨List.mem_append_right _ (List.mem_of_getElem? (i := 926) (by decide +kernel)), rfl⟩
theorem tw_927 : Cond.code ⟨"GhostTrainModel", "feed", "(I)I"⟩ cX7_feed 2 (some .int) ∈ gh_G := List.mem_filter.mpr ⟨List.mem_append_right _ (List.mem_of_getElem? (i := 927) (by decide +kernel)), rfl⟩
theorem tw_928 : Cond.constant "GhostTrainModel" 73 (-1000003) ∈ gh_G := List.mem_filter.mpr ⟨List.mem_append_right _ (List.mem_of_getElem? (i := 928) (by decide +kernel)), rfl⟩
theorem tw_930 : Cond.instanceMethod ⟨"GhostTrainModel", "train", "()I"⟩ ∈ gh_G := List.mem_filter.mpr ⟨List.mem_append_right _ (List.mem_of_getElem? (i := 930) (by decide +kernel)), rfl⟩
theorem tw_931 : Cond.selects "GhostTrainModel" ⟨"GhostTrainModel", "train", "()I"⟩ ⟨"GhostTrainModel", "train", "()I"⟩ ∈ gh_G := List.mem_filter.mpr ⟨List.mem_append_right _ (List.mem_of_getElem? (i := 931) (by decide +kernel)), rfl⟩
theorem tw_932 : Cond.code ⟨"GhostTrainModel", "train", "()I"⟩ cX7_train 2 (some .int) ∈ gh_G := List.mem_filter.mpr ⟨List.mem_append_right _ (List.mem_of_getElem? (i := 932) (by decide +kernel)), rfl⟩
theorem tw_933 : Cond.methodLink "GhostTrainModel" 121 ⟨"GhostTrainModel", "readAll", "()V"⟩ ∈ gh_G := List.mem_filter.mpr ⟨List.mem_append_right _ (List.mem_of_getElem? (i := 933) (by decide +kernel)), rfl⟩
theorem tw_935 : Cond.instanceMethod ⟨"GhostTrainModel", "readAll", "()V"⟩ ∈ gh_G := List.mem_filter.mpr ⟨List.mem_append_right _ (List.mem_of_getElem? (i := 935) (by decide +kernel)), rfl⟩
theorem tw_936 : Cond.code ⟨"GhostTrainModel", "readAll", "()V"⟩ cX7_readAll 2 (none) ∈ gh_G := List.mem_filter.mpr ⟨List.mem_append_right _ (List.mem_of_getElem? (i := 936) (by decide +kernel)), rfl⟩
theorem tw_937 : Cond.methodLink "GhostTrainModel" 108 ⟨"GhostTrainModel", "sign", "(I)V"⟩ ∈ gh_G := List.mem_filter.mpr ⟨List.mem_append_right _ (List.mem_of_getElem? (i := 937) (by decide +kernel)), rfl⟩
theorem tw_939 : Cond.instanceMethod ⟨"GhostTrainModel", "sign", "(I)V"⟩ ∈ gh_G := List.mem_filter.mpr ⟨List.mem_append_right _ (List.mem_of_getElem? (i := 939) (by decide +kernel)), rfl⟩
theorem tw_940 : Cond.code ⟨"GhostTrainModel", "sign", "(I)V"⟩ cX7_sign 2 (none) ∈ gh_G := List.mem_filter.mpr ⟨List.mem_append_right _ (List.mem_of_getElem? (i := 940) (by decide +kernel)), rfl⟩
theorem tw_941 : Cond.methodLink "GhostTrainModel" 77 ⟨"GhostTrainModel", "fine", "()Z"⟩ ∈ gh_G := List.mem_filter.mpr ⟨List.mem_append_right _ (List.mem_of_getElem? (i := 941) (by decide +kernel)), rfl⟩
theorem tw_943 : Cond.instanceMethod ⟨"GhostTrainModel", "fine", "()Z"⟩ ∈ gh_G := List.mem_filter.mpr ⟨List.mem_append_right _ (List.mem_of_getElem? (i := 943) (by decide +kernel)), rfl⟩
theorem tw_944 : Cond.code ⟨"GhostTrainModel", "fine", "()Z"⟩ cX7_fine 1 (some .boolean) ∈ gh_G := List.mem_filter.mpr ⟨List.mem_append_right _ (List.mem_of_getElem? (i := 944) (by decide +kernel)), rfl⟩
theorem tw_945 : Cond.methodLink "GhostTrainModel" 94 ⟨"GhostTrainModel", "here", "()I"⟩ ∈ gh_G := List.mem_filter.mpr ⟨List.mem_append_right _ (List.mem_of_getElem? (i := 945) (by decide +kernel)), rfl⟩
theorem tw_947 : Cond.instanceMethod ⟨"GhostTrainModel", "here", "()I"⟩ ∈ gh_G := List.mem_filter.mpr ⟨List.mem_append_right _ (List.mem_of_getElem? (i := 947) (by decide +kernel)), rfl⟩
theorem tw_948 : Cond.code ⟨"GhostTrainModel", "here", "()I"⟩ cX7_here 1 (some .int) ∈ gh_G := List.mem_filter.mpr ⟨List.mem_append_right _ (List.mem_of_getElem? (i := 948) (by decide +kernel)), rfl⟩
theorem tw_949 : Cond.methodLink "GhostTrainModel" 90 ⟨"GhostTrainModel", "fail", "(II)V"⟩ ∈ gh_G := List.mem_filter.mpr ⟨List.mem_append_right _ (List.mem_of_getElem? (i := 949) (by decide +kernel)), rfl⟩
theorem tw_951 : Cond.instanceMethod ⟨"GhostTrainModel", "fail", "(II)V"⟩ ∈ gh_G := List.mem_filter.mpr ⟨List.mem_append_right _ (List.mem_of_getElem? (i := 951) (by decide +kernel)), rfl⟩
theorem tw_952 : Cond.code ⟨"GhostTrainModel", "fail", "(II)V"⟩ cX7_fail 3 (none) ∈ gh_G := List.mem_filter.mpr ⟨List.mem_append_right _ (List.mem_of_getElem? (i := 952) (by decide +kernel)), rfl⟩
theorem tw_953 : Cond.methodLink "GhostTrainModel" 105 ⟨"GhostTrainModel", "number", "(II)I"⟩ ∈ gh_G := List.mem_filter.mpr ⟨List.mem_append_right _ (List.mem_of_getElem? (i := 953) (by decide +kernel)), rfl⟩
theorem tw_955 : Cond.instanceMethod ⟨"GhostTrainModel", "number", "(II)I"⟩ ∈ gh_G := List.mem_filter.mpr ⟨List.mem_append_right _ (List.mem_of_getElem? (i := 955) (by decide +kernel)), rfl⟩
theorem tw_956 : Cond.code ⟨"GhostTrainModel", "number", "(II)I"⟩ cX7_number 5 (some .int) ∈ gh_G := List.mem_filter.mpr ⟨List.mem_append_right _ (List.mem_of_getElem? (i := 956) (by decide +kernel)), rfl⟩
theorem tw_957 : Cond.methodLink "GhostTrainModel" 87 ⟨"GhostTrainModel", "isFigure", "(I)Z"⟩ ∈ gh_G := List.mem_filter.mpr ⟨List.mem_append_right _ (List.mem_of_getElem? (i := 957) (by decide +kernel)), rfl⟩
theorem tw_959 : Cond.instanceMethod ⟨"GhostTrainModel", "isFigure", "(I)Z"⟩ ∈ gh_G := List.mem_filter.mpr ⟨List.mem_append_right _ (List.mem_of_getElem? (i := 959) (by decide +kernel)), rfl⟩
theorem tw_960 : Cond.code ⟨"GhostTrainModel", "isFigure", "(I)Z"⟩ cX7_isFigure 2 (some .boolean) ∈ gh_G := List.mem_filter.mpr ⟨List.mem_append_right _ (List.mem_of_getElem? (i := 960) (by decide +kernel)), rfl⟩
theorem tw_961 : Cond.methodLink "GhostTrainModel" 102 ⟨"GhostTrainModel", "kindOf", "(I)I"⟩ ∈ gh_G := List.mem_filter.mpr ⟨List.mem_append_right _ (List.mem_of_getElem? (i := 961) (by decide +kernel)), rfl⟩
theorem tw_962 : Cond.static ⟨"GhostTrainModel", "kindOf", "(I)I"⟩ ∈ gh_G := List.mem_filter.mpr ⟨List.mem_append_right _ (List.mem_of_getElem? (i := 962) (by decide +kernel)), rfl⟩
theorem tw_963 : Cond.code ⟨"GhostTrainModel", "kindOf", "(I)I"⟩ cX7_kindOf 1 (some .int) ∈ gh_G := List.mem_filter.mpr ⟨List.mem_append_right _ (List.mem_of_getElem? (i := 963) (by decide +kernel)), rfl⟩
theorem tw_964 : Cond.methodLink "GhostTrainModel" 115 ⟨"GhostTrainModel", "readTrick", "()V"⟩ ∈ gh_G := List.mem_filter.mpr ⟨List.mem_append_right _ (List.mem_of_getElem? (i := 964) (by decide +kernel)), rfl⟩
theorem tw_966 : Cond.instanceMethod ⟨"GhostTrainModel", "readTrick", "()V"⟩ ∈ gh_G := List.mem_filter.mpr ⟨List.mem_append_right _ (List.mem_of_getElem? (i := 966) (by decide +kernel)), rfl⟩
theorem tw_967 : Cond.code ⟨"GhostTrainModel", "readTrick", "()V"⟩ cX7_readTrick 3 (none) ∈ gh_G := List.mem_filter.mpr ⟨List.mem_append_right _ (List.mem_of_getElem? (i := 967) (by decide +kernel)), rfl⟩
theorem tw_968 : Cond.methodLink "GhostTrainModel" 98 ⟨"GhostTrainModel", "trickAt", "(II)I"⟩ ∈ gh_G := List.mem_filter.mpr ⟨List.mem_append_right _ (List.mem_of_getElem? (i := 968) (by decide +kernel)), rfl⟩
theorem tw_969 : Cond.static ⟨"GhostTrainModel", "trickAt", "(II)I"⟩ ∈ gh_G := List.mem_filter.mpr ⟨List.mem_append_right _ (List.mem_of_getElem? (i := 969) (by decide +kernel)), rfl⟩
theorem tw_970 : Cond.code ⟨"GhostTrainModel", "trickAt", "(II)I"⟩ cX7_trickAt 2 (some .int) ∈ gh_G := List.mem_filter.mpr ⟨List.mem_append_right _ (List.mem_of_getElem? (i := 970) (by decide +kernel)), rfl⟩
theorem tw_971 : Cond.methodLink "GhostTrainModel" 118 ⟨"GhostTrainModel", "readCar", "()V"⟩ ∈ gh_G := List.mem_filter.mpr ⟨List.mem_append_right _ (List.mem_of_getElem? (i := 971) (by decide +kernel)), rfl⟩
theorem tw_973 : Cond.instanceMethod ⟨"GhostTrainModel", "readCar", "()V"⟩ ∈ gh_G := List.mem_filter.mpr ⟨List.mem_append_right _ (List.mem_of_getElem? (i := 973) (by decide +kernel)), rfl⟩
theorem tw_974 : Cond.code ⟨"GhostTrainModel", "readCar", "()V"⟩ cX7_readCar 3 (none) ∈ gh_G := List.mem_filter.mpr ⟨List.mem_append_right _ (List.mem_of_getElem? (i := 974) (by decide +kernel)), rfl⟩
theorem tw_975 : Cond.methodLink "GhostTrainModel" 112 ⟨"GhostTrainModel", "carAt", "(II)I"⟩ ∈ gh_G := List.mem_filter.mpr ⟨List.mem_append_right _ (List.mem_of_getElem? (i := 975) (by decide +kernel)), rfl⟩
theorem tw_976 : Cond.static ⟨"GhostTrainModel", "carAt", "(II)I"⟩ ∈ gh_G := List.mem_filter.mpr ⟨List.mem_append_right _ (List.mem_of_getElem? (i := 976) (by decide +kernel)), rfl⟩
theorem tw_977 : Cond.code ⟨"GhostTrainModel", "carAt", "(II)I"⟩ cX7_carAt 2 (some .int) ∈ gh_G := List.mem_filter.mpr ⟨List.mem_append_right _ (List.mem_of_getElem? (i := 977) (by decide +kernel)), rfl⟩
theorem tw_978 : Cond.constant "GhostTrainModel" 127 (-1000100) ∈ gh_G := List.mem_filter.mpr ⟨List.mem_append_right _ (List.mem_of_getElem? (i := 978) (by decide +kernel)), rfl⟩
theorem tw_979 : Cond.methodLink "GhostTrainModel" 128 ⟨"GhostTrainModel", "copyRow", "(II)V"⟩ ∈ gh_G := List.mem_filter.mpr ⟨List.mem_append_right _ (List.mem_of_getElem? (i := 979) (by decide +kernel)), rfl⟩
theorem tw_981 : Cond.instanceMethod ⟨"GhostTrainModel", "copyRow", "(II)V"⟩ ∈ gh_G := List.mem_filter.mpr ⟨List.mem_append_right _ (List.mem_of_getElem? (i := 981) (by decide +kernel)), rfl⟩
theorem tw_982 : Cond.code ⟨"GhostTrainModel", "copyRow", "(II)V"⟩ cX7_copyRow 4 (none) ∈ gh_G := List.mem_filter.mpr ⟨List.mem_append_right _ (List.mem_of_getElem? (i := 982) (by decide +kernel)), rfl⟩
theorem tw_984 : Cond.instanceMethod ⟨"GhostTrainModel", "fault", "()I"⟩ ∈ gh_G := List.mem_filter.mpr ⟨List.mem_append_right _ (List.mem_of_getElem? (i := 984) (by decide +kernel)), rfl⟩
theorem tw_985 : Cond.selects "GhostTrainModel" ⟨"GhostTrainModel", "fault", "()I"⟩ ⟨"GhostTrainModel", "fault", "()I"⟩ ∈ gh_G := List.mem_filter.mpr ⟨List.mem_append_right _ (List.mem_of_getElem? (i := 985) (by decide +kernel)), rfl⟩
theorem tw_986 : Cond.code ⟨"GhostTrainModel", "fault", "()I"⟩ cX7_fault 1 (some .int) ∈ gh_G := List.mem_filter.mpr ⟨List.mem_append_right _ (List.mem_of_getElem? (i := 986) (by decide +kernel)), rfl⟩
theorem tw_988 : Cond.instanceMethod ⟨"GhostTrainModel", "undo", "()I"⟩ ∈ gh_G := List.mem_filter.mpr ⟨List.mem_append_right _ (List.mem_of_getElem? (i := 988) (by decide +kernel)), rfl⟩
theorem tw_989 : Cond.selects "GhostTrainModel" ⟨"GhostTrainModel", "undo", "()I"⟩ ⟨"GhostTrainModel", "undo", "()I"⟩ ∈ gh_G := List.mem_filter.mpr ⟨List.mem_append_right _ (List.mem_of_getElem? (i := 989) (by decide +kernel)), rfl⟩
theorem tw_990 : Cond.code ⟨"GhostTrainModel", "undo", "()I"⟩ cX7_undo 1 (some .int) ∈ gh_G := List.mem_filter.mpr ⟨List.mem_append_right _ (List.mem_of_getElem? (i := 990) (by decide +kernel)), rfl⟩
theorem tw_991 : Cond.constant "GhostTrainModel" 164 (-1000002) ∈ gh_G := List.mem_filter.mpr ⟨List.mem_append_right _ (List.mem_of_getElem? (i := 991) (by decide +kernel)), rfl⟩
theorem tw_993 : Cond.instanceMethod ⟨"GhostTrainModel", "ticks", "(I)I"⟩ ∈ gh_G := List.mem_filter.mpr ⟨List.mem_append_right _ (List.mem_of_getElem? (i := 993) (by decide +kernel)), rfl⟩
theorem tw_994 : Cond.selects "GhostTrainModel" ⟨"GhostTrainModel", "ticks", "(I)I"⟩ ⟨"GhostTrainModel", "ticks", "(I)I"⟩ ∈ gh_G := List.mem_filter.mpr ⟨List.mem_append_right _ (List.mem_of_getElem? (i := 994) (by decide +kernel)), rfl⟩
theorem tw_995 : Cond.code ⟨"GhostTrainModel", "ticks", "(I)I"⟩ cX7_ticks 3 (some .int) ∈ gh_G := List.mem_filter.mpr ⟨List.mem_append_right _ (List.mem_of_getElem? (i := 995) (by decide +kernel)), rfl⟩
theorem tw_996 : Cond.methodLink "GhostTrainModel" 165 ⟨"GhostTrainModel", "isTrain", "()Z"⟩ ∈ gh_G := List.mem_filter.mpr ⟨List.mem_append_right _ (List.mem_of_getElem? (i := 996) (by decide +kernel)), rfl⟩
theorem tw_998 : Cond.instanceMethod ⟨"GhostTrainModel", "isTrain", "()Z"⟩ ∈ gh_G := List.mem_filter.mpr ⟨List.mem_append_right _ (List.mem_of_getElem? (i := 998) (by decide +kernel)), rfl⟩
theorem tw_999 : Cond.code ⟨"GhostTrainModel", "isTrain", "()Z"⟩ cX7_isTrain 1 (some .boolean) ∈ gh_G := List.mem_filter.mpr ⟨List.mem_append_right _ (List.mem_of_getElem? (i := 999) (by decide +kernel)), rfl⟩
theorem tw_1000 : Cond.methodLink "GhostTrainModel" 155 ⟨"GhostTrainModel", "rankByNumbers", "()V"⟩ ∈ gh_G := List.mem_filter.mpr ⟨List.mem_append_right _ (List.mem_of_getElem? (i := 1000) (by decide +kernel)), rfl⟩
theorem tw_1002 : Cond.instanceMethod ⟨"GhostTrainModel", "rankByNumbers", "()V"⟩ ∈ gh_G := List.mem_filter.mpr ⟨List.mem_append_right _ (List.mem_of_getElem? (i := 1002) (by decide +kernel)), rfl⟩
theorem tw_1003 : Cond.code ⟨"GhostTrainModel", "rankByNumbers", "()V"⟩ cX7_rankByNumbers 2 (none) ∈ gh_G := List.mem_filter.mpr ⟨List.mem_append_right _ (List.mem_of_getElem? (i := 1003) (by decide +kernel)), rfl⟩
theorem tw_1004 : Cond.methodLink "GhostTrainModel" 168 ⟨"GhostTrainModel", "remember", "()V"⟩ ∈ gh_G := List.mem_filter.mpr ⟨List.mem_append_right _ (List.mem_of_getElem? (i := 1004) (by decide +kernel)), rfl⟩
theorem tw_1006 : Cond.instanceMethod ⟨"GhostTrainModel", "remember", "()V"⟩ ∈ gh_G := List.mem_filter.mpr ⟨List.mem_append_right _ (List.mem_of_getElem? (i := 1006) (by decide +kernel)), rfl⟩
theorem tw_1007 : Cond.code ⟨"GhostTrainModel", "remember", "()V"⟩ cX7_remember 2 (none) ∈ gh_G := List.mem_filter.mpr ⟨List.mem_append_right _ (List.mem_of_getElem? (i := 1007) (by decide +kernel)), rfl⟩
theorem tw_1008 : Cond.methodLink "GhostTrainModel" 161 ⟨"GhostTrainModel", "tickAt", "(I)V"⟩ ∈ gh_G := List.mem_filter.mpr ⟨List.mem_append_right _ (List.mem_of_getElem? (i := 1008) (by decide +kernel)), rfl⟩
theorem tw_1010 : Cond.instanceMethod ⟨"GhostTrainModel", "tickAt", "(I)V"⟩ ∈ gh_G := List.mem_filter.mpr ⟨List.mem_append_right _ (List.mem_of_getElem? (i := 1010) (by decide +kernel)), rfl⟩
theorem tw_1011 : Cond.code ⟨"GhostTrainModel", "tickAt", "(I)V"⟩ cX7_tickAt 5 (none) ∈ gh_G := List.mem_filter.mpr ⟨List.mem_append_right _ (List.mem_of_getElem? (i := 1011) (by decide +kernel)), rfl⟩
theorem tw_1012 : Cond.methodLink "GhostTrainModel" 146 ⟨"GhostTrainModel", "carIn", "(II)I"⟩ ∈ gh_G := List.mem_filter.mpr ⟨List.mem_append_right _ (List.mem_of_getElem? (i := 1012) (by decide +kernel)), rfl⟩
theorem tw_1014 : Cond.instanceMethod ⟨"GhostTrainModel", "carIn", "(II)I"⟩ ∈ gh_G := List.mem_filter.mpr ⟨List.mem_append_right _ (List.mem_of_getElem? (i := 1014) (by decide +kernel)), rfl⟩
theorem tw_1015 : Cond.code ⟨"GhostTrainModel", "carIn", "(II)I"⟩ cX7_carIn 4 (some .int) ∈ gh_G := List.mem_filter.mpr ⟨List.mem_append_right _ (List.mem_of_getElem? (i := 1015) (by decide +kernel)), rfl⟩
theorem tw_1016 : Cond.constant "GhostTrainModel" 134 (-1000000) ∈ gh_G := List.mem_filter.mpr ⟨List.mem_append_right _ (List.mem_of_getElem? (i := 1016) (by decide +kernel)), rfl⟩
theorem tw_1017 : Cond.methodLink "GhostTrainModel" 152 ⟨"GhostTrainModel", "goes", "(II)V"⟩ ∈ gh_G := List.mem_filter.mpr ⟨List.mem_append_right _ (List.mem_of_getElem? (i := 1017) (by decide +kernel)), rfl⟩
theorem tw_1019 : Cond.instanceMethod ⟨"GhostTrainModel", "goes", "(II)V"⟩ ∈ gh_G := List.mem_filter.mpr ⟨List.mem_append_right _ (List.mem_of_getElem? (i := 1019) (by decide +kernel)), rfl⟩
theorem tw_1020 : Cond.code ⟨"GhostTrainModel", "goes", "(II)V"⟩ cX7_goes 6 (none) ∈ gh_G := List.mem_filter.mpr ⟨List.mem_append_right _ (List.mem_of_getElem? (i := 1020) (by decide +kernel)), rfl⟩
theorem tw_1021 : Cond.methodLink "GhostTrainModel" 149 ⟨"GhostTrainModel", "comes", "(III)Z"⟩ ∈ gh_G := List.mem_filter.mpr ⟨List.mem_append_right _ (List.mem_of_getElem? (i := 1021) (by decide +kernel)), rfl⟩
theorem tw_1023 : Cond.instanceMethod ⟨"GhostTrainModel", "comes", "(III)Z"⟩ ∈ gh_G := List.mem_filter.mpr ⟨List.mem_append_right _ (List.mem_of_getElem? (i := 1023) (by decide +kernel)), rfl⟩
theorem tw_1024 : Cond.code ⟨"GhostTrainModel", "comes", "(III)Z"⟩ cX7_comes 7 (some .boolean) ∈ gh_G := List.mem_filter.mpr ⟨List.mem_append_right _ (List.mem_of_getElem? (i := 1024) (by decide +kernel)), rfl⟩
theorem tw_1025 : Cond.methodLink "GhostTrainModel" 139 ⟨"GhostTrainModel", "fright", "(III)I"⟩ ∈ gh_G := List.mem_filter.mpr ⟨List.mem_append_right _ (List.mem_of_getElem? (i := 1025) (by decide +kernel)), rfl⟩
theorem tw_1027 : Cond.instanceMethod ⟨"GhostTrainModel", "fright", "(III)I"⟩ ∈ gh_G := List.mem_filter.mpr ⟨List.mem_append_right _ (List.mem_of_getElem? (i := 1027) (by decide +kernel)), rfl⟩
theorem tw_1028 : Cond.code ⟨"GhostTrainModel", "fright", "(III)I"⟩ cX7_fright 7 (some .int) ∈ gh_G := List.mem_filter.mpr ⟨List.mem_append_right _ (List.mem_of_getElem? (i := 1028) (by decide +kernel)), rfl⟩
theorem tw_1029 : Cond.methodLink "GhostTrainModel" 135 ⟨"GhostTrainModel", "runsAlone", "(II)Z"⟩ ∈ gh_G := List.mem_filter.mpr ⟨List.mem_append_right _ (List.mem_of_getElem? (i := 1029) (by decide +kernel)), rfl⟩
theorem tw_1031 : Cond.instanceMethod ⟨"GhostTrainModel", "runsAlone", "(II)Z"⟩ ∈ gh_G := List.mem_filter.mpr ⟨List.mem_append_right _ (List.mem_of_getElem? (i := 1031) (by decide +kernel)), rfl⟩
theorem tw_1032 : Cond.code ⟨"GhostTrainModel", "runsAlone", "(II)Z"⟩ cX7_runsAlone 5 (some .boolean) ∈ gh_G := List.mem_filter.mpr ⟨List.mem_append_right _ (List.mem_of_getElem? (i := 1032) (by decide +kernel)), rfl⟩
theorem tw_1033 : Cond.methodLink "GhostTrainModel" 171 ⟨"GhostTrainModel", "carsThat", "(II)I"⟩ ∈ gh_G := List.mem_filter.mpr ⟨List.mem_append_right _ (List.mem_of_getElem? (i := 1033) (by decide +kernel)), rfl⟩
theorem tw_1035 : Cond.instanceMethod ⟨"GhostTrainModel", "carsThat", "(II)I"⟩ ∈ gh_G := List.mem_filter.mpr ⟨List.mem_append_right _ (List.mem_of_getElem? (i := 1035) (by decide +kernel)), rfl⟩
theorem tw_1036 : Cond.code ⟨"GhostTrainModel", "carsThat", "(II)I"⟩ cX7_carsThat 7 (some .int) ∈ gh_G := List.mem_filter.mpr ⟨List.mem_append_right _ (List.mem_of_getElem? (i := 1036) (by decide +kernel)), rfl⟩
theorem tw_1038 : Cond.instanceMethod ⟨"GhostTrainModel", "place", "(II)I"⟩ ∈ gh_G := List.mem_filter.mpr ⟨List.mem_append_right _ (List.mem_of_getElem? (i := 1038) (by decide +kernel)), rfl⟩
theorem tw_1039 : Cond.selects "GhostTrainModel" ⟨"GhostTrainModel", "place", "(II)I"⟩ ⟨"GhostTrainModel", "place", "(II)I"⟩ ∈ gh_G := List.mem_filter.mpr ⟨List.mem_append_right _ (List.mem_of_getElem? (i := 1039) (by decide +kernel)), rfl⟩
theorem tw_1040 : Cond.code ⟨"GhostTrainModel", "place", "(II)I"⟩ cX7_place 4 (some .int) ∈ gh_G := List.mem_filter.mpr ⟨List.mem_append_right _ (List.mem_of_getElem? (i := 1040) (by decide +kernel)), rfl⟩
theorem tw_1041 : Cond.methodLink "GhostTrainModel" 174 ⟨"GhostTrainModel", "isTrick", "(I)Z"⟩ ∈ gh_G := List.mem_filter.mpr ⟨List.mem_append_right _ (List.mem_of_getElem? (i := 1041) (by decide +kernel)), rfl⟩
theorem tw_1043 : Cond.instanceMethod ⟨"GhostTrainModel", "isTrick", "(I)Z"⟩ ∈ gh_G := List.mem_filter.mpr ⟨List.mem_append_right _ (List.mem_of_getElem? (i := 1043) (by decide +kernel)), rfl⟩
theorem tw_1044 : Cond.code ⟨"GhostTrainModel", "isTrick", "(I)Z"⟩ cX7_isTrick 2 (some .boolean) ∈ gh_G := List.mem_filter.mpr ⟨List.mem_append_right _ (List.mem_of_getElem? (i := 1044) (by decide +kernel)), rfl⟩
theorem tw_1045 : Cond.methodLink "GhostTrainModel" 177 ⟨"GhostTrainModel", "isCell", "(I)Z"⟩ ∈ gh_G := List.mem_filter.mpr ⟨List.mem_append_right _ (List.mem_of_getElem? (i := 1045) (by decide +kernel)), rfl⟩
theorem tw_1047 : Cond.instanceMethod ⟨"GhostTrainModel", "isCell", "(I)Z"⟩ ∈ gh_G := List.mem_filter.mpr ⟨List.mem_append_right _ (List.mem_of_getElem? (i := 1047) (by decide +kernel)), rfl⟩
theorem tw_1048 : Cond.code ⟨"GhostTrainModel", "isCell", "(I)Z"⟩ cX7_isCell 2 (some .boolean) ∈ gh_G := List.mem_filter.mpr ⟨List.mem_append_right _ (List.mem_of_getElem? (i := 1048) (by decide +kernel)), rfl⟩
theorem tw_1050 : Cond.instanceMethod ⟨"GhostTrainModel", "flip", "(I)I"⟩ ∈ gh_G := List.mem_filter.mpr ⟨List.mem_append_right _ (List.mem_of_getElem? (i := 1050) (by decide +kernel)), rfl⟩
theorem tw_1051 : Cond.selects "GhostTrainModel" ⟨"GhostTrainModel", "flip", "(I)I"⟩ ⟨"GhostTrainModel", "flip", "(I)I"⟩ ∈ gh_G := List.mem_filter.mpr ⟨List.mem_append_right _ (List.mem_of_getElem? (i := 1051) (by decide +kernel)), rfl⟩
theorem tw_1052 : Cond.code ⟨"GhostTrainModel", "flip", "(I)I"⟩ cX7_flip 2 (some .int) ∈ gh_G := List.mem_filter.mpr ⟨List.mem_append_right _ (List.mem_of_getElem? (i := 1052) (by decide +kernel)), rfl⟩
theorem tw_1054 : Cond.instanceMethod ⟨"GhostTrainModel", "nerve", "(II)I"⟩ ∈ gh_G := List.mem_filter.mpr ⟨List.mem_append_right _ (List.mem_of_getElem? (i := 1054) (by decide +kernel)), rfl⟩
theorem tw_1055 : Cond.selects "GhostTrainModel" ⟨"GhostTrainModel", "nerve", "(II)I"⟩ ⟨"GhostTrainModel", "nerve", "(II)I"⟩ ∈ gh_G := List.mem_filter.mpr ⟨List.mem_append_right _ (List.mem_of_getElem? (i := 1055) (by decide +kernel)), rfl⟩
theorem tw_1056 : Cond.code ⟨"GhostTrainModel", "nerve", "(II)I"⟩ cX7_nerve 4 (some .int) ∈ gh_G := List.mem_filter.mpr ⟨List.mem_append_right _ (List.mem_of_getElem? (i := 1056) (by decide +kernel)), rfl⟩
theorem tw_1057 : Cond.methodLink "GhostTrainModel" 180 ⟨"GhostTrainModel", "isCar", "(I)Z"⟩ ∈ gh_G := List.mem_filter.mpr ⟨List.mem_append_right _ (List.mem_of_getElem? (i := 1057) (by decide +kernel)), rfl⟩
theorem tw_1059 : Cond.instanceMethod ⟨"GhostTrainModel", "isCar", "(I)Z"⟩ ∈ gh_G := List.mem_filter.mpr ⟨List.mem_append_right _ (List.mem_of_getElem? (i := 1059) (by decide +kernel)), rfl⟩
theorem tw_1060 : Cond.code ⟨"GhostTrainModel", "isCar", "(I)Z"⟩ cX7_isCar 2 (some .boolean) ∈ gh_G := List.mem_filter.mpr ⟨List.mem_append_right _ (List.mem_of_getElem? (i := 1060) (by decide +kernel)), rfl⟩
theorem tw_1062 : Cond.instanceMethod ⟨"GhostTrainModel", "again", "(I)I"⟩ ∈ gh_G := List.mem_filter.mpr ⟨List.mem_append_right _ (List.mem_of_getElem? (i := 1062) (by decide +kernel)), rfl⟩
theorem tw_1063 : Cond.selects "GhostTrainModel" ⟨"GhostTrainModel", "again", "(I)I"⟩ ⟨"GhostTrainModel", "again", "(I)I"⟩ ∈ gh_G := List.mem_filter.mpr ⟨List.mem_append_right _ (List.mem_of_getElem? (i := 1063) (by decide +kernel)), rfl⟩
theorem tw_1064 : Cond.code ⟨"GhostTrainModel", "again", "(I)I"⟩ cX7_again 2 (some .int) ∈ gh_G := List.mem_filter.mpr ⟨List.mem_append_right _ (List.mem_of_getElem? (i := 1064) (by decide +kernel)), rfl⟩
theorem tw_1065 : Cond.methodLink "GhostTrainModel" 183 ⟨"GhostTrainModel", "goesAgain", "(II)V"⟩ ∈ gh_G := List.mem_filter.mpr ⟨List.mem_append_right _ (List.mem_of_getElem? (i := 1065) (by decide +kernel)), rfl⟩
theorem tw_1067 : Cond.instanceMethod ⟨"GhostTrainModel", "goesAgain", "(II)V"⟩ ∈ gh_G := List.mem_filter.mpr ⟨List.mem_append_right _ (List.mem_of_getElem? (i := 1067) (by decide +kernel)), rfl⟩
theorem tw_1068 : Cond.code ⟨"GhostTrainModel", "goesAgain", "(II)V"⟩ cX7_goesAgain 4 (none) ∈ gh_G := List.mem_filter.mpr ⟨List.mem_append_right _ (List.mem_of_getElem? (i := 1068) (by decide +kernel)), rfl⟩
theorem tw_1070 : Cond.instanceMethod ⟨"GhostTrainModel", "trick", "(II)I"⟩ ∈ gh_G := List.mem_filter.mpr ⟨List.mem_append_right _ (List.mem_of_getElem? (i := 1070) (by decide +kernel)), rfl⟩
theorem tw_1071 : Cond.selects "GhostTrainModel" ⟨"GhostTrainModel", "trick", "(II)I"⟩ ⟨"GhostTrainModel", "trick", "(II)I"⟩ ∈ gh_G := List.mem_filter.mpr ⟨List.mem_append_right _ (List.mem_of_getElem? (i := 1071) (by decide +kernel)), rfl⟩
theorem tw_1072 : Cond.code ⟨"GhostTrainModel", "trick", "(II)I"⟩ cX7_trick 3 (some .int) ∈ gh_G := List.mem_filter.mpr ⟨List.mem_append_right _ (List.mem_of_getElem? (i := 1072) (by decide +kernel)), rfl⟩
theorem tw_1074 : Cond.instanceMethod ⟨"GhostTrainModel", "car", "(II)I"⟩ ∈ gh_G := List.mem_filter.mpr ⟨List.mem_append_right _ (List.mem_of_getElem? (i := 1074) (by decide +kernel)), rfl⟩
theorem tw_1075 : Cond.selects "GhostTrainModel" ⟨"GhostTrainModel", "car", "(II)I"⟩ ⟨"GhostTrainModel", "car", "(II)I"⟩ ∈ gh_G := List.mem_filter.mpr ⟨List.mem_append_right _ (List.mem_of_getElem? (i := 1075) (by decide +kernel)), rfl⟩
theorem tw_1076 : Cond.code ⟨"GhostTrainModel", "car", "(II)I"⟩ cX7_car 3 (some .int) ∈ gh_G := List.mem_filter.mpr ⟨List.mem_append_right _ (List.mem_of_getElem? (i := 1076) (by decide +kernel)), rfl⟩
theorem tw_1078 : Cond.instanceMethod ⟨"GhostTrainModel", "cell", "(II)I"⟩ ∈ gh_G := List.mem_filter.mpr ⟨List.mem_append_right _ (List.mem_of_getElem? (i := 1078) (by decide +kernel)), rfl⟩
theorem tw_1079 : Cond.selects "GhostTrainModel" ⟨"GhostTrainModel", "cell", "(II)I"⟩ ⟨"GhostTrainModel", "cell", "(II)I"⟩ ∈ gh_G := List.mem_filter.mpr ⟨List.mem_append_right _ (List.mem_of_getElem? (i := 1079) (by decide +kernel)), rfl⟩
theorem tw_1080 : Cond.code ⟨"GhostTrainModel", "cell", "(II)I"⟩ cX7_cell 3 (some .int) ∈ gh_G := List.mem_filter.mpr ⟨List.mem_append_right _ (List.mem_of_getElem? (i := 1080) (by decide +kernel)), rfl⟩
theorem tw_1081 : Cond.methodLink "GhostTrainModel" 186 ⟨"GhostTrainModel", "tricksIn", "(I)I"⟩ ∈ gh_G := List.mem_filter.mpr ⟨List.mem_append_right _ (List.mem_of_getElem? (i := 1081) (by decide +kernel)), rfl⟩
theorem tw_1083 : Cond.instanceMethod ⟨"GhostTrainModel", "tricksIn", "(I)I"⟩ ∈ gh_G := List.mem_filter.mpr ⟨List.mem_append_right _ (List.mem_of_getElem? (i := 1083) (by decide +kernel)), rfl⟩
theorem tw_1084 : Cond.code ⟨"GhostTrainModel", "tricksIn", "(I)I"⟩ cX7_tricksIn 4 (some .int) ∈ gh_G := List.mem_filter.mpr ⟨List.mem_append_right _ (List.mem_of_getElem? (i := 1084) (by decide +kernel)), rfl⟩
theorem tw_1086 : Cond.instanceMethod ⟨"GhostTrainModel", "stand", "(I)I"⟩ ∈ gh_G := List.mem_filter.mpr ⟨List.mem_append_right _ (List.mem_of_getElem? (i := 1086) (by decide +kernel)), rfl⟩
theorem tw_1087 : Cond.selects "GhostTrainModel" ⟨"GhostTrainModel", "stand", "(I)I"⟩ ⟨"GhostTrainModel", "stand", "(I)I"⟩ ∈ gh_G := List.mem_filter.mpr ⟨List.mem_append_right _ (List.mem_of_getElem? (i := 1087) (by decide +kernel)), rfl⟩
theorem tw_1088 : Cond.code ⟨"GhostTrainModel", "stand", "(I)I"⟩ cX7_stand 2 (some .int) ∈ gh_G := List.mem_filter.mpr ⟨List.mem_append_right _ (List.mem_of_getElem? (i := 1088) (by decide +kernel)), rfl⟩
theorem tw_1089 : Cond.methodLink "GhostTrainModel" 189 ⟨"GhostTrainModel", "onSet", "(I)I"⟩ ∈ gh_G := List.mem_filter.mpr ⟨List.mem_append_right _ (List.mem_of_getElem? (i := 1089) (by decide +kernel)), rfl⟩
theorem tw_1091 : Cond.instanceMethod ⟨"GhostTrainModel", "onSet", "(I)I"⟩ ∈ gh_G := List.mem_filter.mpr ⟨List.mem_append_right _ (List.mem_of_getElem? (i := 1091) (by decide +kernel)), rfl⟩
theorem tw_1092 : Cond.code ⟨"GhostTrainModel", "onSet", "(I)I"⟩ cX7_onSet 4 (some .int) ∈ gh_G := List.mem_filter.mpr ⟨List.mem_append_right _ (List.mem_of_getElem? (i := 1092) (by decide +kernel)), rfl⟩
theorem tw_1094 : Cond.instanceMethod ⟨"GhostTrainModel", "ahead", "(III)I"⟩ ∈ gh_G := List.mem_filter.mpr ⟨List.mem_append_right _ (List.mem_of_getElem? (i := 1094) (by decide +kernel)), rfl⟩
theorem tw_1095 : Cond.selects "GhostTrainModel" ⟨"GhostTrainModel", "ahead", "(III)I"⟩ ⟨"GhostTrainModel", "ahead", "(III)I"⟩ ∈ gh_G := List.mem_filter.mpr ⟨List.mem_append_right _ (List.mem_of_getElem? (i := 1095) (by decide +kernel)), rfl⟩
theorem tw_1096 : Cond.code ⟨"GhostTrainModel", "ahead", "(III)I"⟩ cX7_ahead 4 (some .int) ∈ gh_G := List.mem_filter.mpr ⟨List.mem_append_right _ (List.mem_of_getElem? (i := 1096) (by decide +kernel)), rfl⟩
theorem tw_1097 : Cond.methodLink "GhostTrainModel" 192 ⟨"GhostTrainModel", "beginTry", "()V"⟩ ∈ gh_G := List.mem_filter.mpr ⟨List.mem_append_right _ (List.mem_of_getElem? (i := 1097) (by decide +kernel)), rfl⟩
theorem tw_1099 : Cond.instanceMethod ⟨"GhostTrainModel", "beginTry", "()V"⟩ ∈ gh_G := List.mem_filter.mpr ⟨List.mem_append_right _ (List.mem_of_getElem? (i := 1099) (by decide +kernel)), rfl⟩
theorem tw_1100 : Cond.code ⟨"GhostTrainModel", "beginTry", "()V"⟩ cX7_beginTry 1 (none) ∈ gh_G := List.mem_filter.mpr ⟨List.mem_append_right _ (List.mem_of_getElem? (i := 1100) (by decide +kernel)), rfl⟩
theorem tw_1101 : Cond.methodLink "GhostTrainModel" 158 ⟨"GhostTrainModel", "noHowls", "()V"⟩ ∈ gh_G := List.mem_filter.mpr ⟨List.mem_append_right _ (List.mem_of_getElem? (i := 1101) (by decide +kernel)), rfl⟩
theorem tw_1103 : Cond.instanceMethod ⟨"GhostTrainModel", "noHowls", "()V"⟩ ∈ gh_G := List.mem_filter.mpr ⟨List.mem_append_right _ (List.mem_of_getElem? (i := 1103) (by decide +kernel)), rfl⟩
theorem tw_1104 : Cond.code ⟨"GhostTrainModel", "noHowls", "()V"⟩ cX7_noHowls 2 (none) ∈ gh_G := List.mem_filter.mpr ⟨List.mem_append_right _ (List.mem_of_getElem? (i := 1104) (by decide +kernel)), rfl⟩
theorem tw_1105 : Cond.methodLink "GhostTrainModel" 195 ⟨"GhostTrainModel", "goOn", "(I)V"⟩ ∈ gh_G := List.mem_filter.mpr ⟨List.mem_append_right _ (List.mem_of_getElem? (i := 1105) (by decide +kernel)), rfl⟩
theorem tw_1107 : Cond.instanceMethod ⟨"GhostTrainModel", "goOn", "(I)V"⟩ ∈ gh_G := List.mem_filter.mpr ⟨List.mem_append_right _ (List.mem_of_getElem? (i := 1107) (by decide +kernel)), rfl⟩
theorem tw_1108 : Cond.code ⟨"GhostTrainModel", "goOn", "(I)V"⟩ cX7_goOn 3 (none) ∈ gh_G := List.mem_filter.mpr ⟨List.mem_append_right _ (List.mem_of_getElem? (i := 1108) (by decide +kernel)), rfl⟩
theorem tw_1110 : Cond.instanceMethod ⟨"GhostTrainModel", "show", "(II)I"⟩ ∈ gh_G := List.mem_filter.mpr ⟨List.mem_append_right _ (List.mem_of_getElem? (i := 1110) (by decide +kernel)), rfl⟩
theorem tw_1111 : Cond.selects "GhostTrainModel" ⟨"GhostTrainModel", "show", "(II)I"⟩ ⟨"GhostTrainModel", "show", "(II)I"⟩ ∈ gh_G := List.mem_filter.mpr ⟨List.mem_append_right _ (List.mem_of_getElem? (i := 1111) (by decide +kernel)), rfl⟩
theorem tw_1112 : Cond.code ⟨"GhostTrainModel", "show", "(II)I"⟩ cX7_show 3 (some .int) ∈ gh_G := List.mem_filter.mpr ⟨List.mem_append_right _ (List.mem_of_getElem? (i := 1112) (by decide +kernel)), rfl⟩
theorem tw_1113 : Cond.methodLink "GhostTrainModel" 198 ⟨"GhostTrainModel", "sumOf", "(II)I"⟩ ∈ gh_G := List.mem_filter.mpr ⟨List.mem_append_right _ (List.mem_of_getElem? (i := 1113) (by decide +kernel)), rfl⟩
theorem tw_1115 : Cond.instanceMethod ⟨"GhostTrainModel", "sumOf", "(II)I"⟩ ∈ gh_G := List.mem_filter.mpr ⟨List.mem_append_right _ (List.mem_of_getElem? (i := 1115) (by decide +kernel)), rfl⟩
theorem tw_1116 : Cond.code ⟨"GhostTrainModel", "sumOf", "(II)I"⟩ cX7_sumOf 5 (some .int) ∈ gh_G := List.mem_filter.mpr ⟨List.mem_append_right _ (List.mem_of_getElem? (i := 1116) (by decide +kernel)), rfl⟩
theorem tw_1117 : Cond.methodLink "GhostTrainModel" 201 ⟨"GhostTrainModel", "allMet", "(I)I"⟩ ∈ gh_G := List.mem_filter.mpr ⟨List.mem_append_right _ (List.mem_of_getElem? (i := 1117) (by decide +kernel)), rfl⟩
theorem tw_1119 : Cond.instanceMethod ⟨"GhostTrainModel", "allMet", "(I)I"⟩ ∈ gh_G := List.mem_filter.mpr ⟨List.mem_append_right _ (List.mem_of_getElem? (i := 1119) (by decide +kernel)), rfl⟩
theorem tw_1120 : Cond.code ⟨"GhostTrainModel", "allMet", "(I)I"⟩ cX7_allMet 4 (some .int) ∈ gh_G := List.mem_filter.mpr ⟨List.mem_append_right _ (List.mem_of_getElem? (i := 1120) (by decide +kernel)), rfl⟩
theorem tw_1122 : Cond.instanceMethod ⟨"GhostTrainModel", "when", "(II)I"⟩ ∈ gh_G := List.mem_filter.mpr ⟨List.mem_append_right _ (List.mem_of_getElem? (i := 1122) (by decide +kernel)), rfl⟩
theorem tw_1123 : Cond.selects "GhostTrainModel" ⟨"GhostTrainModel", "when", "(II)I"⟩ ⟨"GhostTrainModel", "when", "(II)I"⟩ ∈ gh_G := List.mem_filter.mpr ⟨List.mem_append_right _ (List.mem_of_getElem? (i := 1123) (by decide +kernel)), rfl⟩
theorem tw_1124 : Cond.code ⟨"GhostTrainModel", "when", "(II)I"⟩ cX7_when 5 (some .int) ∈ gh_G := List.mem_filter.mpr ⟨List.mem_append_right _ (List.mem_of_getElem? (i := 1124) (by decide +kernel)), rfl⟩
theorem tw_1126 : Cond.instanceMethod ⟨"GhostTrainModel", "over", "()I"⟩ ∈ gh_G := List.mem_filter.mpr ⟨List.mem_append_right _ (List.mem_of_getElem? (i := 1126) (by decide +kernel)), rfl⟩
theorem tw_1127 : Cond.selects "GhostTrainModel" ⟨"GhostTrainModel", "over", "()I"⟩ ⟨"GhostTrainModel", "over", "()I"⟩ ∈ gh_G := List.mem_filter.mpr ⟨List.mem_append_right _ (List.mem_of_getElem? (i := 1127) (by decide +kernel)), rfl⟩
theorem tw_1128 : Cond.code ⟨"GhostTrainModel", "over", "()I"⟩ cX7_over 2 (some .int) ∈ gh_G := List.mem_filter.mpr ⟨List.mem_append_right _ (List.mem_of_getElem? (i := 1128) (by decide +kernel)), rfl⟩
theorem tw_1129 : Cond.methodLink "GhostTrainModel" 204 ⟨"GhostTrainModel", "allOut", "()Z"⟩ ∈ gh_G := List.mem_filter.mpr ⟨List.mem_append_right _ (List.mem_of_getElem? (i := 1129) (by decide +kernel)), rfl⟩
theorem tw_1131 : Cond.instanceMethod ⟨"GhostTrainModel", "allOut", "()Z"⟩ ∈ gh_G := List.mem_filter.mpr ⟨List.mem_append_right _ (List.mem_of_getElem? (i := 1131) (by decide +kernel)), rfl⟩
theorem tw_1132 : Cond.code ⟨"GhostTrainModel", "allOut", "()Z"⟩ cX7_allOut 1 (some .boolean) ∈ gh_G := List.mem_filter.mpr ⟨List.mem_append_right _ (List.mem_of_getElem? (i := 1132) (by decide +kernel)), rfl⟩
theorem tw_1134 : Cond.instanceMethod ⟨"GhostTrainModel", "order", "(II)I"⟩ ∈ gh_G := List.mem_filter.mpr ⟨List.mem_append_right _ (List.mem_of_getElem? (i := 1134) (by decide +kernel)), rfl⟩
theorem tw_1135 : Cond.selects "GhostTrainModel" ⟨"GhostTrainModel", "order", "(II)I"⟩ ⟨"GhostTrainModel", "order", "(II)I"⟩ ∈ gh_G := List.mem_filter.mpr ⟨List.mem_append_right _ (List.mem_of_getElem? (i := 1135) (by decide +kernel)), rfl⟩
theorem tw_1136 : Cond.code ⟨"GhostTrainModel", "order", "(II)I"⟩ cX7_order 7 (some .int) ∈ gh_G := List.mem_filter.mpr ⟨List.mem_append_right _ (List.mem_of_getElem? (i := 1136) (by decide +kernel)), rfl⟩
theorem tw_1137 : Cond.methodLink "GhostTrainModel" 210 ⟨"GhostTrainModel", "valueOfOrder", "(I)I"⟩ ∈ gh_G := List.mem_filter.mpr ⟨List.mem_append_right _ (List.mem_of_getElem? (i := 1137) (by decide +kernel)), rfl⟩
theorem tw_1139 : Cond.instanceMethod ⟨"GhostTrainModel", "valueOfOrder", "(I)I"⟩ ∈ gh_G := List.mem_filter.mpr ⟨List.mem_append_right _ (List.mem_of_getElem? (i := 1139) (by decide +kernel)), rfl⟩
theorem tw_1140 : Cond.code ⟨"GhostTrainModel", "valueOfOrder", "(I)I"⟩ cX7_valueOfOrder 3 (some .int) ∈ gh_G := List.mem_filter.mpr ⟨List.mem_append_right _ (List.mem_of_getElem? (i := 1140) (by decide +kernel)), rfl⟩
theorem tw_1141 : Cond.methodLink "GhostTrainModel" 207 ⟨"GhostTrainModel", "bits", "(I)I"⟩ ∈ gh_G := List.mem_filter.mpr ⟨List.mem_append_right _ (List.mem_of_getElem? (i := 1141) (by decide +kernel)), rfl⟩
theorem tw_1142 : Cond.static ⟨"GhostTrainModel", "bits", "(I)I"⟩ ∈ gh_G := List.mem_filter.mpr ⟨List.mem_append_right _ (List.mem_of_getElem? (i := 1142) (by decide +kernel)), rfl⟩
theorem tw_1143 : Cond.code ⟨"GhostTrainModel", "bits", "(I)I"⟩ cX7_bits 3 (some .int) ∈ gh_G := List.mem_filter.mpr ⟨List.mem_append_right _ (List.mem_of_getElem? (i := 1143) (by decide +kernel)), rfl⟩
theorem tw_1144 : Cond.methodLink "GhostTrainModel" 213 ⟨"GhostTrainModel", "nextOrder", "(I)Z"⟩ ∈ gh_G := List.mem_filter.mpr ⟨List.mem_append_right _ (List.mem_of_getElem? (i := 1144) (by decide +kernel)), rfl⟩
theorem tw_1146 : Cond.instanceMethod ⟨"GhostTrainModel", "nextOrder", "(I)Z"⟩ ∈ gh_G := List.mem_filter.mpr ⟨List.mem_append_right _ (List.mem_of_getElem? (i := 1146) (by decide +kernel)), rfl⟩
theorem tw_1147 : Cond.code ⟨"GhostTrainModel", "nextOrder", "(I)Z"⟩ cX7_nextOrder 7 (some .boolean) ∈ gh_G := List.mem_filter.mpr ⟨List.mem_append_right _ (List.mem_of_getElem? (i := 1147) (by decide +kernel)), rfl⟩
theorem tw_1149 : Cond.instanceMethod ⟨"GhostTrainModel", "spot", "(III)I"⟩ ∈ gh_G := List.mem_filter.mpr ⟨List.mem_append_right _ (List.mem_of_getElem? (i := 1149) (by decide +kernel)), rfl⟩
theorem tw_1150 : Cond.selects "GhostTrainModel" ⟨"GhostTrainModel", "spot", "(III)I"⟩ ⟨"GhostTrainModel", "spot", "(III)I"⟩ ∈ gh_G := List.mem_filter.mpr ⟨List.mem_append_right _ (List.mem_of_getElem? (i := 1150) (by decide +kernel)), rfl⟩
theorem tw_1151 : Cond.code ⟨"GhostTrainModel", "spot", "(III)I"⟩ cX7_spot 8 (some .int) ∈ gh_G := List.mem_filter.mpr ⟨List.mem_append_right _ (List.mem_of_getElem? (i := 1151) (by decide +kernel)), rfl⟩
theorem tw_1153 : Cond.instanceMethod ⟨"GhostTrainModel", "calm", "(II)I"⟩ ∈ gh_G := List.mem_filter.mpr ⟨List.mem_append_right _ (List.mem_of_getElem? (i := 1153) (by decide +kernel)), rfl⟩
theorem tw_1154 : Cond.selects "GhostTrainModel" ⟨"GhostTrainModel", "calm", "(II)I"⟩ ⟨"GhostTrainModel", "calm", "(II)I"⟩ ∈ gh_G := List.mem_filter.mpr ⟨List.mem_append_right _ (List.mem_of_getElem? (i := 1154) (by decide +kernel)), rfl⟩
theorem tw_1155 : Cond.code ⟨"GhostTrainModel", "calm", "(II)I"⟩ cX7_calm 6 (some .int) ∈ gh_G := List.mem_filter.mpr ⟨List.mem_append_right _ (List.mem_of_getElem? (i := 1155) (by decide +kernel)), rfl⟩
theorem tw_1156 : Cond.methodLink "GhostTrainModel" 219 ⟨"GhostTrainModel", "allTricks", "()I"⟩ ∈ gh_G := List.mem_filter.mpr ⟨List.mem_append_right _ (List.mem_of_getElem? (i := 1156) (by decide +kernel)), rfl⟩
theorem tw_1158 : Cond.instanceMethod ⟨"GhostTrainModel", "allTricks", "()I"⟩ ∈ gh_G := List.mem_filter.mpr ⟨List.mem_append_right _ (List.mem_of_getElem? (i := 1158) (by decide +kernel)), rfl⟩
theorem tw_1159 : Cond.code ⟨"GhostTrainModel", "allTricks", "()I"⟩ cX7_allTricks 1 (some .int) ∈ gh_G := List.mem_filter.mpr ⟨List.mem_append_right _ (List.mem_of_getElem? (i := 1159) (by decide +kernel)), rfl⟩
theorem tw_1160 : Cond.methodLink "GhostTrainModel" 222 ⟨"GhostTrainModel", "switchAll", "(I)V"⟩ ∈ gh_G := List.mem_filter.mpr ⟨List.mem_append_right _ (List.mem_of_getElem? (i := 1160) (by decide +kernel)), rfl⟩
theorem tw_1162 : Cond.instanceMethod ⟨"GhostTrainModel", "switchAll", "(I)V"⟩ ∈ gh_G := List.mem_filter.mpr ⟨List.mem_append_right _ (List.mem_of_getElem? (i := 1162) (by decide +kernel)), rfl⟩
theorem tw_1163 : Cond.code ⟨"GhostTrainModel", "switchAll", "(I)V"⟩ cX7_switchAll 3 (none) ∈ gh_G := List.mem_filter.mpr ⟨List.mem_append_right _ (List.mem_of_getElem? (i := 1163) (by decide +kernel)), rfl⟩
theorem tw_1164 : Cond.methodLink "GhostTrainModel" 216 ⟨"GhostTrainModel", "has", "(II)Z"⟩ ∈ gh_G := List.mem_filter.mpr ⟨List.mem_append_right _ (List.mem_of_getElem? (i := 1164) (by decide +kernel)), rfl⟩
theorem tw_1165 : Cond.static ⟨"GhostTrainModel", "has", "(II)Z"⟩ ∈ gh_G := List.mem_filter.mpr ⟨List.mem_append_right _ (List.mem_of_getElem? (i := 1165) (by decide +kernel)), rfl⟩
theorem tw_1166 : Cond.code ⟨"GhostTrainModel", "has", "(II)Z"⟩ cX7_has 2 (some .boolean) ∈ gh_G := List.mem_filter.mpr ⟨List.mem_append_right _ (List.mem_of_getElem? (i := 1166) (by decide +kernel)), rfl⟩
theorem tw_1168 : Cond.instanceMethod ⟨"GhostTrainModel", "bears", "(II)I"⟩ ∈ gh_G := List.mem_filter.mpr ⟨List.mem_append_right _ (List.mem_of_getElem? (i := 1168) (by decide +kernel)), rfl⟩
theorem tw_1169 : Cond.selects "GhostTrainModel" ⟨"GhostTrainModel", "bears", "(II)I"⟩ ⟨"GhostTrainModel", "bears", "(II)I"⟩ ∈ gh_G := List.mem_filter.mpr ⟨List.mem_append_right _ (List.mem_of_getElem? (i := 1169) (by decide +kernel)), rfl⟩
theorem tw_1170 : Cond.code ⟨"GhostTrainModel", "bears", "(II)I"⟩ cX7_bears 4 (some .int) ∈ gh_G := List.mem_filter.mpr ⟨List.mem_append_right _ (List.mem_of_getElem? (i := 1170) (by decide +kernel)), rfl⟩
theorem tw_1172 : Cond.instanceMethod ⟨"GhostTrainModel", "sets", "(II)I"⟩ ∈ gh_G := List.mem_filter.mpr ⟨List.mem_append_right _ (List.mem_of_getElem? (i := 1172) (by decide +kernel)), rfl⟩
theorem tw_1173 : Cond.selects "GhostTrainModel" ⟨"GhostTrainModel", "sets", "(II)I"⟩ ⟨"GhostTrainModel", "sets", "(II)I"⟩ ∈ gh_G := List.mem_filter.mpr ⟨List.mem_append_right _ (List.mem_of_getElem? (i := 1173) (by decide +kernel)), rfl⟩
theorem tw_1174 : Cond.code ⟨"GhostTrainModel", "sets", "(II)I"⟩ cX7_sets 7 (some .int) ∈ gh_G := List.mem_filter.mpr ⟨List.mem_append_right _ (List.mem_of_getElem? (i := 1174) (by decide +kernel)), rfl⟩
theorem tw_1175 : Cond.methodLink "GhostTrainModel" 225 ⟨"GhostTrainModel", "ridersOf", "(I)I"⟩ ∈ gh_G := List.mem_filter.mpr ⟨List.mem_append_right _ (List.mem_of_getElem? (i := 1175) (by decide +kernel)), rfl⟩
theorem tw_1177 : Cond.instanceMethod ⟨"GhostTrainModel", "ridersOf", "(I)I"⟩ ∈ gh_G := List.mem_filter.mpr ⟨List.mem_append_right _ (List.mem_of_getElem? (i := 1177) (by decide +kernel)), rfl⟩
theorem tw_1178 : Cond.code ⟨"GhostTrainModel", "ridersOf", "(I)I"⟩ cX7_ridersOf 4 (some .int) ∈ gh_G := List.mem_filter.mpr ⟨List.mem_append_right _ (List.mem_of_getElem? (i := 1178) (by decide +kernel)), rfl⟩
theorem tw_1180 : Cond.instanceMethod ⟨"GhostTrainModel", "share", "(II)I"⟩ ∈ gh_G := List.mem_filter.mpr ⟨List.mem_append_right _ (List.mem_of_getElem? (i := 1180) (by decide +kernel)), rfl⟩
theorem tw_1181 : Cond.selects "GhostTrainModel" ⟨"GhostTrainModel", "share", "(II)I"⟩ ⟨"GhostTrainModel", "share", "(II)I"⟩ ∈ gh_G := List.mem_filter.mpr ⟨List.mem_append_right _ (List.mem_of_getElem? (i := 1181) (by decide +kernel)), rfl⟩
theorem tw_1182 : Cond.code ⟨"GhostTrainModel", "share", "(II)I"⟩ cX7_share 7 (some .int) ∈ gh_G := List.mem_filter.mpr ⟨List.mem_append_right _ (List.mem_of_getElem? (i := 1182) (by decide +kernel)), rfl⟩
theorem tw_1183 : Cond.methodLink "GhostTrainModel" 228 ⟨"GhostTrainModel", "metOf", "(I)I"⟩ ∈ gh_G := List.mem_filter.mpr ⟨List.mem_append_right _ (List.mem_of_getElem? (i := 1183) (by decide +kernel)), rfl⟩
theorem tw_1185 : Cond.instanceMethod ⟨"GhostTrainModel", "metOf", "(I)I"⟩ ∈ gh_G := List.mem_filter.mpr ⟨List.mem_append_right _ (List.mem_of_getElem? (i := 1185) (by decide +kernel)), rfl⟩
theorem tw_1186 : Cond.code ⟨"GhostTrainModel", "metOf", "(I)I"⟩ cX7_metOf 2 (some .int) ∈ gh_G := List.mem_filter.mpr ⟨List.mem_append_right _ (List.mem_of_getElem? (i := 1186) (by decide +kernel)), rfl⟩
theorem tw_1188 : Cond.instanceMethod ⟨"GhostTrainModel", "byTurns", "(II)I"⟩ ∈ gh_G := List.mem_filter.mpr ⟨List.mem_append_right _ (List.mem_of_getElem? (i := 1188) (by decide +kernel)), rfl⟩
theorem tw_1189 : Cond.selects "GhostTrainModel" ⟨"GhostTrainModel", "byTurns", "(II)I"⟩ ⟨"GhostTrainModel", "byTurns", "(II)I"⟩ ∈ gh_G := List.mem_filter.mpr ⟨List.mem_append_right _ (List.mem_of_getElem? (i := 1189) (by decide +kernel)), rfl⟩
theorem tw_1190 : Cond.code ⟨"GhostTrainModel", "byTurns", "(II)I"⟩ cX7_byTurns 5 (some .int) ∈ gh_G := List.mem_filter.mpr ⟨List.mem_append_right _ (List.mem_of_getElem? (i := 1190) (by decide +kernel)), rfl⟩
theorem tw_1191 : Cond.methodLink "GhostTrainModel" 231 ⟨"GhostTrainModel", "chosen", "(IZ)I"⟩ ∈ gh_G := List.mem_filter.mpr ⟨List.mem_append_right _ (List.mem_of_getElem? (i := 1191) (by decide +kernel)), rfl⟩
theorem tw_1193 : Cond.instanceMethod ⟨"GhostTrainModel", "chosen", "(IZ)I"⟩ ∈ gh_G := List.mem_filter.mpr ⟨List.mem_append_right _ (List.mem_of_getElem? (i := 1193) (by decide +kernel)), rfl⟩
theorem tw_1194 : Cond.code ⟨"GhostTrainModel", "chosen", "(IZ)I"⟩ cX7_chosen 6 (some .int) ∈ gh_G := List.mem_filter.mpr ⟨List.mem_append_right _ (List.mem_of_getElem? (i := 1194) (by decide +kernel)), rfl⟩
theorem tw_1196 : Cond.instanceMethod ⟨"GhostTrainModel", "who", "(IIIIII)I"⟩ ∈ gh_G := List.mem_filter.mpr ⟨List.mem_append_right _ (List.mem_of_getElem? (i := 1196) (by decide +kernel)), rfl⟩
theorem tw_1197 : Cond.selects "GhostTrainModel" ⟨"GhostTrainModel", "who", "(IIIIII)I"⟩ ⟨"GhostTrainModel", "who", "(IIIIII)I"⟩ ∈ gh_G := List.mem_filter.mpr ⟨List.mem_append_right _ (List.mem_of_getElem? (i := 1197) (by decide +kernel)), rfl⟩
theorem tw_1198 : Cond.code ⟨"GhostTrainModel", "who", "(IIIIII)I"⟩ cX7_who 12 (some .int) ∈ gh_G := List.mem_filter.mpr ⟨List.mem_append_right _ (List.mem_of_getElem? (i := 1198) (by decide +kernel)), rfl⟩
theorem tw_1199 : Cond.methodLink "GhostTrainModel" 235 ⟨"GhostTrainModel", "wrongRow", "(III)I"⟩ ∈ gh_G := List.mem_filter.mpr ⟨List.mem_append_right _ (List.mem_of_getElem? (i := 1199) (by decide +kernel)), rfl⟩
theorem tw_1201 : Cond.instanceMethod ⟨"GhostTrainModel", "wrongRow", "(III)I"⟩ ∈ gh_G := List.mem_filter.mpr ⟨List.mem_append_right _ (List.mem_of_getElem? (i := 1201) (by decide +kernel)), rfl⟩
theorem tw_1202 : Cond.code ⟨"GhostTrainModel", "wrongRow", "(III)I"⟩ cX7_wrongRow 4 (some .int) ∈ gh_G := List.mem_filter.mpr ⟨List.mem_append_right _ (List.mem_of_getElem? (i := 1202) (by decide +kernel)), rfl⟩
theorem tw_1203 : Cond.methodLink "GhostTrainModel" 238 ⟨"GhostTrainModel", "isTold", "(IIII)Z"⟩ ∈ gh_G := List.mem_filter.mpr ⟨List.mem_append_right _ (List.mem_of_getElem? (i := 1203) (by decide +kernel)), rfl⟩
theorem tw_1205 : Cond.instanceMethod ⟨"GhostTrainModel", "isTold", "(IIII)Z"⟩ ∈ gh_G := List.mem_filter.mpr ⟨List.mem_append_right _ (List.mem_of_getElem? (i := 1205) (by decide +kernel)), rfl⟩
theorem tw_1206 : Cond.code ⟨"GhostTrainModel", "isTold", "(IIII)Z"⟩ cX7_isTold 7 (some .boolean) ∈ gh_G := List.mem_filter.mpr ⟨List.mem_append_right _ (List.mem_of_getElem? (i := 1206) (by decide +kernel)), rfl⟩
theorem tw_1208 : Cond.instanceMethod ⟨"GhostTrainModel", "nerves", "(IIIII)I"⟩ ∈ gh_G := List.mem_filter.mpr ⟨List.mem_append_right _ (List.mem_of_getElem? (i := 1208) (by decide +kernel)), rfl⟩
theorem tw_1209 : Cond.selects "GhostTrainModel" ⟨"GhostTrainModel", "nerves", "(IIIII)I"⟩ ⟨"GhostTrainModel", "nerves", "(IIIII)I"⟩ ∈ gh_G := List.mem_filter.mpr ⟨List.mem_append_right _ (List.mem_of_getElem? (i := 1209) (by decide +kernel)), rfl⟩
theorem tw_1210 : Cond.code ⟨"GhostTrainModel", "nerves", "(IIIII)I"⟩ cX7_nerves 10 (some .int) ∈ gh_G := List.mem_filter.mpr ⟨List.mem_append_right _ (List.mem_of_getElem? (i := 1210) (by decide +kernel)), rfl⟩
theorem tw_1212 : Cond.instanceMethod ⟨"GhostTrainModel", "fails", "(IIII)J"⟩ ∈ gh_G := List.mem_filter.mpr ⟨List.mem_append_right _ (List.mem_of_getElem? (i := 1212) (by decide +kernel)), rfl⟩
theorem tw_1213 : Cond.selects "GhostTrainModel" ⟨"GhostTrainModel", "fails", "(IIII)J"⟩ ⟨"GhostTrainModel", "fails", "(IIII)J"⟩ ∈ gh_G := List.mem_filter.mpr ⟨List.mem_append_right _ (List.mem_of_getElem? (i := 1213) (by decide +kernel)), rfl⟩
theorem tw_1214 : Cond.code ⟨"GhostTrainModel", "fails", "(IIII)J"⟩ cX7_fails 16 (some .long) ∈ gh_G := List.mem_filter.mpr ⟨List.mem_append_right _ (List.mem_of_getElem? (i := 1214) (by decide +kernel)), rfl⟩
theorem tw_1215 : Cond.constantLong "GhostTrainModel" 242 (-1000001) ∈ gh_G := List.mem_filter.mpr ⟨List.mem_append_right _ (List.mem_of_getElem? (i := 1215) (by decide +kernel)), rfl⟩
theorem tw_1216 : Cond.constantLong "GhostTrainModel" 244 (10) ∈ gh_G := List.mem_filter.mpr ⟨List.mem_append_right _ (List.mem_of_getElem? (i := 1216) (by decide +kernel)), rfl⟩
theorem tw_1218 : Cond.instanceMethod ⟨"GhostTrainModel", "drawn", "(III)I"⟩ ∈ gh_G := List.mem_filter.mpr ⟨List.mem_append_right _ (List.mem_of_getElem? (i := 1218) (by decide +kernel)), rfl⟩
theorem tw_1219 : Cond.selects "GhostTrainModel" ⟨"GhostTrainModel", "drawn", "(III)I"⟩ ⟨"GhostTrainModel", "drawn", "(III)I"⟩ ∈ gh_G := List.mem_filter.mpr ⟨List.mem_append_right _ (List.mem_of_getElem? (i := 1219) (by decide +kernel)), rfl⟩
theorem tw_1220 : Cond.code ⟨"GhostTrainModel", "drawn", "(III)I"⟩ cX7_drawn 8 (some .int) ∈ gh_G := List.mem_filter.mpr ⟨List.mem_append_right _ (List.mem_of_getElem? (i := 1220) (by decide +kernel)), rfl⟩
theorem tw_1221 : Cond.constant "GhostTrainModel" 246 (999999) ∈ gh_G := List.mem_filter.mpr ⟨List.mem_append_right _ (List.mem_of_getElem? (i := 1221) (by decide +kernel)), rfl⟩
theorem tw_1222 : Cond.constantLong "GhostTrainModel" 247 (16807) ∈ gh_G := List.mem_filter.mpr ⟨List.mem_append_right _ (List.mem_of_getElem? (i := 1222) (by decide +kernel)), rfl⟩
theorem tw_1223 : Cond.constantLong "GhostTrainModel" 249 (2147483647) ∈ gh_G := List.mem_filter.mpr ⟨List.mem_append_right _ (List.mem_of_getElem? (i := 1223) (by decide +kernel)), rfl⟩
theorem tw_1224 : Cond.constantLong "GhostTrainModel" 251 (3) ∈ gh_G := List.mem_filter.mpr ⟨List.mem_append_right _ (List.mem_of_getElem? (i := 1224) (by decide +kernel)), rfl⟩
theorem tw_1226 : Cond.instanceMethod ⟨"GhostTrainModel", "image", "(I)I"⟩ ∈ gh_G := List.mem_filter.mpr ⟨List.mem_append_right _ (List.mem_of_getElem? (i := 1226) (by decide +kernel)), rfl⟩
theorem tw_1227 : Cond.selects "GhostTrainModel" ⟨"GhostTrainModel", "image", "(I)I"⟩ ⟨"GhostTrainModel", "image", "(I)I"⟩ ∈ gh_G := List.mem_filter.mpr ⟨List.mem_append_right _ (List.mem_of_getElem? (i := 1227) (by decide +kernel)), rfl⟩
theorem tw_1228 : Cond.code ⟨"GhostTrainModel", "image", "(I)I"⟩ cX7_image 2 (some .int) ∈ gh_G := List.mem_filter.mpr ⟨List.mem_append_right _ (List.mem_of_getElem? (i := 1228) (by decide +kernel)), rfl⟩
theorem tw_1230 : Cond.instanceMethod ⟨"GhostTrainModel", "restore", "(I)I"⟩ ∈ gh_G := List.mem_filter.mpr ⟨List.mem_append_right _ (List.mem_of_getElem? (i := 1230) (by decide +kernel)), rfl⟩
theorem tw_1231 : Cond.selects "GhostTrainModel" ⟨"GhostTrainModel", "restore", "(I)I"⟩ ⟨"GhostTrainModel", "restore", "(I)I"⟩ ∈ gh_G := List.mem_filter.mpr ⟨List.mem_append_right _ (List.mem_of_getElem? (i := 1231) (by decide +kernel)), rfl⟩
theorem tw_1232 : Cond.code ⟨"GhostTrainModel", "restore", "(I)I"⟩ cX7_restore 2 (some .int) ∈ gh_G := List.mem_filter.mpr ⟨List.mem_append_right _ (List.mem_of_getElem? (i := 1232) (by decide +kernel)), rfl⟩
theorem tw_1234 : Cond.instanceMethod ⟨"GhostTrainModel", "kind", "(I)I"⟩ ∈ gh_G := List.mem_filter.mpr ⟨List.mem_append_right _ (List.mem_of_getElem? (i := 1234) (by decide +kernel)), rfl⟩
theorem tw_1235 : Cond.selects "GhostTrainModel" ⟨"GhostTrainModel", "kind", "(I)I"⟩ ⟨"GhostTrainModel", "kind", "(I)I"⟩ ∈ gh_G := List.mem_filter.mpr ⟨List.mem_append_right _ (List.mem_of_getElem? (i := 1235) (by decide +kernel)), rfl⟩
theorem tw_1236 : Cond.code ⟨"GhostTrainModel", "kind", "(I)I"⟩ cX7_kind 2 (some .int) ∈ gh_G := List.mem_filter.mpr ⟨List.mem_append_right _ (List.mem_of_getElem? (i := 1236) (by decide +kernel)), rfl⟩
theorem tw_1237 : Cond.methodLink "GhostTrainModel" 256 ⟨"GhostTrainModel", "kindAt", "(I)I"⟩ ∈ gh_G := List.mem_filter.mpr ⟨List.mem_append_right _ (List.mem_of_getElem? (i := 1237) (by decide +kernel)), rfl⟩
theorem tw_1239 : Cond.instanceMethod ⟨"GhostTrainModel", "kindAt", "(I)I"⟩ ∈ gh_G := List.mem_filter.mpr ⟨List.mem_append_right _ (List.mem_of_getElem? (i := 1239) (by decide +kernel)), rfl⟩
theorem tw_1240 : Cond.code ⟨"GhostTrainModel", "kindAt", "(I)I"⟩ cX7_kindAt 2 (some .int) ∈ gh_G := List.mem_filter.mpr ⟨List.mem_append_right _ (List.mem_of_getElem? (i := 1240) (by decide +kernel)), rfl⟩
theorem tw_1242 : Cond.instanceMethod ⟨"GhostTrainModel", "as", "(II)I"⟩ ∈ gh_G := List.mem_filter.mpr ⟨List.mem_append_right _ (List.mem_of_getElem? (i := 1242) (by decide +kernel)), rfl⟩
theorem tw_1243 : Cond.selects "GhostTrainModel" ⟨"GhostTrainModel", "as", "(II)I"⟩ ⟨"GhostTrainModel", "as", "(II)I"⟩ ∈ gh_G := List.mem_filter.mpr ⟨List.mem_append_right _ (List.mem_of_getElem? (i := 1243) (by decide +kernel)), rfl⟩
theorem tw_1244 : Cond.code ⟨"GhostTrainModel", "as", "(II)I"⟩ cX7_as 5 (some .int) ∈ gh_G := List.mem_filter.mpr ⟨List.mem_append_right _ (List.mem_of_getElem? (i := 1244) (by decide +kernel)), rfl⟩
theorem tw_1246 : Cond.instanceMethod ⟨"GhostTrainModel", "ask", "(II)I"⟩ ∈ gh_G := List.mem_filter.mpr ⟨List.mem_append_right _ (List.mem_of_getElem? (i := 1246) (by decide +kernel)), rfl⟩
theorem tw_1247 : Cond.selects "GhostTrainModel" ⟨"GhostTrainModel", "ask", "(II)I"⟩ ⟨"GhostTrainModel", "ask", "(II)I"⟩ ∈ gh_G := List.mem_filter.mpr ⟨List.mem_append_right _ (List.mem_of_getElem? (i := 1247) (by decide +kernel)), rfl⟩
theorem tw_1248 : Cond.code ⟨"GhostTrainModel", "ask", "(II)I"⟩ cX7_ask 3 (some .int) ∈ gh_G := List.mem_filter.mpr ⟨List.mem_append_right _ (List.mem_of_getElem? (i := 1248) (by decide +kernel)), rfl⟩
theorem tw_1249 : Cond.methodLink "GhostTrainModel" 283 ⟨"GhostTrainModel", "sizeOf", "(I)I"⟩ ∈ gh_G := List.mem_filter.mpr ⟨List.mem_append_right _ (List.mem_of_getElem? (i := 1249) (by decide +kernel)), rfl⟩
theorem tw_1251 : Cond.instanceMethod ⟨"GhostTrainModel", "sizeOf", "(I)I"⟩ ∈ gh_G := List.mem_filter.mpr ⟨List.mem_append_right _ (List.mem_of_getElem? (i := 1251) (by decide +kernel)), rfl⟩
theorem tw_1252 : Cond.code ⟨"GhostTrainModel", "sizeOf", "(I)I"⟩ cX7_sizeOf 2 (some .int) ∈ gh_G := List.mem_filter.mpr ⟨List.mem_append_right _ (List.mem_of_getElem? (i := 1252) (by decide +kernel)), rfl⟩
theorem tw_1253 : Cond.methodLink "GhostTrainModel" 262 ⟨"GhostTrainModel", "begins", "(I)V"⟩ ∈ gh_G := List.mem_filter.mpr ⟨List.mem_append_right _ (List.mem_of_getElem? (i := 1253) (by decide +kernel)), rfl⟩
theorem tw_1255 : Cond.instanceMethod ⟨"GhostTrainModel", "begins", "(I)V"⟩ ∈ gh_G := List.mem_filter.mpr ⟨List.mem_append_right _ (List.mem_of_getElem? (i := 1255) (by decide +kernel)), rfl⟩
theorem tw_1256 : Cond.code ⟨"GhostTrainModel", "begins", "(I)V"⟩ cX7_begins 2 (none) ∈ gh_G := List.mem_filter.mpr ⟨List.mem_append_right _ (List.mem_of_getElem? (i := 1256) (by decide +kernel)), rfl⟩
theorem tw_1257 : Cond.methodLink "GhostTrainModel" 271 ⟨"GhostTrainModel", "body11", "(I)I"⟩ ∈ gh_G := List.mem_filter.mpr ⟨List.mem_append_right _ (List.mem_of_getElem? (i := 1257) (by decide +kernel)), rfl⟩
theorem tw_1259 : Cond.instanceMethod ⟨"GhostTrainModel", "body11", "(I)I"⟩ ∈ gh_G := List.mem_filter.mpr ⟨List.mem_append_right _ (List.mem_of_getElem? (i := 1259) (by decide +kernel)), rfl⟩
theorem tw_1260 : Cond.code ⟨"GhostTrainModel", "body11", "(I)I"⟩ cX7_body11 3 (some .int) ∈ gh_G := List.mem_filter.mpr ⟨List.mem_append_right _ (List.mem_of_getElem? (i := 1260) (by decide +kernel)), rfl⟩
theorem tw_1261 : Cond.methodLink "GhostTrainModel" 265 ⟨"GhostTrainModel", "body10", "(I)I"⟩ ∈ gh_G := List.mem_filter.mpr ⟨List.mem_append_right _ (List.mem_of_getElem? (i := 1261) (by decide +kernel)), rfl⟩
theorem tw_1263 : Cond.instanceMethod ⟨"GhostTrainModel", "body10", "(I)I"⟩ ∈ gh_G := List.mem_filter.mpr ⟨List.mem_append_right _ (List.mem_of_getElem? (i := 1263) (by decide +kernel)), rfl⟩
theorem tw_1264 : Cond.code ⟨"GhostTrainModel", "body10", "(I)I"⟩ cX7_body10 2 (some .int) ∈ gh_G := List.mem_filter.mpr ⟨List.mem_append_right _ (List.mem_of_getElem? (i := 1264) (by decide +kernel)), rfl⟩
theorem tw_1265 : Cond.methodLink "GhostTrainModel" 268 ⟨"GhostTrainModel", "markOfBones", "(I)I"⟩ ∈ gh_G := List.mem_filter.mpr ⟨List.mem_append_right _ (List.mem_of_getElem? (i := 1265) (by decide +kernel)), rfl⟩
theorem tw_1267 : Cond.instanceMethod ⟨"GhostTrainModel", "markOfBones", "(I)I"⟩ ∈ gh_G := List.mem_filter.mpr ⟨List.mem_append_right _ (List.mem_of_getElem? (i := 1267) (by decide +kernel)), rfl⟩
theorem tw_1268 : Cond.code ⟨"GhostTrainModel", "markOfBones", "(I)I"⟩ cX7_markOfBones 2 (some .int) ∈ gh_G := List.mem_filter.mpr ⟨List.mem_append_right _ (List.mem_of_getElem? (i := 1268) (by decide +kernel)), rfl⟩
theorem tw_1269 : Cond.methodLink "GhostTrainModel" 280 ⟨"GhostTrainModel", "body21", "(I)I"⟩ ∈ gh_G := List.mem_filter.mpr ⟨List.mem_append_right _ (List.mem_of_getElem? (i := 1269) (by decide +kernel)), rfl⟩
theorem tw_1271 : Cond.instanceMethod ⟨"GhostTrainModel", "body21", "(I)I"⟩ ∈ gh_G := List.mem_filter.mpr ⟨List.mem_append_right _ (List.mem_of_getElem? (i := 1271) (by decide +kernel)), rfl⟩
theorem tw_1272 : Cond.code ⟨"GhostTrainModel", "body21", "(I)I"⟩ cX7_body21 2 (some .int) ∈ gh_G := List.mem_filter.mpr ⟨List.mem_append_right _ (List.mem_of_getElem? (i := 1272) (by decide +kernel)), rfl⟩
theorem tw_1273 : Cond.methodLink "GhostTrainModel" 277 ⟨"GhostTrainModel", "body20", "(I)I"⟩ ∈ gh_G := List.mem_filter.mpr ⟨List.mem_append_right _ (List.mem_of_getElem? (i := 1273) (by decide +kernel)), rfl⟩
theorem tw_1275 : Cond.instanceMethod ⟨"GhostTrainModel", "body20", "(I)I"⟩ ∈ gh_G := List.mem_filter.mpr ⟨List.mem_append_right _ (List.mem_of_getElem? (i := 1275) (by decide +kernel)), rfl⟩
theorem tw_1276 : Cond.code ⟨"GhostTrainModel", "body20", "(I)I"⟩ cX7_body20 2 (some .int) ∈ gh_G := List.mem_filter.mpr ⟨List.mem_append_right _ (List.mem_of_getElem? (i := 1276) (by decide +kernel)), rfl⟩
theorem tw_1277 : Cond.methodLink "GhostTrainModel" 274 ⟨"GhostTrainModel", "body13", "(I)I"⟩ ∈ gh_G := List.mem_filter.mpr ⟨List.mem_append_right _ (List.mem_of_getElem? (i := 1277) (by decide +kernel)), rfl⟩
theorem tw_1279 : Cond.instanceMethod ⟨"GhostTrainModel", "body13", "(I)I"⟩ ∈ gh_G := List.mem_filter.mpr ⟨List.mem_append_right _ (List.mem_of_getElem? (i := 1279) (by decide +kernel)), rfl⟩
theorem tw_1280 : Cond.code ⟨"GhostTrainModel", "body13", "(I)I"⟩ cX7_body13 2 (some .int) ∈ gh_G := List.mem_filter.mpr ⟨List.mem_append_right _ (List.mem_of_getElem? (i := 1280) (by decide +kernel)), rfl⟩
theorem tw_1281 : Cond.methodLink "GhostTrainModel" 286 ⟨"GhostTrainModel", "markOf", "(I)I"⟩ ∈ gh_G := List.mem_filter.mpr ⟨List.mem_append_right _ (List.mem_of_getElem? (i := 1281) (by decide +kernel)), rfl⟩
theorem tw_1283 : Cond.instanceMethod ⟨"GhostTrainModel", "markOf", "(I)I"⟩ ∈ gh_G := List.mem_filter.mpr ⟨List.mem_append_right _ (List.mem_of_getElem? (i := 1283) (by decide +kernel)), rfl⟩
theorem tw_1284 : Cond.code ⟨"GhostTrainModel", "markOf", "(I)I"⟩ cX7_markOf 3 (some .int) ∈ gh_G := List.mem_filter.mpr ⟨List.mem_append_right _ (List.mem_of_getElem? (i := 1284) (by decide +kernel)), rfl⟩
theorem tw_1286 : Cond.instanceMethod ⟨"GhostTrainModel", "trace", "(I)I"⟩ ∈ gh_G := List.mem_filter.mpr ⟨List.mem_append_right _ (List.mem_of_getElem? (i := 1286) (by decide +kernel)), rfl⟩
theorem tw_1287 : Cond.selects "GhostTrainModel" ⟨"GhostTrainModel", "trace", "(I)I"⟩ ⟨"GhostTrainModel", "trace", "(I)I"⟩ ∈ gh_G := List.mem_filter.mpr ⟨List.mem_append_right _ (List.mem_of_getElem? (i := 1287) (by decide +kernel)), rfl⟩
theorem tw_1288 : Cond.code ⟨"GhostTrainModel", "trace", "(I)I"⟩ cX7_trace 2 (some .int) ∈ gh_G := List.mem_filter.mpr ⟨List.mem_append_right _ (List.mem_of_getElem? (i := 1288) (by decide +kernel)), rfl⟩
theorem tw_1290 : Cond.instanceMethod ⟨"GhostTrainModel", "count", "(I)I"⟩ ∈ gh_G := List.mem_filter.mpr ⟨List.mem_append_right _ (List.mem_of_getElem? (i := 1290) (by decide +kernel)), rfl⟩
theorem tw_1291 : Cond.selects "GhostTrainModel" ⟨"GhostTrainModel", "count", "(I)I"⟩ ⟨"GhostTrainModel", "count", "(I)I"⟩ ∈ gh_G := List.mem_filter.mpr ⟨List.mem_append_right _ (List.mem_of_getElem? (i := 1291) (by decide +kernel)), rfl⟩
theorem tw_1292 : Cond.code ⟨"GhostTrainModel", "count", "(I)I"⟩ cX7_count 2 (some .int) ∈ gh_G := List.mem_filter.mpr ⟨List.mem_append_right _ (List.mem_of_getElem? (i := 1292) (by decide +kernel)), rfl⟩
theorem tw_1293 : Cond.methodLink "GhostTrainModel" 289 ⟨"GhostTrainModel", "rowMany", "()I"⟩ ∈ gh_G := List.mem_filter.mpr ⟨List.mem_append_right _ (List.mem_of_getElem? (i := 1293) (by decide +kernel)), rfl⟩
theorem tw_1295 : Cond.instanceMethod ⟨"GhostTrainModel", "rowMany", "()I"⟩ ∈ gh_G := List.mem_filter.mpr ⟨List.mem_append_right _ (List.mem_of_getElem? (i := 1295) (by decide +kernel)), rfl⟩
theorem tw_1296 : Cond.code ⟨"GhostTrainModel", "rowMany", "()I"⟩ cX7_rowMany 3 (some .int) ∈ gh_G := List.mem_filter.mpr ⟨List.mem_append_right _ (List.mem_of_getElem? (i := 1296) (by decide +kernel)), rfl⟩
theorem tw_1298 : Cond.instanceMethod ⟨"GhostTrainModel", "status", "()I"⟩ ∈ gh_G := List.mem_filter.mpr ⟨List.mem_append_right _ (List.mem_of_getElem? (i := 1298) (by decide +kernel)), rfl⟩
theorem tw_1299 : Cond.selects "GhostTrainModel" ⟨"GhostTrainModel", "status", "()I"⟩ ⟨"GhostTrainModel", "status", "()I"⟩ ∈ gh_G := List.mem_filter.mpr ⟨List.mem_append_right _ (List.mem_of_getElem? (i := 1299) (by decide +kernel)), rfl⟩
theorem tw_1300 : Cond.code ⟨"GhostTrainModel", "status", "()I"⟩ cX7_status 1 (some .int) ∈ gh_G := List.mem_filter.mpr ⟨List.mem_append_right _ (List.mem_of_getElem? (i := 1300) (by decide +kernel)), rfl⟩
theorem fl_RX0_11 : gh_FL RX0 11 0 0 := ⟨RX0, TX0, 3, rfl, by decide, Or.inl tw_153⟩
theorem fl_RX0_18 : gh_FL RX0 18 0 1 := ⟨RX0, TX0, 3, rfl, by decide, Or.inl tw_154⟩
theorem fl_RX0_26 : gh_FL RX0 26 0 2 := ⟨RX0, TX0, 3, rfl, by decide, Or.inl tw_155⟩
theorem fl_RX1_18 : gh_FL RX1 18 1 1 := ⟨RX1, TX1, 2, rfl, by decide, Or.inl tw_210⟩
theorem fl_RX1_22 : gh_FL RX1 22 5 5 := ⟨RX5, TX5, 19, rfl, by decide, Or.inr ⟨"GhostTrain", tw_67⟩⟩
theorem fl_RX1_46 : gh_FL RX1 46 5 7 := ⟨RX5, TX5, 19, rfl, by decide, Or.inr ⟨"GhostTrain", tw_74⟩⟩
theorem fl_RX1_49 : gh_FL RX1 49 5 9 := ⟨RX5, TX5, 19, rfl, by decide, Or.inr ⟨"GhostTrain", tw_80⟩⟩
theorem fl_RX1_9 : gh_FL RX1 9 1 0 := ⟨RX1, TX1, 2, rfl, by decide, Or.inl tw_208⟩
theorem fl_RX2_107 : gh_FL RX2 107 5 0 := ⟨RX5, TX5, 19, rfl, by decide, Or.inr ⟨"GhostTrain", tw_55⟩⟩
theorem fl_RX2_110 : gh_FL RX2 110 5 6 := ⟨RX5, TX5, 19, rfl, by decide, Or.inr ⟨"GhostTrain", tw_72⟩⟩
theorem fl_RX2_113 : gh_FL RX2 113 5 1 := ⟨RX5, TX5, 19, rfl, by decide, Or.inr ⟨"GhostTrain", tw_59⟩⟩
theorem fl_RX2_12 : gh_FL RX2 12 2 0 := ⟨RX2, TX2, 9, rfl, by decide, Or.inl tw_172⟩
theorem fl_RX2_123 : gh_FL RX2 123 5 11 := ⟨RX5, TX5, 19, rfl, by decide, Or.inr ⟨"GhostTrain", tw_86⟩⟩
theorem fl_RX2_150 : gh_FL RX2 150 2 2 := ⟨RX2, TX2, 9, rfl, by decide, Or.inl tw_174⟩
theorem fl_RX2_153 : gh_FL RX2 153 3 3 := ⟨RX3, TX3, 4, rfl, by decide, Or.inr ⟨"GhostTrain", tw_230⟩⟩
theorem fl_RX2_156 : gh_FL RX2 156 5 14 := ⟨RX5, TX5, 19, rfl, by decide, Or.inr ⟨"GhostTrain", tw_94⟩⟩
theorem fl_RX2_159 : gh_FL RX2 159 5 5 := ⟨RX5, TX5, 19, rfl, by decide, Or.inr ⟨"GhostTrain", tw_68⟩⟩
theorem fl_RX2_162 : gh_FL RX2 162 5 7 := ⟨RX5, TX5, 19, rfl, by decide, Or.inr ⟨"GhostTrain", tw_76⟩⟩
theorem fl_RX2_18 : gh_FL RX2 18 2 1 := ⟨RX2, TX2, 9, rfl, by decide, Or.inl tw_173⟩
theorem fl_RX2_22 : gh_FL RX2 22 2 3 := ⟨RX2, TX2, 9, rfl, by decide, Or.inl tw_175⟩
theorem fl_RX2_25 : gh_FL RX2 25 2 4 := ⟨RX2, TX2, 9, rfl, by decide, Or.inl tw_177⟩
theorem fl_RX2_28 : gh_FL RX2 28 2 5 := ⟨RX2, TX2, 9, rfl, by decide, Or.inl tw_178⟩
theorem fl_RX2_31 : gh_FL RX2 31 2 8 := ⟨RX2, TX2, 9, rfl, by decide, Or.inl tw_182⟩
theorem fl_RX2_34 : gh_FL RX2 34 2 6 := ⟨RX2, TX2, 9, rfl, by decide, Or.inl tw_179⟩
theorem fl_RX2_46 : gh_FL RX2 46 5 15 := ⟨RX5, TX5, 19, rfl, by decide, Or.inr ⟨"GhostTrain", tw_96⟩⟩
theorem fl_RX2_57 : gh_FL RX2 57 5 13 := ⟨RX5, TX5, 19, rfl, by decide, Or.inr ⟨"GhostTrain", tw_90⟩⟩
theorem fl_RX2_64 : gh_FL RX2 64 2 7 := ⟨RX2, TX2, 9, rfl, by decide, Or.inl tw_180⟩
theorem fl_RX2_71 : gh_FL RX2 71 5 17 := ⟨RX5, TX5, 19, rfl, by decide, Or.inr ⟨"GhostTrain", tw_101⟩⟩
theorem fl_RX2_97 : gh_FL RX2 97 5 2 := ⟨RX5, TX5, 19, rfl, by decide, Or.inr ⟨"GhostTrain", tw_61⟩⟩
theorem fl_RX3_15 : gh_FL RX3 15 3 0 := ⟨RX3, TX3, 4, rfl, by decide, Or.inl tw_222⟩
theorem fl_RX3_19 : gh_FL RX3 19 3 1 := ⟨RX3, TX3, 4, rfl, by decide, Or.inl tw_224⟩
theorem fl_RX3_23 : gh_FL RX3 23 3 2 := ⟨RX3, TX3, 4, rfl, by decide, Or.inl tw_226⟩
theorem fl_RX3_9 : gh_FL RX3 9 3 3 := ⟨RX3, TX3, 4, rfl, by decide, Or.inl tw_228⟩
theorem fl_RX4_15 : gh_FL RX4 15 4 2 := ⟨RX4, TX4, 4, rfl, by decide, Or.inl tw_33⟩
theorem fl_RX4_19 : gh_FL RX4 19 4 3 := ⟨RX4, TX4, 4, rfl, by decide, Or.inl tw_35⟩
theorem fl_RX4_45 : gh_FL RX4 45 5 0 := ⟨RX5, TX5, 19, rfl, by decide, Or.inr ⟨"GhostTrain", tw_54⟩⟩
theorem fl_RX4_63 : gh_FL RX4 63 4 1 := ⟨RX4, TX4, 4, rfl, by decide, Or.inl tw_31⟩
theorem fl_RX4_9 : gh_FL RX4 9 4 0 := ⟨RX4, TX4, 4, rfl, by decide, Or.inl tw_29⟩
theorem fl_RX5_15 : gh_FL RX5 15 5 6 := ⟨RX5, TX5, 19, rfl, by decide, Or.inl tw_70⟩
theorem fl_RX5_18 : gh_FL RX5 18 5 7 := ⟨RX5, TX5, 19, rfl, by decide, Or.inl tw_73⟩
theorem fl_RX5_21 : gh_FL RX5 21 5 8 := ⟨RX5, TX5, 19, rfl, by decide, Or.inl tw_77⟩
theorem fl_RX5_25 : gh_FL RX5 25 5 9 := ⟨RX5, TX5, 19, rfl, by decide, Or.inl tw_79⟩
theorem fl_RX5_28 : gh_FL RX5 28 5 10 := ⟨RX5, TX5, 19, rfl, by decide, Or.inl tw_82⟩
theorem fl_RX5_31 : gh_FL RX5 31 5 11 := ⟨RX5, TX5, 19, rfl, by decide, Or.inl tw_84⟩
theorem fl_RX5_34 : gh_FL RX5 34 5 12 := ⟨RX5, TX5, 19, rfl, by decide, Or.inl tw_87⟩
theorem fl_RX5_37 : gh_FL RX5 37 5 13 := ⟨RX5, TX5, 19, rfl, by decide, Or.inl tw_89⟩
theorem fl_RX5_40 : gh_FL RX5 40 5 14 := ⟨RX5, TX5, 19, rfl, by decide, Or.inl tw_92⟩
theorem fl_RX5_43 : gh_FL RX5 43 5 15 := ⟨RX5, TX5, 19, rfl, by decide, Or.inl tw_95⟩
theorem fl_RX5_46 : gh_FL RX5 46 5 16 := ⟨RX5, TX5, 19, rfl, by decide, Or.inl tw_98⟩
theorem fl_RX5_49 : gh_FL RX5 49 5 17 := ⟨RX5, TX5, 19, rfl, by decide, Or.inl tw_100⟩
theorem fl_RX5_52 : gh_FL RX5 52 5 18 := ⟨RX5, TX5, 19, rfl, by decide, Or.inl tw_102⟩
theorem fl_RX5_55 : gh_FL RX5 55 5 0 := ⟨RX5, TX5, 19, rfl, by decide, Or.inl tw_53⟩
theorem fl_RX5_59 : gh_FL RX5 59 5 1 := ⟨RX5, TX5, 19, rfl, by decide, Or.inl tw_57⟩
theorem fl_RX5_62 : gh_FL RX5 62 5 2 := ⟨RX5, TX5, 19, rfl, by decide, Or.inl tw_60⟩
theorem fl_RX5_65 : gh_FL RX5 65 5 3 := ⟨RX5, TX5, 19, rfl, by decide, Or.inl tw_63⟩
theorem fl_RX5_68 : gh_FL RX5 68 5 4 := ⟨RX5, TX5, 19, rfl, by decide, Or.inl tw_65⟩
theorem fl_RX5_9 : gh_FL RX5 9 5 5 := ⟨RX5, TX5, 19, rfl, by decide, Or.inl tw_66⟩
theorem fl_RX6_106 : gh_FL RX6 106 4 1 := ⟨RX4, TX4, 4, rfl, by decide, Or.inr ⟨"GhostTrain", tw_32⟩⟩
theorem fl_RX6_108 : gh_FL RX6 108 4 0 := ⟨RX4, TX4, 4, rfl, by decide, Or.inr ⟨"GhostTrain", tw_30⟩⟩
theorem fl_RX6_11 : gh_FL RX6 11 6 0 := ⟨RX6, TX6, 10, rfl, by decide, Or.inl tw_240⟩
theorem fl_RX6_115 : gh_FL RX6 115 4 3 := ⟨RX4, TX4, 4, rfl, by decide, Or.inr ⟨"GhostTrain", tw_36⟩⟩
theorem fl_RX6_118 : gh_FL RX6 118 6 8 := ⟨RX6, TX6, 10, rfl, by decide, Or.inl tw_248⟩
theorem fl_RX6_122 : gh_FL RX6 122 4 2 := ⟨RX4, TX4, 4, rfl, by decide, Or.inr ⟨"GhostTrain", tw_34⟩⟩
theorem fl_RX6_129 : gh_FL RX6 129 5 1 := ⟨RX5, TX5, 19, rfl, by decide, Or.inr ⟨"GhostTrain", tw_58⟩⟩
theorem fl_RX6_132 : gh_FL RX6 132 0 2 := ⟨RX0, TX0, 3, rfl, by decide, Or.inr ⟨"GhostTrain", tw_156⟩⟩
theorem fl_RX6_146 : gh_FL RX6 146 5 3 := ⟨RX5, TX5, 19, rfl, by decide, Or.inr ⟨"GhostTrain", tw_64⟩⟩
theorem fl_RX6_165 : gh_FL RX6 165 5 6 := ⟨RX5, TX5, 19, rfl, by decide, Or.inr ⟨"GhostTrain", tw_71⟩⟩
theorem fl_RX6_168 : gh_FL RX6 168 5 8 := ⟨RX5, TX5, 19, rfl, by decide, Or.inr ⟨"GhostTrain", tw_78⟩⟩
theorem fl_RX6_179 : gh_FL RX6 179 5 11 := ⟨RX5, TX5, 19, rfl, by decide, Or.inr ⟨"GhostTrain", tw_85⟩⟩
theorem fl_RX6_18 : gh_FL RX6 18 6 1 := ⟨RX6, TX6, 10, rfl, by decide, Or.inl tw_241⟩
theorem fl_RX6_182 : gh_FL RX6 182 5 13 := ⟨RX5, TX5, 19, rfl, by decide, Or.inr ⟨"GhostTrain", tw_91⟩⟩
theorem fl_RX6_192 : gh_FL RX6 192 5 7 := ⟨RX5, TX5, 19, rfl, by decide, Or.inr ⟨"GhostTrain", tw_75⟩⟩
theorem fl_RX6_195 : gh_FL RX6 195 5 9 := ⟨RX5, TX5, 19, rfl, by decide, Or.inr ⟨"GhostTrain", tw_81⟩⟩
theorem fl_RX6_198 : gh_FL RX6 198 5 10 := ⟨RX5, TX5, 19, rfl, by decide, Or.inr ⟨"GhostTrain", tw_83⟩⟩
theorem fl_RX6_201 : gh_FL RX6 201 5 12 := ⟨RX5, TX5, 19, rfl, by decide, Or.inr ⟨"GhostTrain", tw_88⟩⟩
theorem fl_RX6_204 : gh_FL RX6 204 5 14 := ⟨RX5, TX5, 19, rfl, by decide, Or.inr ⟨"GhostTrain", tw_93⟩⟩
theorem fl_RX6_207 : gh_FL RX6 207 5 15 := ⟨RX5, TX5, 19, rfl, by decide, Or.inr ⟨"GhostTrain", tw_97⟩⟩
theorem fl_RX6_210 : gh_FL RX6 210 5 16 := ⟨RX5, TX5, 19, rfl, by decide, Or.inr ⟨"GhostTrain", tw_99⟩⟩
theorem fl_RX6_213 : gh_FL RX6 213 5 18 := ⟨RX5, TX5, 19, rfl, by decide, Or.inr ⟨"GhostTrain", tw_103⟩⟩
theorem fl_RX6_220 : gh_FL RX6 220 5 0 := ⟨RX5, TX5, 19, rfl, by decide, Or.inr ⟨"GhostTrain", tw_56⟩⟩
theorem fl_RX6_247 : gh_FL RX6 247 5 2 := ⟨RX5, TX5, 19, rfl, by decide, Or.inr ⟨"GhostTrain", tw_62⟩⟩
theorem fl_RX6_25 : gh_FL RX6 25 6 2 := ⟨RX6, TX6, 10, rfl, by decide, Or.inl tw_242⟩
theorem fl_RX6_254 : gh_FL RX6 254 2 7 := ⟨RX2, TX2, 9, rfl, by decide, Or.inr ⟨"GhostTrain", tw_181⟩⟩
theorem fl_RX6_257 : gh_FL RX6 257 2 3 := ⟨RX2, TX2, 9, rfl, by decide, Or.inr ⟨"GhostTrain", tw_176⟩⟩
theorem fl_RX6_29 : gh_FL RX6 29 6 3 := ⟨RX6, TX6, 10, rfl, by decide, Or.inl tw_243⟩
theorem fl_RX6_313 : gh_FL RX6 313 5 5 := ⟨RX5, TX5, 19, rfl, by decide, Or.inr ⟨"GhostTrain", tw_69⟩⟩
theorem fl_RX6_322 : gh_FL RX6 322 1 1 := ⟨RX1, TX1, 2, rfl, by decide, Or.inr ⟨"GhostTrain", tw_211⟩⟩
theorem fl_RX6_325 : gh_FL RX6 325 1 0 := ⟨RX1, TX1, 2, rfl, by decide, Or.inr ⟨"GhostTrain", tw_209⟩⟩
theorem fl_RX6_334 : gh_FL RX6 334 6 9 := ⟨RX6, TX6, 10, rfl, by decide, Or.inl tw_249⟩
theorem fl_RX6_35 : gh_FL RX6 35 6 4 := ⟨RX6, TX6, 10, rfl, by decide, Or.inl tw_244⟩
theorem fl_RX6_39 : gh_FL RX6 39 6 5 := ⟨RX6, TX6, 10, rfl, by decide, Or.inl tw_245⟩
theorem fl_RX6_46 : gh_FL RX6 46 6 6 := ⟨RX6, TX6, 10, rfl, by decide, Or.inl tw_246⟩
theorem fl_RX6_53 : gh_FL RX6 53 6 7 := ⟨RX6, TX6, 10, rfl, by decide, Or.inl tw_247⟩
theorem fl_RX6_78 : gh_FL RX6 78 3 0 := ⟨RX3, TX3, 4, rfl, by decide, Or.inr ⟨"GhostTrain", tw_223⟩⟩
theorem fl_RX6_82 : gh_FL RX6 82 3 2 := ⟨RX3, TX3, 4, rfl, by decide, Or.inr ⟨"GhostTrain", tw_227⟩⟩
theorem fl_RX6_86 : gh_FL RX6 86 3 3 := ⟨RX3, TX3, 4, rfl, by decide, Or.inr ⟨"GhostTrain", tw_229⟩⟩
theorem fl_RX6_93 : gh_FL RX6 93 3 1 := ⟨RX3, TX3, 4, rfl, by decide, Or.inr ⟨"GhostTrain", tw_225⟩⟩
theorem fl_RX7_124 : gh_FL RX7 124 7 9 := ⟨RX7, TX7, 22, rfl, by decide, Or.inl tw_830⟩
theorem fl_RX7_13 : gh_FL RX7 13 7 3 := ⟨RX7, TX7, 22, rfl, by decide, Or.inl tw_824⟩
theorem fl_RX7_131 : gh_FL RX7 131 7 1 := ⟨RX7, TX7, 22, rfl, by decide, Or.inl tw_822⟩
theorem fl_RX7_143 : gh_FL RX7 143 7 5 := ⟨RX7, TX7, 22, rfl, by decide, Or.inl tw_826⟩
theorem fl_RX7_16 : gh_FL RX7 16 7 4 := ⟨RX7, TX7, 22, rfl, by decide, Or.inl tw_825⟩
theorem fl_RX7_19 : gh_FL RX7 19 7 6 := ⟨RX7, TX7, 22, rfl, by decide, Or.inl tw_827⟩
theorem fl_RX7_22 : gh_FL RX7 22 7 7 := ⟨RX7, TX7, 22, rfl, by decide, Or.inl tw_828⟩
theorem fl_RX7_25 : gh_FL RX7 25 7 10 := ⟨RX7, TX7, 22, rfl, by decide, Or.inl tw_831⟩
theorem fl_RX7_253 : gh_FL RX7 253 7 2 := ⟨RX7, TX7, 22, rfl, by decide, Or.inl tw_823⟩
theorem fl_RX7_259 : gh_FL RX7 259 7 15 := ⟨RX7, TX7, 22, rfl, by decide, Or.inl tw_836⟩
theorem fl_RX7_28 : gh_FL RX7 28 7 11 := ⟨RX7, TX7, 22, rfl, by decide, Or.inl tw_832⟩
theorem fl_RX7_31 : gh_FL RX7 31 7 12 := ⟨RX7, TX7, 22, rfl, by decide, Or.inl tw_833⟩
theorem fl_RX7_34 : gh_FL RX7 34 7 14 := ⟨RX7, TX7, 22, rfl, by decide, Or.inl tw_835⟩
theorem fl_RX7_37 : gh_FL RX7 37 7 19 := ⟨RX7, TX7, 22, rfl, by decide, Or.inl tw_840⟩
theorem fl_RX7_40 : gh_FL RX7 40 7 20 := ⟨RX7, TX7, 22, rfl, by decide, Or.inl tw_841⟩
theorem fl_RX7_43 : gh_FL RX7 43 7 21 := ⟨RX7, TX7, 22, rfl, by decide, Or.inl tw_842⟩
theorem fl_RX7_46 : gh_FL RX7 46 7 13 := ⟨RX7, TX7, 22, rfl, by decide, Or.inl tw_834⟩
theorem fl_RX7_7 : gh_FL RX7 7 7 0 := ⟨RX7, TX7, 22, rfl, by decide, Or.inl tw_821⟩
theorem fl_RX7_70 : gh_FL RX7 70 7 8 := ⟨RX7, TX7, 22, rfl, by decide, Or.inl tw_829⟩
theorem fl_RX7_74 : gh_FL RX7 74 7 17 := ⟨RX7, TX7, 22, rfl, by decide, Or.inl tw_838⟩
theorem fl_RX7_81 : gh_FL RX7 81 7 18 := ⟨RX7, TX7, 22, rfl, by decide, Or.inl tw_839⟩
theorem fl_RX7_84 : gh_FL RX7 84 7 16 := ⟨RX7, TX7, 22, rfl, by decide, Or.inl tw_837⟩
theorem ml_RX0_22 : gh_ML RX0 22 yX5_copyFrom := Or.inr ⟨"GhostTrain", tw_407⟩
theorem ml_RX1_27 : gh_ML RX1 27 yX6_within := Or.inr ⟨"GhostTrain", tw_785⟩
theorem ml_RX1_38 : gh_ML RX1 38 yX1_give := Or.inl tw_791
theorem ml_RX1_42 : gh_ML RX1 42 yX1_begins := Or.inl tw_794
theorem ml_RX2_100 : gh_ML RX2 100 yX2_mergeBest := Or.inl tw_611
theorem ml_RX2_104 : gh_ML RX2 104 yX2_swapTried := Or.inl tw_607
theorem ml_RX2_116 : gh_ML RX2 116 yX2_isCalm := Or.inl tw_631
theorem ml_RX2_120 : gh_ML RX2 120 yX5_switchTo := Or.inr ⟨"GhostTrain", tw_635⟩
theorem ml_RX2_126 : gh_ML RX2 126 yX2_switchOnForMost := Or.inl tw_678
theorem ml_RX2_129 : gh_ML RX2 129 yX2_switchOffForFewest := Or.inl tw_685
theorem ml_RX2_132 : gh_ML RX2 132 yX5_bitsOn := Or.inr ⟨"GhostTrain", tw_690⟩
theorem ml_RX2_144 : gh_ML RX2 144 yX3_holds := Or.inr ⟨"GhostTrain", tw_702⟩
theorem ml_RX2_165 : gh_ML RX2 165 yX2_isAsTold := Or.inl tw_707
theorem ml_RX2_168 : gh_ML RX2 168 yX6_oneIf := Or.inr ⟨"GhostTrain", tw_711⟩
theorem ml_RX2_172 : gh_ML RX2 172 yX2_power := Or.inl tw_729
theorem ml_RX2_175 : gh_ML RX2 175 yX2_commonDivisor := Or.inl tw_732
theorem ml_RX2_183 : gh_ML RX2 183 yX2_draw := Or.inl tw_746
theorem ml_RX2_187 : gh_ML RX2 187 yX5_allFear := Or.inr ⟨"GhostTrain", tw_752⟩
theorem ml_RX2_190 : gh_ML RX2 190 yX5_goAgain := Or.inr ⟨"GhostTrain", tw_750⟩
theorem ml_RX2_38 : gh_ML RX2 38 yX5_copyFrom := Or.inr ⟨"GhostTrain", tw_534⟩
theorem ml_RX2_42 : gh_ML RX2 42 yX5_tickOnFor := Or.inr ⟨"GhostTrain", tw_535⟩
theorem ml_RX2_49 : gh_ML RX2 49 yX2_hasCome := Or.inl tw_567
theorem ml_RX2_53 : gh_ML RX2 53 yX5_tickOn := Or.inr ⟨"GhostTrain", tw_571⟩
theorem ml_RX2_60 : gh_ML RX2 60 yX5_allOut := Or.inr ⟨"GhostTrain", tw_581⟩
theorem ml_RX2_67 : gh_ML RX2 67 yX2_listWaitingFirst := Or.inl tw_590
theorem ml_RX2_80 : gh_ML RX2 80 yX5_allScreams := Or.inr ⟨"GhostTrain", tw_595⟩
theorem ml_RX2_84 : gh_ML RX2 84 yX5_bitsOut := Or.inr ⟨"GhostTrain", tw_596⟩
theorem ml_RX2_87 : gh_ML RX2 87 yJ6_bitCount_0f7a4 := Or.inl tw_597
theorem ml_RX2_93 : gh_ML RX2 93 yX2_nextOrder := Or.inl tw_603
theorem ml_RX3_26 : gh_ML RX3 26 yJ7_fill_53178 := Or.inl tw_291
theorem ml_RX4_22 : gh_ML RX4 22 yX5_clear := Or.inr ⟨"GhostTrain", tw_334⟩
theorem ml_RX4_27 : gh_ML RX4 27 yX4_readLaw := Or.inl tw_339
theorem ml_RX4_31 : gh_ML RX4 31 yX4_readTricks := Or.inl tw_361
theorem ml_RX4_34 : gh_ML RX4 34 yX4_readCars := Or.inl tw_372
theorem ml_RX4_37 : gh_ML RX4 37 yX4_readSign := Or.inl tw_343
theorem ml_RX4_41 : gh_ML RX4 41 yX4_readNumber := Or.inl tw_356
theorem ml_RX4_48 : gh_ML RX4 48 yX4_next := Or.inl tw_347
theorem ml_RX4_52 : gh_ML RX4 52 yX4_kindOfLetter := Or.inl tw_365
theorem ml_RX4_56 : gh_ML RX4 56 yX4_faulty := Or.inl tw_352
theorem ml_RX4_59 : gh_ML RX4 59 yX5_addTrick := Or.inr ⟨"GhostTrain", tw_368⟩
theorem ml_RX4_66 : gh_ML RX4 66 yX5_addCar := Or.inr ⟨"GhostTrain", tw_376⟩
theorem ml_RX4_70 : gh_ML RX4 70 yX6_within := Or.inr ⟨"GhostTrain", tw_360⟩
theorem ml_RX5_107 : gh_ML RX5 107 yX5_fright := Or.inl tw_440
theorem ml_RX5_110 : gh_ML RX5 110 yX5_bitsBetween := Or.inl tw_452
theorem ml_RX5_113 : gh_ML RX5 113 yX6_within := Or.inr ⟨"GhostTrain", tw_456⟩
theorem ml_RX5_117 : gh_ML RX5 117 yX6_oneIf := Or.inr ⟨"GhostTrain", tw_513⟩
theorem ml_RX5_121 : gh_ML RX5 121 yX5_sum := Or.inl tw_552
theorem ml_RX5_125 : gh_ML RX5 125 yX5_bitsOut := Or.inl tw_656
theorem ml_RX5_129 : gh_ML RX5 129 yX5_ridersOf := Or.inl tw_657
theorem ml_RX5_133 : gh_ML RX5 133 yX5_allMet := Or.inl tw_669
theorem ml_RX5_71 : gh_ML RX5 71 yJ7_fill_53178 := Or.inl tw_338
theorem ml_RX5_83 : gh_ML RX5 83 yX5_goOn := Or.inl tw_431
theorem ml_RX5_87 : gh_ML RX5 87 yX5_letIn := Or.inl tw_444
theorem ml_RX5_90 : gh_ML RX5 90 yX5_allOut := Or.inl tw_539
theorem ml_RX5_94 : gh_ML RX5 94 yX5_tickOn := Or.inl tw_543
theorem ml_RX5_97 : gh_ML RX5 97 yX5_comeInto := Or.inl tw_435
theorem ml_RX6_111 : gh_ML RX6 111 yX4_readInto := Or.inr ⟨"GhostTrain", tw_330⟩
theorem ml_RX6_125 : gh_ML RX6 125 yX6_becomes := Or.inl tw_381
theorem ml_RX6_136 : gh_ML RX6 136 yX0_takeBack := Or.inr ⟨"GhostTrain", tw_403⟩
theorem ml_RX6_139 : gh_ML RX6 139 yX2_forget := Or.inr ⟨"GhostTrain", tw_390⟩
theorem ml_RX6_142 : gh_ML RX6 142 yX6_hasTrain := Or.inl tw_412
theorem ml_RX6_149 : gh_ML RX6 149 yX6_beginAct := Or.inl tw_416
theorem ml_RX6_152 : gh_ML RX6 152 yX5_tickOn := Or.inr ⟨"GhostTrain", tw_427⟩
theorem ml_RX6_155 : gh_ML RX6 155 yX5_bitsOut := Or.inr ⟨"GhostTrain", tw_448⟩
theorem ml_RX6_159 : gh_ML RX6 159 yX6_isTrick := Or.inl tw_461
theorem ml_RX6_162 : gh_ML RX6 162 yX6_isCell := Or.inl tw_465
theorem ml_RX6_172 : gh_ML RX6 172 yX6_oneIf := Or.inl tw_473
theorem ml_RX6_176 : gh_ML RX6 176 yX6_isCar := Or.inl tw_480
theorem ml_RX6_185 : gh_ML RX6 185 yX5_goAgain := Or.inr ⟨"GhostTrain", tw_488⟩
theorem ml_RX6_189 : gh_ML RX6 189 yX5_bitsWaiting := Or.inr ⟨"GhostTrain", tw_492⟩
theorem ml_RX6_217 : gh_ML RX6 217 yX5_tricksIn := Or.inr ⟨"GhostTrain", tw_509⟩
theorem ml_RX6_223 : gh_ML RX6 223 yX5_bitsRunning := Or.inr ⟨"GhostTrain", tw_518⟩
theorem ml_RX6_226 : gh_ML RX6 226 yX5_bitsOn := Or.inr ⟨"GhostTrain", tw_522⟩
theorem ml_RX6_229 : gh_ML RX6 229 yX2_behind := Or.inr ⟨"GhostTrain", tw_530⟩
theorem ml_RX6_233 : gh_ML RX6 233 yX5_allScreams := Or.inr ⟨"GhostTrain", tw_548⟩
theorem ml_RX6_236 : gh_ML RX6 236 yX5_allMet := Or.inr ⟨"GhostTrain", tw_555⟩
theorem ml_RX6_239 : gh_ML RX6 239 yX2_firstTime := Or.inr ⟨"GhostTrain", tw_563⟩
theorem ml_RX6_243 : gh_ML RX6 243 yX2_firstAllOut := Or.inr ⟨"GhostTrain", tw_577⟩
theorem ml_RX6_250 : gh_ML RX6 250 yX2_findOrder := Or.inr ⟨"GhostTrain", tw_586⟩
theorem ml_RX6_260 : gh_ML RX6 260 yX2_mostAt := Or.inr ⟨"GhostTrain", tw_619⟩
theorem ml_RX6_264 : gh_ML RX6 264 yX2_fewestOff := Or.inr ⟨"GhostTrain", tw_627⟩
theorem ml_RX6_268 : gh_ML RX6 268 yJ6_bitCount_0f7a4 := Or.inl tw_639
theorem ml_RX6_273 : gh_ML RX6 273 yX2_leastNerve := Or.inr ⟨"GhostTrain", tw_644⟩
theorem ml_RX6_276 : gh_ML RX6 276 yX5_setsWith := Or.inr ⟨"GhostTrain", tw_652⟩
theorem ml_RX6_280 : gh_ML RX6 280 yX5_takings := Or.inr ⟨"GhostTrain", tw_665⟩
theorem ml_RX6_283 : gh_ML RX6 283 yX2_switchingByTurns := Or.inr ⟨"GhostTrain", tw_674⟩
theorem ml_RX6_286 : gh_ML RX6 286 yX6_findingIn := Or.inl tw_695
theorem ml_RX6_290 : gh_ML RX6 290 yX2_hear := Or.inr ⟨"GhostTrain", tw_698⟩
theorem ml_RX6_294 : gh_ML RX6 294 yX2_fittingTricks := Or.inr ⟨"GhostTrain", tw_703⟩
theorem ml_RX6_297 : gh_ML RX6 297 yX2_fittingNerves := Or.inr ⟨"GhostTrain", tw_716⟩
theorem ml_RX6_302 : gh_ML RX6 302 yX2_screamsIfFailing := Or.inr ⟨"GhostTrain", tw_725⟩
theorem ml_RX6_307 : gh_ML RX6 307 yX2_nightsByDraws := Or.inr ⟨"GhostTrain", tw_740⟩
theorem ml_RX6_310 : gh_ML RX6 310 yX5_copyFrom := Or.inr ⟨"GhostTrain", tw_385⟩
theorem ml_RX6_316 : gh_ML RX6 316 yX1_isOfKind := Or.inr ⟨"GhostTrain", tw_772⟩
theorem ml_RX6_319 : gh_ML RX6 319 yX1_answer := Or.inr ⟨"GhostTrain", tw_781⟩
theorem ml_RX6_328 : gh_ML RX6 328 yX6_rowsThere := Or.inl tw_806
theorem ml_RX6_331 : gh_ML RX6 331 yX5_allFear := Or.inr ⟨"GhostTrain", tw_810⟩
theorem ml_RX6_338 : gh_ML RX6 338 yX0_keep := Or.inr ⟨"GhostTrain", tw_420⟩
theorem ml_RX6_58 : gh_ML RX6 58 yX6_isRow := Or.inl tw_275
theorem ml_RX6_62 : gh_ML RX6 62 yX6_within := Or.inl tw_278
theorem ml_RX6_67 : gh_ML RX6 67 yX6_found := Or.inl tw_282
theorem ml_RX6_71 : gh_ML RX6 71 yX3_begin := Or.inr ⟨"GhostTrain", tw_287⟩
theorem ml_RX6_75 : gh_ML RX6 75 yX6_fine := Or.inl tw_294
theorem ml_RX6_90 : gh_ML RX6 90 yX3_cut := Or.inr ⟨"GhostTrain", tw_302⟩
theorem ml_RX6_96 : gh_ML RX6 96 yX3_holds := Or.inr ⟨"GhostTrain", tw_310⟩
theorem ml_RX7_102 : gh_ML RX7 102 yX7_kindOf := Or.inl tw_961
theorem ml_RX7_105 : gh_ML RX7 105 yX7_number := Or.inl tw_953
theorem ml_RX7_108 : gh_ML RX7 108 yX7_sign := Or.inl tw_937
theorem ml_RX7_112 : gh_ML RX7 112 yX7_carAt := Or.inl tw_975
theorem ml_RX7_115 : gh_ML RX7 115 yX7_readTrick := Or.inl tw_964
theorem ml_RX7_118 : gh_ML RX7 118 yX7_readCar := Or.inl tw_971
theorem ml_RX7_121 : gh_ML RX7 121 yX7_readAll := Or.inl tw_933
theorem ml_RX7_128 : gh_ML RX7 128 yX7_copyRow := Or.inl tw_979
theorem ml_RX7_135 : gh_ML RX7 135 yX7_runsAlone := Or.inl tw_1029
theorem ml_RX7_139 : gh_ML RX7 139 yX7_fright := Or.inl tw_1025
theorem ml_RX7_146 : gh_ML RX7 146 yX7_carIn := Or.inl tw_1012
theorem ml_RX7_149 : gh_ML RX7 149 yX7_comes := Or.inl tw_1021
theorem ml_RX7_152 : gh_ML RX7 152 yX7_goes := Or.inl tw_1017
theorem ml_RX7_155 : gh_ML RX7 155 yX7_rankByNumbers := Or.inl tw_1000
theorem ml_RX7_158 : gh_ML RX7 158 yX7_noHowls := Or.inl tw_1101
theorem ml_RX7_161 : gh_ML RX7 161 yX7_tickAt := Or.inl tw_1008
theorem ml_RX7_165 : gh_ML RX7 165 yX7_isTrain := Or.inl tw_996
theorem ml_RX7_168 : gh_ML RX7 168 yX7_remember := Or.inl tw_1004
theorem ml_RX7_171 : gh_ML RX7 171 yX7_carsThat := Or.inl tw_1033
theorem ml_RX7_174 : gh_ML RX7 174 yX7_isTrick := Or.inl tw_1041
theorem ml_RX7_177 : gh_ML RX7 177 yX7_isCell := Or.inl tw_1045
theorem ml_RX7_180 : gh_ML RX7 180 yX7_isCar := Or.inl tw_1057
theorem ml_RX7_183 : gh_ML RX7 183 yX7_goesAgain := Or.inl tw_1065
theorem ml_RX7_186 : gh_ML RX7 186 yX7_tricksIn := Or.inl tw_1081
theorem ml_RX7_189 : gh_ML RX7 189 yX7_onSet := Or.inl tw_1089
theorem ml_RX7_192 : gh_ML RX7 192 yX7_beginTry := Or.inl tw_1097
theorem ml_RX7_195 : gh_ML RX7 195 yX7_goOn := Or.inl tw_1105
theorem ml_RX7_198 : gh_ML RX7 198 yX7_sumOf := Or.inl tw_1113
theorem ml_RX7_201 : gh_ML RX7 201 yX7_allMet := Or.inl tw_1117
theorem ml_RX7_204 : gh_ML RX7 204 yX7_allOut := Or.inl tw_1129
theorem ml_RX7_207 : gh_ML RX7 207 yX7_bits := Or.inl tw_1141
theorem ml_RX7_210 : gh_ML RX7 210 yX7_valueOfOrder := Or.inl tw_1137
theorem ml_RX7_213 : gh_ML RX7 213 yX7_nextOrder := Or.inl tw_1144
theorem ml_RX7_216 : gh_ML RX7 216 yX7_has := Or.inl tw_1164
theorem ml_RX7_219 : gh_ML RX7 219 yX7_allTricks := Or.inl tw_1156
theorem ml_RX7_222 : gh_ML RX7 222 yX7_switchAll := Or.inl tw_1160
theorem ml_RX7_225 : gh_ML RX7 225 yX7_ridersOf := Or.inl tw_1175
theorem ml_RX7_228 : gh_ML RX7 228 yX7_metOf := Or.inl tw_1183
theorem ml_RX7_231 : gh_ML RX7 231 yX7_chosen := Or.inl tw_1191
theorem ml_RX7_235 : gh_ML RX7 235 yX7_wrongRow := Or.inl tw_1199
theorem ml_RX7_238 : gh_ML RX7 238 yX7_isTold := Or.inl tw_1203
theorem ml_RX7_256 : gh_ML RX7 256 yX7_kindAt := Or.inl tw_1237
theorem ml_RX7_262 : gh_ML RX7 262 yX7_begins := Or.inl tw_1253
theorem ml_RX7_265 : gh_ML RX7 265 yX7_body10 := Or.inl tw_1261
theorem ml_RX7_268 : gh_ML RX7 268 yX7_markOfBones := Or.inl tw_1265
theorem ml_RX7_271 : gh_ML RX7 271 yX7_body11 := Or.inl tw_1257
theorem ml_RX7_274 : gh_ML RX7 274 yX7_body13 := Or.inl tw_1277
theorem ml_RX7_277 : gh_ML RX7 277 yX7_body20 := Or.inl tw_1273
theorem ml_RX7_280 : gh_ML RX7 280 yX7_body21 := Or.inl tw_1269
theorem ml_RX7_283 : gh_ML RX7 283 yX7_sizeOf := Or.inl tw_1249
theorem ml_RX7_286 : gh_ML RX7 286 yX7_markOf := Or.inl tw_1281
theorem ml_RX7_289 : gh_ML RX7 289 yX7_rowMany := Or.inl tw_1293
theorem ml_RX7_51 : gh_ML RX7 51 yX7_in := Or.inl tw_895
theorem ml_RX7_55 : gh_ML RX7 55 yX7_isRow := Or.inl tw_892
theorem ml_RX7_60 : gh_ML RX7 60 yX7_found := Or.inl tw_899
theorem ml_RX7_64 : gh_ML RX7 64 yX7_well := Or.inl tw_904
theorem ml_RX7_67 : gh_ML RX7 67 yX7_isPart := Or.inl tw_916
theorem ml_RX7_77 : gh_ML RX7 77 yX7_fine := Or.inl tw_941
theorem ml_RX7_87 : gh_ML RX7 87 yX7_isFigure := Or.inl tw_957
theorem ml_RX7_90 : gh_ML RX7 90 yX7_fail := Or.inl tw_949
theorem ml_RX7_94 : gh_ML RX7 94 yX7_here := Or.inl tw_945
theorem ml_RX7_98 : gh_ML RX7 98 yX7_trickAt := Or.inl tw_968
theorem ok_J6_bitCount_0f7a4 : gh_okS mi_J6_bitCount_0f7a4 1 := ⟨⟨tw_12, tw_599, by decide +kernel, by decide⟩, tw_598⟩
theorem ok_J7_fill_53178 : gh_okS mi_J7_fill_53178 2 := ⟨⟨tw_9, tw_293, by decide +kernel, by decide⟩, tw_292⟩
theorem ok_X0_keep : gh_okV mi_X0_keep 1 := ⟨⟨tw_4, tw_423, by decide +kernel, by decide⟩, tw_422, (List.mem_filter.mpr ⟨List.mem_append_left _ (List.mem_of_getElem? (i := 22) (by decide +kernel)), rfl⟩)⟩
theorem ok_X0_takeBack : gh_okV mi_X0_takeBack 1 := ⟨⟨tw_4, tw_406, by decide +kernel, by decide⟩, tw_405, (List.mem_filter.mpr ⟨List.mem_append_left _ (List.mem_of_getElem? (i := 19) (by decide +kernel)), rfl⟩)⟩
theorem ok_X1_answer : gh_okV mi_X1_answer 3 := ⟨⟨tw_6, tw_784, by decide +kernel, by decide⟩, tw_783, (List.mem_filter.mpr ⟨List.mem_append_left _ (List.mem_of_getElem? (i := 70) (by decide +kernel)), rfl⟩)⟩
theorem ok_X1_begins : gh_okV mi_X1_begins 1 := ⟨⟨tw_6, tw_797, by decide +kernel, by decide⟩, tw_796, (List.mem_filter.mpr ⟨List.mem_append_left _ (List.mem_of_getElem? (i := 71) (by decide +kernel)), rfl⟩)⟩
theorem ok_X1_give : gh_okS mi_X1_give 5 := ⟨⟨tw_6, tw_793, by decide +kernel, by decide⟩, tw_792⟩
theorem ok_X1_isOfKind : gh_okS mi_X1_isOfKind 2 := ⟨⟨tw_6, tw_774, by decide +kernel, by decide⟩, tw_773⟩
theorem ok_X2_behind : gh_okV mi_X2_behind 2 := ⟨⟨tw_5, tw_533, by decide +kernel, by decide⟩, tw_532, (List.mem_filter.mpr ⟨List.mem_append_left _ (List.mem_of_getElem? (i := 38) (by decide +kernel)), rfl⟩)⟩
theorem ok_X2_commonDivisor : gh_okS mi_X2_commonDivisor 2 := ⟨⟨tw_5, tw_734, by decide +kernel, by decide⟩, tw_733⟩
theorem ok_X2_draw : gh_okV mi_X2_draw 1 := ⟨⟨tw_5, tw_749, by decide +kernel, by decide⟩, tw_748, (List.mem_filter.mpr ⟨List.mem_append_left _ (List.mem_of_getElem? (i := 68) (by decide +kernel)), rfl⟩)⟩
theorem ok_X2_fewestOff : gh_okV mi_X2_fewestOff 2 := ⟨⟨tw_5, tw_630, by decide +kernel, by decide⟩, tw_629, (List.mem_filter.mpr ⟨List.mem_append_left _ (List.mem_of_getElem? (i := 52) (by decide +kernel)), rfl⟩)⟩
theorem ok_X2_findOrder : gh_okV mi_X2_findOrder 2 := ⟨⟨tw_5, tw_589, by decide +kernel, by decide⟩, tw_588, (List.mem_filter.mpr ⟨List.mem_append_left _ (List.mem_of_getElem? (i := 46) (by decide +kernel)), rfl⟩)⟩
theorem ok_X2_firstAllOut : gh_okV mi_X2_firstAllOut 1 := ⟨⟨tw_5, tw_580, by decide +kernel, by decide⟩, tw_579, (List.mem_filter.mpr ⟨List.mem_append_left _ (List.mem_of_getElem? (i := 45) (by decide +kernel)), rfl⟩)⟩
theorem ok_X2_firstTime : gh_okV mi_X2_firstTime 3 := ⟨⟨tw_5, tw_566, by decide +kernel, by decide⟩, tw_565, (List.mem_filter.mpr ⟨List.mem_append_left _ (List.mem_of_getElem? (i := 43) (by decide +kernel)), rfl⟩)⟩
theorem ok_X2_fittingNerves : gh_okV mi_X2_fittingNerves 3 := ⟨⟨tw_5, tw_719, by decide +kernel, by decide⟩, tw_718, (List.mem_filter.mpr ⟨List.mem_append_left _ (List.mem_of_getElem? (i := 65) (by decide +kernel)), rfl⟩)⟩
theorem ok_X2_fittingTricks : gh_okV mi_X2_fittingTricks 4 := ⟨⟨tw_5, tw_706, by decide +kernel, by decide⟩, tw_705, (List.mem_filter.mpr ⟨List.mem_append_left _ (List.mem_of_getElem? (i := 63) (by decide +kernel)), rfl⟩)⟩
theorem ok_X2_forget : gh_okV mi_X2_forget 0 := ⟨⟨tw_5, tw_393, by decide +kernel, by decide⟩, tw_392, (List.mem_filter.mpr ⟨List.mem_append_left _ (List.mem_of_getElem? (i := 18) (by decide +kernel)), rfl⟩)⟩
theorem ok_X2_hasCome : gh_okV mi_X2_hasCome 3 := ⟨⟨tw_5, tw_570, by decide +kernel, by decide⟩, tw_569, (List.mem_filter.mpr ⟨List.mem_append_left _ (List.mem_of_getElem? (i := 44) (by decide +kernel)), rfl⟩)⟩
theorem ok_X2_hear : gh_okV mi_X2_hear 3 := ⟨⟨tw_5, tw_701, by decide +kernel, by decide⟩, tw_700, (List.mem_filter.mpr ⟨List.mem_append_left _ (List.mem_of_getElem? (i := 62) (by decide +kernel)), rfl⟩)⟩
theorem ok_X2_isAsTold : gh_okV mi_X2_isAsTold 1 := ⟨⟨tw_5, tw_710, by decide +kernel, by decide⟩, tw_709, (List.mem_filter.mpr ⟨List.mem_append_left _ (List.mem_of_getElem? (i := 64) (by decide +kernel)), rfl⟩)⟩
theorem ok_X2_isCalm : gh_okV mi_X2_isCalm 3 := ⟨⟨tw_5, tw_634, by decide +kernel, by decide⟩, tw_633, (List.mem_filter.mpr ⟨List.mem_append_left _ (List.mem_of_getElem? (i := 53) (by decide +kernel)), rfl⟩)⟩
theorem ok_X2_leastNerve : gh_okV mi_X2_leastNerve 3 := ⟨⟨tw_5, tw_647, by decide +kernel, by decide⟩, tw_646, (List.mem_filter.mpr ⟨List.mem_append_left _ (List.mem_of_getElem? (i := 55) (by decide +kernel)), rfl⟩)⟩
theorem ok_X2_listWaitingFirst : gh_okV mi_X2_listWaitingFirst 1 := ⟨⟨tw_5, tw_593, by decide +kernel, by decide⟩, tw_592, (List.mem_filter.mpr ⟨List.mem_append_left _ (List.mem_of_getElem? (i := 47) (by decide +kernel)), rfl⟩)⟩
theorem ok_X2_mergeBest : gh_okV mi_X2_mergeBest 2 := ⟨⟨tw_5, tw_614, by decide +kernel, by decide⟩, tw_613, (List.mem_filter.mpr ⟨List.mem_append_left _ (List.mem_of_getElem? (i := 50) (by decide +kernel)), rfl⟩)⟩
theorem ok_X2_mostAt : gh_okV mi_X2_mostAt 4 := ⟨⟨tw_5, tw_622, by decide +kernel, by decide⟩, tw_621, (List.mem_filter.mpr ⟨List.mem_append_left _ (List.mem_of_getElem? (i := 51) (by decide +kernel)), rfl⟩)⟩
theorem ok_X2_nextOrder : gh_okV mi_X2_nextOrder 1 := ⟨⟨tw_5, tw_606, by decide +kernel, by decide⟩, tw_605, (List.mem_filter.mpr ⟨List.mem_append_left _ (List.mem_of_getElem? (i := 48) (by decide +kernel)), rfl⟩)⟩
theorem ok_X2_nightsByDraws : gh_okV mi_X2_nightsByDraws 4 := ⟨⟨tw_5, tw_743, by decide +kernel, by decide⟩, tw_742, (List.mem_filter.mpr ⟨List.mem_append_left _ (List.mem_of_getElem? (i := 67) (by decide +kernel)), rfl⟩)⟩
theorem ok_X2_power : gh_okS mi_X2_power 2 := ⟨⟨tw_5, tw_731, by decide +kernel, by decide⟩, tw_730⟩
theorem ok_X2_screamsIfFailing : gh_okV mi_X2_screamsIfFailing 5 := ⟨⟨tw_5, tw_728, by decide +kernel, by decide⟩, tw_727, (List.mem_filter.mpr ⟨List.mem_append_left _ (List.mem_of_getElem? (i := 66) (by decide +kernel)), rfl⟩)⟩
theorem ok_X2_swapTried : gh_okV mi_X2_swapTried 2 := ⟨⟨tw_5, tw_610, by decide +kernel, by decide⟩, tw_609, (List.mem_filter.mpr ⟨List.mem_append_left _ (List.mem_of_getElem? (i := 49) (by decide +kernel)), rfl⟩)⟩
theorem ok_X2_switchOffForFewest : gh_okV mi_X2_switchOffForFewest 1 := ⟨⟨tw_5, tw_688, by decide +kernel, by decide⟩, tw_687, (List.mem_filter.mpr ⟨List.mem_append_left _ (List.mem_of_getElem? (i := 61) (by decide +kernel)), rfl⟩)⟩
theorem ok_X2_switchOnForMost : gh_okV mi_X2_switchOnForMost 1 := ⟨⟨tw_5, tw_681, by decide +kernel, by decide⟩, tw_680, (List.mem_filter.mpr ⟨List.mem_append_left _ (List.mem_of_getElem? (i := 60) (by decide +kernel)), rfl⟩)⟩
theorem ok_X2_switchingByTurns : gh_okV mi_X2_switchingByTurns 3 := ⟨⟨tw_5, tw_677, by decide +kernel, by decide⟩, tw_676, (List.mem_filter.mpr ⟨List.mem_append_left _ (List.mem_of_getElem? (i := 59) (by decide +kernel)), rfl⟩)⟩
theorem ok_X3_begin : gh_okV mi_X3_begin 2 := ⟨⟨tw_7, tw_290, by decide +kernel, by decide⟩, tw_289, (List.mem_filter.mpr ⟨List.mem_append_left _ (List.mem_of_getElem? (i := 1) (by decide +kernel)), rfl⟩)⟩
theorem ok_X3_cut : gh_okV mi_X3_cut 1 := ⟨⟨tw_7, tw_305, by decide +kernel, by decide⟩, tw_304, (List.mem_filter.mpr ⟨List.mem_append_left _ (List.mem_of_getElem? (i := 3) (by decide +kernel)), rfl⟩)⟩
theorem ok_X3_holds : gh_okV mi_X3_holds 2 := ⟨⟨tw_7, tw_313, by decide +kernel, by decide⟩, tw_312, (List.mem_filter.mpr ⟨List.mem_append_left _ (List.mem_of_getElem? (i := 4) (by decide +kernel)), rfl⟩)⟩
theorem ok_X4_faulty : gh_okV mi_X4_faulty 1 := ⟨⟨tw_2, tw_355, by decide +kernel, by decide⟩, tw_354, (List.mem_filter.mpr ⟨List.mem_append_left _ (List.mem_of_getElem? (i := 10) (by decide +kernel)), rfl⟩)⟩
theorem ok_X4_kindOfLetter : gh_okS mi_X4_kindOfLetter 1 := ⟨⟨tw_2, tw_367, by decide +kernel, by decide⟩, tw_366⟩
theorem ok_X4_next : gh_okV mi_X4_next 0 := ⟨⟨tw_2, tw_350, by decide +kernel, by decide⟩, tw_349, (List.mem_filter.mpr ⟨List.mem_append_left _ (List.mem_of_getElem? (i := 9) (by decide +kernel)), rfl⟩)⟩
theorem ok_X4_readCars : gh_okV mi_X4_readCars 1 := ⟨⟨tw_2, tw_375, by decide +kernel, by decide⟩, tw_374, (List.mem_filter.mpr ⟨List.mem_append_left _ (List.mem_of_getElem? (i := 14) (by decide +kernel)), rfl⟩)⟩
theorem ok_X4_readInto : gh_okV mi_X4_readInto 1 := ⟨⟨tw_2, tw_333, by decide +kernel, by decide⟩, tw_332, (List.mem_filter.mpr ⟨List.mem_append_left _ (List.mem_of_getElem? (i := 5) (by decide +kernel)), rfl⟩)⟩
theorem ok_X4_readLaw : gh_okV mi_X4_readLaw 1 := ⟨⟨tw_2, tw_342, by decide +kernel, by decide⟩, tw_341, (List.mem_filter.mpr ⟨List.mem_append_left _ (List.mem_of_getElem? (i := 7) (by decide +kernel)), rfl⟩)⟩
theorem ok_X4_readNumber : gh_okV mi_X4_readNumber 2 := ⟨⟨tw_2, tw_359, by decide +kernel, by decide⟩, tw_358, (List.mem_filter.mpr ⟨List.mem_append_left _ (List.mem_of_getElem? (i := 11) (by decide +kernel)), rfl⟩)⟩
theorem ok_X4_readSign : gh_okV mi_X4_readSign 1 := ⟨⟨tw_2, tw_346, by decide +kernel, by decide⟩, tw_345, (List.mem_filter.mpr ⟨List.mem_append_left _ (List.mem_of_getElem? (i := 8) (by decide +kernel)), rfl⟩)⟩
theorem ok_X4_readTricks : gh_okV mi_X4_readTricks 1 := ⟨⟨tw_2, tw_364, by decide +kernel, by decide⟩, tw_363, (List.mem_filter.mpr ⟨List.mem_append_left _ (List.mem_of_getElem? (i := 12) (by decide +kernel)), rfl⟩)⟩
theorem ok_X5_addCar : gh_okV mi_X5_addCar 3 := ⟨⟨tw_3, tw_379, by decide +kernel, by decide⟩, tw_378, (List.mem_filter.mpr ⟨List.mem_append_left _ (List.mem_of_getElem? (i := 15) (by decide +kernel)), rfl⟩)⟩
theorem ok_X5_addTrick : gh_okV mi_X5_addTrick 3 := ⟨⟨tw_3, tw_371, by decide +kernel, by decide⟩, tw_370, (List.mem_filter.mpr ⟨List.mem_append_left _ (List.mem_of_getElem? (i := 13) (by decide +kernel)), rfl⟩)⟩
theorem ok_X5_allFear : gh_okV mi_X5_allFear 0 := ⟨⟨tw_3, tw_755, by decide +kernel, by decide⟩, tw_754, (List.mem_filter.mpr ⟨List.mem_append_left _ (List.mem_of_getElem? (i := 69) (by decide +kernel)), rfl⟩)⟩
theorem ok_X5_allMet : gh_okV mi_X5_allMet 0 := ⟨⟨tw_3, tw_558, by decide +kernel, by decide⟩, tw_557, (List.mem_filter.mpr ⟨List.mem_append_left _ (List.mem_of_getElem? (i := 42) (by decide +kernel)), rfl⟩)⟩
theorem ok_X5_allOut : gh_okV mi_X5_allOut 0 := ⟨⟨tw_3, tw_542, by decide +kernel, by decide⟩, tw_541, (List.mem_filter.mpr ⟨List.mem_append_left _ (List.mem_of_getElem? (i := 40) (by decide +kernel)), rfl⟩)⟩
theorem ok_X5_allScreams : gh_okV mi_X5_allScreams 0 := ⟨⟨tw_3, tw_551, by decide +kernel, by decide⟩, tw_550, (List.mem_filter.mpr ⟨List.mem_append_left _ (List.mem_of_getElem? (i := 41) (by decide +kernel)), rfl⟩)⟩
theorem ok_X5_bitsBetween : gh_okV mi_X5_bitsBetween 2 := ⟨⟨tw_3, tw_455, by decide +kernel, by decide⟩, tw_454, (List.mem_filter.mpr ⟨List.mem_append_left _ (List.mem_of_getElem? (i := 29) (by decide +kernel)), rfl⟩)⟩
theorem ok_X5_bitsOn : gh_okV mi_X5_bitsOn 0 := ⟨⟨tw_3, tw_525, by decide +kernel, by decide⟩, tw_524, (List.mem_filter.mpr ⟨List.mem_append_left _ (List.mem_of_getElem? (i := 37) (by decide +kernel)), rfl⟩)⟩
theorem ok_X5_bitsOut : gh_okV mi_X5_bitsOut 0 := ⟨⟨tw_3, tw_451, by decide +kernel, by decide⟩, tw_450, (List.mem_filter.mpr ⟨List.mem_append_left _ (List.mem_of_getElem? (i := 28) (by decide +kernel)), rfl⟩)⟩
theorem ok_X5_bitsRunning : gh_okV mi_X5_bitsRunning 0 := ⟨⟨tw_3, tw_521, by decide +kernel, by decide⟩, tw_520, (List.mem_filter.mpr ⟨List.mem_append_left _ (List.mem_of_getElem? (i := 36) (by decide +kernel)), rfl⟩)⟩
theorem ok_X5_bitsWaiting : gh_okV mi_X5_bitsWaiting 0 := ⟨⟨tw_3, tw_495, by decide +kernel, by decide⟩, tw_494, (List.mem_filter.mpr ⟨List.mem_append_left _ (List.mem_of_getElem? (i := 34) (by decide +kernel)), rfl⟩)⟩
theorem ok_X5_clear : gh_okV mi_X5_clear 0 := ⟨⟨tw_3, tw_337, by decide +kernel, by decide⟩, tw_336, (List.mem_filter.mpr ⟨List.mem_append_left _ (List.mem_of_getElem? (i := 6) (by decide +kernel)), rfl⟩)⟩
theorem ok_X5_comeInto : gh_okV mi_X5_comeInto 2 := ⟨⟨tw_3, tw_438, by decide +kernel, by decide⟩, tw_437, (List.mem_filter.mpr ⟨List.mem_append_left _ (List.mem_of_getElem? (i := 25) (by decide +kernel)), rfl⟩)⟩
theorem ok_X5_copyFrom : gh_okV mi_X5_copyFrom 1 := ⟨⟨tw_3, tw_388, by decide +kernel, by decide⟩, tw_387, (List.mem_filter.mpr ⟨List.mem_append_left _ (List.mem_of_getElem? (i := 17) (by decide +kernel)), rfl⟩)⟩
theorem ok_X5_fright : gh_okV mi_X5_fright 2 := ⟨⟨tw_3, tw_443, by decide +kernel, by decide⟩, tw_442, (List.mem_filter.mpr ⟨List.mem_append_left _ (List.mem_of_getElem? (i := 26) (by decide +kernel)), rfl⟩)⟩
theorem ok_X5_goAgain : gh_okV mi_X5_goAgain 1 := ⟨⟨tw_3, tw_491, by decide +kernel, by decide⟩, tw_490, (List.mem_filter.mpr ⟨List.mem_append_left _ (List.mem_of_getElem? (i := 33) (by decide +kernel)), rfl⟩)⟩
theorem ok_X5_goOn : gh_okV mi_X5_goOn 1 := ⟨⟨tw_3, tw_434, by decide +kernel, by decide⟩, tw_433, (List.mem_filter.mpr ⟨List.mem_append_left _ (List.mem_of_getElem? (i := 24) (by decide +kernel)), rfl⟩)⟩
theorem ok_X5_letIn : gh_okV mi_X5_letIn 0 := ⟨⟨tw_3, tw_447, by decide +kernel, by decide⟩, tw_446, (List.mem_filter.mpr ⟨List.mem_append_left _ (List.mem_of_getElem? (i := 27) (by decide +kernel)), rfl⟩)⟩
theorem ok_X5_ridersOf : gh_okV mi_X5_ridersOf 1 := ⟨⟨tw_3, tw_660, by decide +kernel, by decide⟩, tw_659, (List.mem_filter.mpr ⟨List.mem_append_left _ (List.mem_of_getElem? (i := 57) (by decide +kernel)), rfl⟩)⟩
theorem ok_X5_setsWith : gh_okV mi_X5_setsWith 2 := ⟨⟨tw_3, tw_655, by decide +kernel, by decide⟩, tw_654, (List.mem_filter.mpr ⟨List.mem_append_left _ (List.mem_of_getElem? (i := 56) (by decide +kernel)), rfl⟩)⟩
theorem ok_X5_sum : gh_okS mi_X5_sum 2 := ⟨⟨tw_3, tw_554, by decide +kernel, by decide⟩, tw_553⟩
theorem ok_X5_switchTo : gh_okV mi_X5_switchTo 1 := ⟨⟨tw_3, tw_638, by decide +kernel, by decide⟩, tw_637, (List.mem_filter.mpr ⟨List.mem_append_left _ (List.mem_of_getElem? (i := 54) (by decide +kernel)), rfl⟩)⟩
theorem ok_X5_takings : gh_okV mi_X5_takings 2 := ⟨⟨tw_3, tw_668, by decide +kernel, by decide⟩, tw_667, (List.mem_filter.mpr ⟨List.mem_append_left _ (List.mem_of_getElem? (i := 58) (by decide +kernel)), rfl⟩)⟩
theorem ok_X5_tickOn : gh_okV mi_X5_tickOn 0 := ⟨⟨tw_3, tw_430, by decide +kernel, by decide⟩, tw_429, (List.mem_filter.mpr ⟨List.mem_append_left _ (List.mem_of_getElem? (i := 23) (by decide +kernel)), rfl⟩)⟩
theorem ok_X5_tickOnFor : gh_okV mi_X5_tickOnFor 1 := ⟨⟨tw_3, tw_538, by decide +kernel, by decide⟩, tw_537, (List.mem_filter.mpr ⟨List.mem_append_left _ (List.mem_of_getElem? (i := 39) (by decide +kernel)), rfl⟩)⟩
theorem ok_X5_tricksIn : gh_okV mi_X5_tricksIn 1 := ⟨⟨tw_3, tw_512, by decide +kernel, by decide⟩, tw_511, (List.mem_filter.mpr ⟨List.mem_append_left _ (List.mem_of_getElem? (i := 35) (by decide +kernel)), rfl⟩)⟩
theorem ok_X6_again : gh_okV mi_X6_again 1 := ⟨⟨tw_1, tw_487, by decide +kernel, by decide⟩, tw_485, tw_486⟩
theorem ok_X6_ahead : gh_okV mi_X6_ahead 3 := ⟨⟨tw_1, tw_529, by decide +kernel, by decide⟩, tw_527, tw_528⟩
theorem ok_X6_as : gh_okV mi_X6_as 2 := ⟨⟨tw_1, tw_771, by decide +kernel, by decide⟩, tw_769, tw_770⟩
theorem ok_X6_ask : gh_okV mi_X6_ask 2 := ⟨⟨tw_1, tw_780, by decide +kernel, by decide⟩, tw_778, tw_779⟩
theorem ok_X6_bears : gh_okV mi_X6_bears 2 := ⟨⟨tw_1, tw_643, by decide +kernel, by decide⟩, tw_641, tw_642⟩
theorem ok_X6_becomes : gh_okV mi_X6_becomes 1 := ⟨⟨tw_1, tw_384, by decide +kernel, by decide⟩, tw_383, (List.mem_filter.mpr ⟨List.mem_append_left _ (List.mem_of_getElem? (i := 16) (by decide +kernel)), rfl⟩)⟩
theorem ok_X6_beginAct : gh_okV mi_X6_beginAct 0 := ⟨⟨tw_1, tw_419, by decide +kernel, by decide⟩, tw_418, (List.mem_filter.mpr ⟨List.mem_append_left _ (List.mem_of_getElem? (i := 21) (by decide +kernel)), rfl⟩)⟩
theorem ok_X6_byTurns : gh_okV mi_X6_byTurns 2 := ⟨⟨tw_1, tw_673, by decide +kernel, by decide⟩, tw_671, tw_672⟩
theorem ok_X6_calm : gh_okV mi_X6_calm 2 := ⟨⟨tw_1, tw_626, by decide +kernel, by decide⟩, tw_624, tw_625⟩
theorem ok_X6_car : gh_okV mi_X6_car 2 := ⟨⟨tw_1, tw_503, by decide +kernel, by decide⟩, tw_501, tw_502⟩
theorem ok_X6_cell : gh_okV mi_X6_cell 2 := ⟨⟨tw_1, tw_507, by decide +kernel, by decide⟩, tw_505, tw_506⟩
theorem ok_X6_copy : gh_okV mi_X6_copy 5 := ⟨⟨tw_1, tw_309, by decide +kernel, by decide⟩, tw_307, tw_308⟩
theorem ok_X6_count : gh_okV mi_X6_count 1 := ⟨⟨tw_1, tw_805, by decide +kernel, by decide⟩, tw_803, tw_804⟩
theorem ok_X6_drawn : gh_okV mi_X6_drawn 3 := ⟨⟨tw_1, tw_738, by decide +kernel, by decide⟩, tw_736, tw_737⟩
theorem ok_X6_drop : gh_okV mi_X6_drop 1 := ⟨⟨tw_1, tw_320, by decide +kernel, by decide⟩, tw_318, tw_319⟩
theorem ok_X6_fails : gh_okV mi_X6_fails 4 := ⟨⟨tw_1, tw_723, by decide +kernel, by decide⟩, tw_721, tw_722⟩
theorem ok_X6_fault : gh_okV mi_X6_fault 0 := ⟨⟨tw_1, tw_397, by decide +kernel, by decide⟩, tw_395, tw_396⟩
theorem ok_X6_feed : gh_okV mi_X6_feed 1 := ⟨⟨tw_1, tw_324, by decide +kernel, by decide⟩, tw_322, tw_323⟩
theorem ok_X6_findingIn : gh_okS mi_X6_findingIn 3 := ⟨⟨tw_1, tw_697, by decide +kernel, by decide⟩, tw_696⟩
theorem ok_X6_fine : gh_okV mi_X6_fine 1 := ⟨⟨tw_1, tw_297, by decide +kernel, by decide⟩, tw_296, (List.mem_filter.mpr ⟨List.mem_append_left _ (List.mem_of_getElem? (i := 2) (by decide +kernel)), rfl⟩)⟩
theorem ok_X6_flip : gh_okV mi_X6_flip 1 := ⟨⟨tw_1, tw_472, by decide +kernel, by decide⟩, tw_470, tw_471⟩
theorem ok_X6_found : gh_okV mi_X6_found 1 := ⟨⟨tw_1, tw_285, by decide +kernel, by decide⟩, tw_284, (List.mem_filter.mpr ⟨List.mem_append_left _ (List.mem_of_getElem? (i := 0) (by decide +kernel)), rfl⟩)⟩
theorem ok_X6_hasTrain : gh_okV mi_X6_hasTrain 0 := ⟨⟨tw_1, tw_415, by decide +kernel, by decide⟩, tw_414, (List.mem_filter.mpr ⟨List.mem_append_left _ (List.mem_of_getElem? (i := 20) (by decide +kernel)), rfl⟩)⟩
theorem ok_X6_image : gh_okV mi_X6_image 1 := ⟨⟨tw_1, tw_759, by decide +kernel, by decide⟩, tw_757, tw_758⟩
theorem ok_X6_isCar : gh_okV mi_X6_isCar 1 := ⟨⟨tw_1, tw_483, by decide +kernel, by decide⟩, tw_482, (List.mem_filter.mpr ⟨List.mem_append_left _ (List.mem_of_getElem? (i := 32) (by decide +kernel)), rfl⟩)⟩
theorem ok_X6_isCell : gh_okV mi_X6_isCell 1 := ⟨⟨tw_1, tw_468, by decide +kernel, by decide⟩, tw_467, (List.mem_filter.mpr ⟨List.mem_append_left _ (List.mem_of_getElem? (i := 31) (by decide +kernel)), rfl⟩)⟩
theorem ok_X6_isRow : gh_okS mi_X6_isRow 1 := ⟨⟨tw_1, tw_277, by decide +kernel, by decide⟩, tw_276⟩
theorem ok_X6_isTrick : gh_okV mi_X6_isTrick 1 := ⟨⟨tw_1, tw_464, by decide +kernel, by decide⟩, tw_463, (List.mem_filter.mpr ⟨List.mem_append_left _ (List.mem_of_getElem? (i := 30) (by decide +kernel)), rfl⟩)⟩
theorem ok_X6_kind : gh_okV mi_X6_kind 1 := ⟨⟨tw_1, tw_767, by decide +kernel, by decide⟩, tw_765, tw_766⟩
theorem ok_X6_nerve : gh_okV mi_X6_nerve 2 := ⟨⟨tw_1, tw_479, by decide +kernel, by decide⟩, tw_477, tw_478⟩
theorem ok_X6_nerves : gh_okV mi_X6_nerves 5 := ⟨⟨tw_1, tw_715, by decide +kernel, by decide⟩, tw_713, tw_714⟩
theorem ok_X6_oneIf : gh_okS mi_X6_oneIf 1 := ⟨⟨tw_1, tw_475, by decide +kernel, by decide⟩, tw_474⟩
theorem ok_X6_order : gh_okV mi_X6_order 2 := ⟨⟨tw_1, tw_585, by decide +kernel, by decide⟩, tw_583, tw_584⟩
theorem ok_X6_over : gh_okV mi_X6_over 0 := ⟨⟨tw_1, tw_576, by decide +kernel, by decide⟩, tw_574, tw_575⟩
theorem ok_X6_place : gh_okV mi_X6_place 2 := ⟨⟨tw_1, tw_460, by decide +kernel, by decide⟩, tw_458, tw_459⟩
theorem ok_X6_restore : gh_okV mi_X6_restore 1 := ⟨⟨tw_1, tw_763, by decide +kernel, by decide⟩, tw_761, tw_762⟩
theorem ok_X6_row : gh_okV mi_X6_row 3 := ⟨⟨tw_1, tw_274, by decide +kernel, by decide⟩, tw_272, tw_273⟩
theorem ok_X6_rowsThere : gh_okV mi_X6_rowsThere 0 := ⟨⟨tw_1, tw_809, by decide +kernel, by decide⟩, tw_808, (List.mem_filter.mpr ⟨List.mem_append_left _ (List.mem_of_getElem? (i := 72) (by decide +kernel)), rfl⟩)⟩
theorem ok_X6_set : gh_okV mi_X6_set 3 := ⟨⟨tw_1, tw_301, by decide +kernel, by decide⟩, tw_299, tw_300⟩
theorem ok_X6_sets : gh_okV mi_X6_sets 2 := ⟨⟨tw_1, tw_651, by decide +kernel, by decide⟩, tw_649, tw_650⟩
theorem ok_X6_share : gh_okV mi_X6_share 2 := ⟨⟨tw_1, tw_664, by decide +kernel, by decide⟩, tw_662, tw_663⟩
theorem ok_X6_show : gh_okV mi_X6_show 2 := ⟨⟨tw_1, tw_547, by decide +kernel, by decide⟩, tw_545, tw_546⟩
theorem ok_X6_spot : gh_okV mi_X6_spot 3 := ⟨⟨tw_1, tw_618, by decide +kernel, by decide⟩, tw_616, tw_617⟩
theorem ok_X6_stand : gh_okV mi_X6_stand 1 := ⟨⟨tw_1, tw_517, by decide +kernel, by decide⟩, tw_515, tw_516⟩
theorem ok_X6_status : gh_okV mi_X6_status 0 := ⟨⟨tw_1, tw_814, by decide +kernel, by decide⟩, tw_812, tw_813⟩
theorem ok_X6_ticks : gh_okV mi_X6_ticks 1 := ⟨⟨tw_1, tw_411, by decide +kernel, by decide⟩, tw_409, tw_410⟩
theorem ok_X6_trace : gh_okV mi_X6_trace 1 := ⟨⟨tw_1, tw_801, by decide +kernel, by decide⟩, tw_799, tw_800⟩
theorem ok_X6_train : gh_okV mi_X6_train 0 := ⟨⟨tw_1, tw_329, by decide +kernel, by decide⟩, tw_327, tw_328⟩
theorem ok_X6_trick : gh_okV mi_X6_trick 2 := ⟨⟨tw_1, tw_499, by decide +kernel, by decide⟩, tw_497, tw_498⟩
theorem ok_X6_undo : gh_okV mi_X6_undo 0 := ⟨⟨tw_1, tw_401, by decide +kernel, by decide⟩, tw_399, tw_400⟩
theorem ok_X6_when : gh_okV mi_X6_when 2 := ⟨⟨tw_1, tw_562, by decide +kernel, by decide⟩, tw_560, tw_561⟩
theorem ok_X6_who : gh_okV mi_X6_who 6 := ⟨⟨tw_1, tw_694, by decide +kernel, by decide⟩, tw_692, tw_693⟩
theorem ok_X6_within : gh_okS mi_X6_within 3 := ⟨⟨tw_1, tw_280, by decide +kernel, by decide⟩, tw_279⟩
theorem ok_X7_again : gh_okV mi_X7_again 1 := ⟨⟨tw_8, tw_1064, by decide +kernel, by decide⟩, tw_1062, tw_1063⟩
theorem ok_X7_ahead : gh_okV mi_X7_ahead 3 := ⟨⟨tw_8, tw_1096, by decide +kernel, by decide⟩, tw_1094, tw_1095⟩
theorem ok_X7_allMet : gh_okV mi_X7_allMet 1 := ⟨⟨tw_8, tw_1120, by decide +kernel, by decide⟩, tw_1119, (List.mem_filter.mpr ⟨List.mem_append_left _ (List.mem_of_getElem? (i := 106) (by decide +kernel)), rfl⟩)⟩
theorem ok_X7_allOut : gh_okV mi_X7_allOut 0 := ⟨⟨tw_8, tw_1132, by decide +kernel, by decide⟩, tw_1131, (List.mem_filter.mpr ⟨List.mem_append_left _ (List.mem_of_getElem? (i := 107) (by decide +kernel)), rfl⟩)⟩
theorem ok_X7_allTricks : gh_okV mi_X7_allTricks 0 := ⟨⟨tw_8, tw_1159, by decide +kernel, by decide⟩, tw_1158, (List.mem_filter.mpr ⟨List.mem_append_left _ (List.mem_of_getElem? (i := 110) (by decide +kernel)), rfl⟩)⟩
theorem ok_X7_as : gh_okV mi_X7_as 2 := ⟨⟨tw_8, tw_1244, by decide +kernel, by decide⟩, tw_1242, tw_1243⟩
theorem ok_X7_ask : gh_okV mi_X7_ask 2 := ⟨⟨tw_8, tw_1248, by decide +kernel, by decide⟩, tw_1246, tw_1247⟩
theorem ok_X7_bears : gh_okV mi_X7_bears 2 := ⟨⟨tw_8, tw_1170, by decide +kernel, by decide⟩, tw_1168, tw_1169⟩
theorem ok_X7_beginTry : gh_okV mi_X7_beginTry 0 := ⟨⟨tw_8, tw_1100, by decide +kernel, by decide⟩, tw_1099, (List.mem_filter.mpr ⟨List.mem_append_left _ (List.mem_of_getElem? (i := 102) (by decide +kernel)), rfl⟩)⟩
theorem ok_X7_begins : gh_okV mi_X7_begins 1 := ⟨⟨tw_8, tw_1256, by decide +kernel, by decide⟩, tw_1255, (List.mem_filter.mpr ⟨List.mem_append_left _ (List.mem_of_getElem? (i := 119) (by decide +kernel)), rfl⟩)⟩
theorem ok_X7_bits : gh_okS mi_X7_bits 1 := ⟨⟨tw_8, tw_1143, by decide +kernel, by decide⟩, tw_1142⟩
theorem ok_X7_body10 : gh_okV mi_X7_body10 1 := ⟨⟨tw_8, tw_1264, by decide +kernel, by decide⟩, tw_1263, (List.mem_filter.mpr ⟨List.mem_append_left _ (List.mem_of_getElem? (i := 121) (by decide +kernel)), rfl⟩)⟩
theorem ok_X7_body11 : gh_okV mi_X7_body11 1 := ⟨⟨tw_8, tw_1260, by decide +kernel, by decide⟩, tw_1259, (List.mem_filter.mpr ⟨List.mem_append_left _ (List.mem_of_getElem? (i := 120) (by decide +kernel)), rfl⟩)⟩
theorem ok_X7_body13 : gh_okV mi_X7_body13 1 := ⟨⟨tw_8, tw_1280, by decide +kernel, by decide⟩, tw_1279, (List.mem_filter.mpr ⟨List.mem_append_left _ (List.mem_of_getElem? (i := 125) (by decide +kernel)), rfl⟩)⟩
theorem ok_X7_body20 : gh_okV mi_X7_body20 1 := ⟨⟨tw_8, tw_1276, by decide +kernel, by decide⟩, tw_1275, (List.mem_filter.mpr ⟨List.mem_append_left _ (List.mem_of_getElem? (i := 124) (by decide +kernel)), rfl⟩)⟩
theorem ok_X7_body21 : gh_okV mi_X7_body21 1 := ⟨⟨tw_8, tw_1272, by decide +kernel, by decide⟩, tw_1271, (List.mem_filter.mpr ⟨List.mem_append_left _ (List.mem_of_getElem? (i := 123) (by decide +kernel)), rfl⟩)⟩
theorem ok_X7_byTurns : gh_okV mi_X7_byTurns 2 := ⟨⟨tw_8, tw_1190, by decide +kernel, by decide⟩, tw_1188, tw_1189⟩
theorem ok_X7_calm : gh_okV mi_X7_calm 2 := ⟨⟨tw_8, tw_1155, by decide +kernel, by decide⟩, tw_1153, tw_1154⟩
theorem ok_X7_car : gh_okV mi_X7_car 2 := ⟨⟨tw_8, tw_1076, by decide +kernel, by decide⟩, tw_1074, tw_1075⟩
theorem ok_X7_carAt : gh_okS mi_X7_carAt 2 := ⟨⟨tw_8, tw_977, by decide +kernel, by decide⟩, tw_976⟩
theorem ok_X7_carIn : gh_okV mi_X7_carIn 2 := ⟨⟨tw_8, tw_1015, by decide +kernel, by decide⟩, tw_1014, (List.mem_filter.mpr ⟨List.mem_append_left _ (List.mem_of_getElem? (i := 90) (by decide +kernel)), rfl⟩)⟩
theorem ok_X7_carsThat : gh_okV mi_X7_carsThat 2 := ⟨⟨tw_8, tw_1036, by decide +kernel, by decide⟩, tw_1035, (List.mem_filter.mpr ⟨List.mem_append_left _ (List.mem_of_getElem? (i := 95) (by decide +kernel)), rfl⟩)⟩
theorem ok_X7_cell : gh_okV mi_X7_cell 2 := ⟨⟨tw_8, tw_1080, by decide +kernel, by decide⟩, tw_1078, tw_1079⟩
theorem ok_X7_chosen : gh_okV mi_X7_chosen 2 := ⟨⟨tw_8, tw_1194, by decide +kernel, by decide⟩, tw_1193, (List.mem_filter.mpr ⟨List.mem_append_left _ (List.mem_of_getElem? (i := 114) (by decide +kernel)), rfl⟩)⟩
theorem ok_X7_comes : gh_okV mi_X7_comes 3 := ⟨⟨tw_8, tw_1024, by decide +kernel, by decide⟩, tw_1023, (List.mem_filter.mpr ⟨List.mem_append_left _ (List.mem_of_getElem? (i := 92) (by decide +kernel)), rfl⟩)⟩
theorem ok_X7_copy : gh_okV mi_X7_copy 5 := ⟨⟨tw_8, tw_915, by decide +kernel, by decide⟩, tw_913, tw_914⟩
theorem ok_X7_copyRow : gh_okV mi_X7_copyRow 2 := ⟨⟨tw_8, tw_982, by decide +kernel, by decide⟩, tw_981, (List.mem_filter.mpr ⟨List.mem_append_left _ (List.mem_of_getElem? (i := 85) (by decide +kernel)), rfl⟩)⟩
theorem ok_X7_count : gh_okV mi_X7_count 1 := ⟨⟨tw_8, tw_1292, by decide +kernel, by decide⟩, tw_1290, tw_1291⟩
theorem ok_X7_drawn : gh_okV mi_X7_drawn 3 := ⟨⟨tw_8, tw_1220, by decide +kernel, by decide⟩, tw_1218, tw_1219⟩
theorem ok_X7_drop : gh_okV mi_X7_drop 1 := ⟨⟨tw_8, tw_923, by decide +kernel, by decide⟩, tw_921, tw_922⟩
theorem ok_X7_fail : gh_okV mi_X7_fail 2 := ⟨⟨tw_8, tw_952, by decide +kernel, by decide⟩, tw_951, (List.mem_filter.mpr ⟨List.mem_append_left _ (List.mem_of_getElem? (i := 80) (by decide +kernel)), rfl⟩)⟩
theorem ok_X7_fails : gh_okV mi_X7_fails 4 := ⟨⟨tw_8, tw_1214, by decide +kernel, by decide⟩, tw_1212, tw_1213⟩
theorem ok_X7_fault : gh_okV mi_X7_fault 0 := ⟨⟨tw_8, tw_986, by decide +kernel, by decide⟩, tw_984, tw_985⟩
theorem ok_X7_feed : gh_okV mi_X7_feed 1 := ⟨⟨tw_8, tw_927, by decide +kernel, by decide⟩, tw_925, tw_926⟩
theorem ok_X7_fine : gh_okV mi_X7_fine 0 := ⟨⟨tw_8, tw_944, by decide +kernel, by decide⟩, tw_943, (List.mem_filter.mpr ⟨List.mem_append_left _ (List.mem_of_getElem? (i := 78) (by decide +kernel)), rfl⟩)⟩
theorem ok_X7_flip : gh_okV mi_X7_flip 1 := ⟨⟨tw_8, tw_1052, by decide +kernel, by decide⟩, tw_1050, tw_1051⟩
theorem ok_X7_found : gh_okV mi_X7_found 1 := ⟨⟨tw_8, tw_902, by decide +kernel, by decide⟩, tw_901, (List.mem_filter.mpr ⟨List.mem_append_left _ (List.mem_of_getElem? (i := 73) (by decide +kernel)), rfl⟩)⟩
theorem ok_X7_fright : gh_okV mi_X7_fright 3 := ⟨⟨tw_8, tw_1028, by decide +kernel, by decide⟩, tw_1027, (List.mem_filter.mpr ⟨List.mem_append_left _ (List.mem_of_getElem? (i := 93) (by decide +kernel)), rfl⟩)⟩
theorem ok_X7_goOn : gh_okV mi_X7_goOn 1 := ⟨⟨tw_8, tw_1108, by decide +kernel, by decide⟩, tw_1107, (List.mem_filter.mpr ⟨List.mem_append_left _ (List.mem_of_getElem? (i := 104) (by decide +kernel)), rfl⟩)⟩
theorem ok_X7_goes : gh_okV mi_X7_goes 2 := ⟨⟨tw_8, tw_1020, by decide +kernel, by decide⟩, tw_1019, (List.mem_filter.mpr ⟨List.mem_append_left _ (List.mem_of_getElem? (i := 91) (by decide +kernel)), rfl⟩)⟩
theorem ok_X7_goesAgain : gh_okV mi_X7_goesAgain 2 := ⟨⟨tw_8, tw_1068, by decide +kernel, by decide⟩, tw_1067, (List.mem_filter.mpr ⟨List.mem_append_left _ (List.mem_of_getElem? (i := 99) (by decide +kernel)), rfl⟩)⟩
theorem ok_X7_has : gh_okS mi_X7_has 2 := ⟨⟨tw_8, tw_1166, by decide +kernel, by decide⟩, tw_1165⟩
theorem ok_X7_here : gh_okV mi_X7_here 0 := ⟨⟨tw_8, tw_948, by decide +kernel, by decide⟩, tw_947, (List.mem_filter.mpr ⟨List.mem_append_left _ (List.mem_of_getElem? (i := 79) (by decide +kernel)), rfl⟩)⟩
theorem ok_X7_image : gh_okV mi_X7_image 1 := ⟨⟨tw_8, tw_1228, by decide +kernel, by decide⟩, tw_1226, tw_1227⟩
theorem ok_X7_in : gh_okS mi_X7_in 3 := ⟨⟨tw_8, tw_897, by decide +kernel, by decide⟩, tw_896⟩
theorem ok_X7_isCar : gh_okV mi_X7_isCar 1 := ⟨⟨tw_8, tw_1060, by decide +kernel, by decide⟩, tw_1059, (List.mem_filter.mpr ⟨List.mem_append_left _ (List.mem_of_getElem? (i := 98) (by decide +kernel)), rfl⟩)⟩
theorem ok_X7_isCell : gh_okV mi_X7_isCell 1 := ⟨⟨tw_8, tw_1048, by decide +kernel, by decide⟩, tw_1047, (List.mem_filter.mpr ⟨List.mem_append_left _ (List.mem_of_getElem? (i := 97) (by decide +kernel)), rfl⟩)⟩
theorem ok_X7_isFigure : gh_okV mi_X7_isFigure 1 := ⟨⟨tw_8, tw_960, by decide +kernel, by decide⟩, tw_959, (List.mem_filter.mpr ⟨List.mem_append_left _ (List.mem_of_getElem? (i := 82) (by decide +kernel)), rfl⟩)⟩
theorem ok_X7_isPart : gh_okV mi_X7_isPart 3 := ⟨⟨tw_8, tw_919, by decide +kernel, by decide⟩, tw_918, (List.mem_filter.mpr ⟨List.mem_append_left _ (List.mem_of_getElem? (i := 75) (by decide +kernel)), rfl⟩)⟩
theorem ok_X7_isRow : gh_okS mi_X7_isRow 1 := ⟨⟨tw_8, tw_894, by decide +kernel, by decide⟩, tw_893⟩
theorem ok_X7_isTold : gh_okV mi_X7_isTold 4 := ⟨⟨tw_8, tw_1206, by decide +kernel, by decide⟩, tw_1205, (List.mem_filter.mpr ⟨List.mem_append_left _ (List.mem_of_getElem? (i := 116) (by decide +kernel)), rfl⟩)⟩
theorem ok_X7_isTrain : gh_okV mi_X7_isTrain 0 := ⟨⟨tw_8, tw_999, by decide +kernel, by decide⟩, tw_998, (List.mem_filter.mpr ⟨List.mem_append_left _ (List.mem_of_getElem? (i := 86) (by decide +kernel)), rfl⟩)⟩
theorem ok_X7_isTrick : gh_okV mi_X7_isTrick 1 := ⟨⟨tw_8, tw_1044, by decide +kernel, by decide⟩, tw_1043, (List.mem_filter.mpr ⟨List.mem_append_left _ (List.mem_of_getElem? (i := 96) (by decide +kernel)), rfl⟩)⟩
theorem ok_X7_kind : gh_okV mi_X7_kind 1 := ⟨⟨tw_8, tw_1236, by decide +kernel, by decide⟩, tw_1234, tw_1235⟩
theorem ok_X7_kindAt : gh_okV mi_X7_kindAt 1 := ⟨⟨tw_8, tw_1240, by decide +kernel, by decide⟩, tw_1239, (List.mem_filter.mpr ⟨List.mem_append_left _ (List.mem_of_getElem? (i := 117) (by decide +kernel)), rfl⟩)⟩
theorem ok_X7_kindOf : gh_okS mi_X7_kindOf 1 := ⟨⟨tw_8, tw_963, by decide +kernel, by decide⟩, tw_962⟩
theorem ok_X7_markOf : gh_okV mi_X7_markOf 1 := ⟨⟨tw_8, tw_1284, by decide +kernel, by decide⟩, tw_1283, (List.mem_filter.mpr ⟨List.mem_append_left _ (List.mem_of_getElem? (i := 126) (by decide +kernel)), rfl⟩)⟩
theorem ok_X7_markOfBones : gh_okV mi_X7_markOfBones 1 := ⟨⟨tw_8, tw_1268, by decide +kernel, by decide⟩, tw_1267, (List.mem_filter.mpr ⟨List.mem_append_left _ (List.mem_of_getElem? (i := 122) (by decide +kernel)), rfl⟩)⟩
theorem ok_X7_metOf : gh_okV mi_X7_metOf 1 := ⟨⟨tw_8, tw_1186, by decide +kernel, by decide⟩, tw_1185, (List.mem_filter.mpr ⟨List.mem_append_left _ (List.mem_of_getElem? (i := 113) (by decide +kernel)), rfl⟩)⟩
theorem ok_X7_nerve : gh_okV mi_X7_nerve 2 := ⟨⟨tw_8, tw_1056, by decide +kernel, by decide⟩, tw_1054, tw_1055⟩
theorem ok_X7_nerves : gh_okV mi_X7_nerves 5 := ⟨⟨tw_8, tw_1210, by decide +kernel, by decide⟩, tw_1208, tw_1209⟩
theorem ok_X7_nextOrder : gh_okV mi_X7_nextOrder 1 := ⟨⟨tw_8, tw_1147, by decide +kernel, by decide⟩, tw_1146, (List.mem_filter.mpr ⟨List.mem_append_left _ (List.mem_of_getElem? (i := 109) (by decide +kernel)), rfl⟩)⟩
theorem ok_X7_noHowls : gh_okV mi_X7_noHowls 0 := ⟨⟨tw_8, tw_1104, by decide +kernel, by decide⟩, tw_1103, (List.mem_filter.mpr ⟨List.mem_append_left _ (List.mem_of_getElem? (i := 103) (by decide +kernel)), rfl⟩)⟩
theorem ok_X7_number : gh_okV mi_X7_number 2 := ⟨⟨tw_8, tw_956, by decide +kernel, by decide⟩, tw_955, (List.mem_filter.mpr ⟨List.mem_append_left _ (List.mem_of_getElem? (i := 81) (by decide +kernel)), rfl⟩)⟩
theorem ok_X7_onSet : gh_okV mi_X7_onSet 1 := ⟨⟨tw_8, tw_1092, by decide +kernel, by decide⟩, tw_1091, (List.mem_filter.mpr ⟨List.mem_append_left _ (List.mem_of_getElem? (i := 101) (by decide +kernel)), rfl⟩)⟩
theorem ok_X7_order : gh_okV mi_X7_order 2 := ⟨⟨tw_8, tw_1136, by decide +kernel, by decide⟩, tw_1134, tw_1135⟩
theorem ok_X7_over : gh_okV mi_X7_over 0 := ⟨⟨tw_8, tw_1128, by decide +kernel, by decide⟩, tw_1126, tw_1127⟩
theorem ok_X7_place : gh_okV mi_X7_place 2 := ⟨⟨tw_8, tw_1040, by decide +kernel, by decide⟩, tw_1038, tw_1039⟩
theorem ok_X7_rankByNumbers : gh_okV mi_X7_rankByNumbers 0 := ⟨⟨tw_8, tw_1003, by decide +kernel, by decide⟩, tw_1002, (List.mem_filter.mpr ⟨List.mem_append_left _ (List.mem_of_getElem? (i := 87) (by decide +kernel)), rfl⟩)⟩
theorem ok_X7_readAll : gh_okV mi_X7_readAll 0 := ⟨⟨tw_8, tw_936, by decide +kernel, by decide⟩, tw_935, (List.mem_filter.mpr ⟨List.mem_append_left _ (List.mem_of_getElem? (i := 76) (by decide +kernel)), rfl⟩)⟩
theorem ok_X7_readCar : gh_okV mi_X7_readCar 0 := ⟨⟨tw_8, tw_974, by decide +kernel, by decide⟩, tw_973, (List.mem_filter.mpr ⟨List.mem_append_left _ (List.mem_of_getElem? (i := 84) (by decide +kernel)), rfl⟩)⟩
theorem ok_X7_readTrick : gh_okV mi_X7_readTrick 0 := ⟨⟨tw_8, tw_967, by decide +kernel, by decide⟩, tw_966, (List.mem_filter.mpr ⟨List.mem_append_left _ (List.mem_of_getElem? (i := 83) (by decide +kernel)), rfl⟩)⟩
theorem ok_X7_remember : gh_okV mi_X7_remember 0 := ⟨⟨tw_8, tw_1007, by decide +kernel, by decide⟩, tw_1006, (List.mem_filter.mpr ⟨List.mem_append_left _ (List.mem_of_getElem? (i := 88) (by decide +kernel)), rfl⟩)⟩
theorem ok_X7_restore : gh_okV mi_X7_restore 1 := ⟨⟨tw_8, tw_1232, by decide +kernel, by decide⟩, tw_1230, tw_1231⟩
theorem ok_X7_ridersOf : gh_okV mi_X7_ridersOf 1 := ⟨⟨tw_8, tw_1178, by decide +kernel, by decide⟩, tw_1177, (List.mem_filter.mpr ⟨List.mem_append_left _ (List.mem_of_getElem? (i := 112) (by decide +kernel)), rfl⟩)⟩
theorem ok_X7_row : gh_okV mi_X7_row 3 := ⟨⟨tw_8, tw_891, by decide +kernel, by decide⟩, tw_889, tw_890⟩
theorem ok_X7_rowMany : gh_okV mi_X7_rowMany 0 := ⟨⟨tw_8, tw_1296, by decide +kernel, by decide⟩, tw_1295, (List.mem_filter.mpr ⟨List.mem_append_left _ (List.mem_of_getElem? (i := 127) (by decide +kernel)), rfl⟩)⟩
theorem ok_X7_runsAlone : gh_okV mi_X7_runsAlone 2 := ⟨⟨tw_8, tw_1032, by decide +kernel, by decide⟩, tw_1031, (List.mem_filter.mpr ⟨List.mem_append_left _ (List.mem_of_getElem? (i := 94) (by decide +kernel)), rfl⟩)⟩
theorem ok_X7_set : gh_okV mi_X7_set 3 := ⟨⟨tw_8, tw_911, by decide +kernel, by decide⟩, tw_909, tw_910⟩
theorem ok_X7_sets : gh_okV mi_X7_sets 2 := ⟨⟨tw_8, tw_1174, by decide +kernel, by decide⟩, tw_1172, tw_1173⟩
theorem ok_X7_share : gh_okV mi_X7_share 2 := ⟨⟨tw_8, tw_1182, by decide +kernel, by decide⟩, tw_1180, tw_1181⟩
theorem ok_X7_show : gh_okV mi_X7_show 2 := ⟨⟨tw_8, tw_1112, by decide +kernel, by decide⟩, tw_1110, tw_1111⟩
theorem ok_X7_sign : gh_okV mi_X7_sign 1 := ⟨⟨tw_8, tw_940, by decide +kernel, by decide⟩, tw_939, (List.mem_filter.mpr ⟨List.mem_append_left _ (List.mem_of_getElem? (i := 77) (by decide +kernel)), rfl⟩)⟩
theorem ok_X7_sizeOf : gh_okV mi_X7_sizeOf 1 := ⟨⟨tw_8, tw_1252, by decide +kernel, by decide⟩, tw_1251, (List.mem_filter.mpr ⟨List.mem_append_left _ (List.mem_of_getElem? (i := 118) (by decide +kernel)), rfl⟩)⟩
theorem ok_X7_spot : gh_okV mi_X7_spot 3 := ⟨⟨tw_8, tw_1151, by decide +kernel, by decide⟩, tw_1149, tw_1150⟩
theorem ok_X7_stand : gh_okV mi_X7_stand 1 := ⟨⟨tw_8, tw_1088, by decide +kernel, by decide⟩, tw_1086, tw_1087⟩
theorem ok_X7_status : gh_okV mi_X7_status 0 := ⟨⟨tw_8, tw_1300, by decide +kernel, by decide⟩, tw_1298, tw_1299⟩
theorem ok_X7_sumOf : gh_okV mi_X7_sumOf 2 := ⟨⟨tw_8, tw_1116, by decide +kernel, by decide⟩, tw_1115, (List.mem_filter.mpr ⟨List.mem_append_left _ (List.mem_of_getElem? (i := 105) (by decide +kernel)), rfl⟩)⟩
theorem ok_X7_switchAll : gh_okV mi_X7_switchAll 1 := ⟨⟨tw_8, tw_1163, by decide +kernel, by decide⟩, tw_1162, (List.mem_filter.mpr ⟨List.mem_append_left _ (List.mem_of_getElem? (i := 111) (by decide +kernel)), rfl⟩)⟩
theorem ok_X7_tickAt : gh_okV mi_X7_tickAt 1 := ⟨⟨tw_8, tw_1011, by decide +kernel, by decide⟩, tw_1010, (List.mem_filter.mpr ⟨List.mem_append_left _ (List.mem_of_getElem? (i := 89) (by decide +kernel)), rfl⟩)⟩
theorem ok_X7_ticks : gh_okV mi_X7_ticks 1 := ⟨⟨tw_8, tw_995, by decide +kernel, by decide⟩, tw_993, tw_994⟩
theorem ok_X7_trace : gh_okV mi_X7_trace 1 := ⟨⟨tw_8, tw_1288, by decide +kernel, by decide⟩, tw_1286, tw_1287⟩
theorem ok_X7_train : gh_okV mi_X7_train 0 := ⟨⟨tw_8, tw_932, by decide +kernel, by decide⟩, tw_930, tw_931⟩
theorem ok_X7_trick : gh_okV mi_X7_trick 2 := ⟨⟨tw_8, tw_1072, by decide +kernel, by decide⟩, tw_1070, tw_1071⟩
theorem ok_X7_trickAt : gh_okS mi_X7_trickAt 2 := ⟨⟨tw_8, tw_970, by decide +kernel, by decide⟩, tw_969⟩
theorem ok_X7_tricksIn : gh_okV mi_X7_tricksIn 1 := ⟨⟨tw_8, tw_1084, by decide +kernel, by decide⟩, tw_1083, (List.mem_filter.mpr ⟨List.mem_append_left _ (List.mem_of_getElem? (i := 100) (by decide +kernel)), rfl⟩)⟩
theorem ok_X7_undo : gh_okV mi_X7_undo 0 := ⟨⟨tw_8, tw_990, by decide +kernel, by decide⟩, tw_988, tw_989⟩
theorem ok_X7_valueOfOrder : gh_okV mi_X7_valueOfOrder 1 := ⟨⟨tw_8, tw_1140, by decide +kernel, by decide⟩, tw_1139, (List.mem_filter.mpr ⟨List.mem_append_left _ (List.mem_of_getElem? (i := 108) (by decide +kernel)), rfl⟩)⟩
theorem ok_X7_well : gh_okV mi_X7_well 1 := ⟨⟨tw_8, tw_907, by decide +kernel, by decide⟩, tw_906, (List.mem_filter.mpr ⟨List.mem_append_left _ (List.mem_of_getElem? (i := 74) (by decide +kernel)), rfl⟩)⟩
theorem ok_X7_when : gh_okV mi_X7_when 2 := ⟨⟨tw_8, tw_1124, by decide +kernel, by decide⟩, tw_1122, tw_1123⟩
theorem ok_X7_who : gh_okV mi_X7_who 6 := ⟨⟨tw_8, tw_1198, by decide +kernel, by decide⟩, tw_1196, tw_1197⟩
theorem ok_X7_wrongRow : gh_okV mi_X7_wrongRow 3 := ⟨⟨tw_8, tw_1202, by decide +kernel, by decide⟩, tw_1201, (List.mem_filter.mpr ⟨List.mem_append_left _ (List.mem_of_getElem? (i := 115) (by decide +kernel)), rfl⟩)⟩
