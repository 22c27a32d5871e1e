/-! ===== all methods of the static world together: EV d is the machine down to d calls within one another ===== -/
/-- code, cuts, length of a stretch, class -/
abbrev CE : Type := (Nat → Option PE) × (Nat → Option (List Bool)) × Nat × Nat
def cte (y : Nat) : Option CE := if y < 301 then (if y < 143 then (if y < 72 then (if y < 37 then (if y < 18 then (if y < 9 then (if y < 5 then (if y < 3 then (if y < 2 then (if y = 1 then some (C_X0_clear, k_X0_clear, f_X0_clear, 0) else none) else (if y = 2 then some (C_X0_copyFrom, k_X0_copyFrom, f_X0_copyFrom, 0) else none)) else (if y < 4 then (if y = 3 then some (C_X0_nextStep, k_X0_nextStep, f_X0_nextStep, 0) else none) else (if y = 4 then some (C_X0_beginLaw, k_X0_beginLaw, f_X0_beginLaw, 0) else none))) else (if y < 7 then (if y < 6 then (if y = 5 then some (C_X0_addStep, k_X0_addStep, f_X0_addStep, 0) else none) else (if y = 6 then some (C_X0_leadHere, k_X0_leadHere, f_X0_leadHere, 0) else none)) else (if y < 8 then (if y = 7 then some (C_X0_say, k_X0_say, f_X0_say, 0) else none) else (if y = 8 then some (C_X0_reckon, k_X0_reckon, f_X0_reckon, 0) else none)))) else (if y < 14 then (if y < 12 then (if y < 11 then (if y = 9 then some (C_X0_addDefault, k_X0_addDefault, f_X0_addDefault, 0) else none) else (if y = 11 then some (C_X1_spread, k_X1_spread, f_X1_spread, 1) else none)) else (if y < 13 then (if y = 12 then some (C_X1_reach, k_X1_reach, f_X1_reach, 1) else none) else (if y = 13 then some (C_X1_joins, k_X1_joins, f_X1_joins, 1) else none))) else (if y < 16 then (if y < 15 then (if y = 14 then some (C_X1_measure, k_X1_measure, f_X1_measure, 1) else none) else (if y = 15 then some (C_X1_isReached, k_X1_isReached, f_X1_isReached, 1) else none)) else (if y < 17 then (if y = 16 then some (C_X1_widest, k_X1_widest, f_X1_widest, 1) else none) else (if y = 17 then some (C_X1_cheapestSeams, k_X1_cheapestSeams, f_X1_cheapestSeams, 1) else none))))) else (if y < 28 then (if y < 22 then (if y < 20 then (if y < 19 then (if y = 18 then some (C_X1_bridges, k_X1_bridges, f_X1_bridges, 1) else none) else (if y = 19 then some (C_X1_walks, k_X1_walks, f_X1_walks, 1) else none)) else (if y < 21 then (if y = 20 then some (C_X1_oddTowns, k_X1_oddTowns, f_X1_oddTowns, 1) else none) else (if y = 21 then some (C_X1_seamsAsWide, k_X1_seamsAsWide, f_X1_seamsAsWide, 1) else none))) else (if y < 25 then (if y < 24 then (if y = 22 then some (C_X1_shorten, k_X1_shorten, f_X1_shorten, 1) else none) else (if y = 24 then some (C_X2_clear, k_X2_clear, f_X2_clear, 2) else none)) else (if y < 26 then (if y = 25 then some (C_X2_keep, k_X2_keep, f_X2_keep, 2) else none) else (if y = 26 then some (C_X2_takeBack, k_X2_takeBack, f_X2_takeBack, 2) else none)))) else (if y < 32 then (if y < 30 then (if y < 29 then (if y = 28 then some (C_X3_clear, k_X3_clear, f_X3_clear, 3) else none) else (if y = 29 then some (C_X3_copyFrom, k_X3_copyFrom, f_X3_copyFrom, 3) else none)) else (if y < 31 then (if y = 30 then some (C_X3_addSeam, k_X3_addSeam, f_X3_addSeam, 3) else none) else (if y = 31 then some (C_X3_addCart, k_X3_addCart, f_X3_addCart, 3) else none))) else (if y < 35 then (if y < 33 then (if y = 32 then some (C_X3_hasSeam, k_X3_hasSeam, f_X3_hasSeam, 3) else none) else (if y = 33 then some (C_X3_countWays, k_X3_countWays, f_X3_countWays, 3) else none)) else (if y < 36 then (if y = 35 then some (C_X4_readText, k_X4_readText, f_X4_readText, 4) else none) else (if y = 36 then some (C_X4_readTell, k_X4_readTell, f_X4_readTell, 4) else none)))))) else (if y < 54 then (if y < 45 then (if y < 41 then (if y < 39 then (if y < 38 then (if y = 37 then some (C_X4_readTown, k_X4_readTown, f_X4_readTown, 4) else none) else (if y = 38 then some (C_X4_readSeam, k_X4_readSeam, f_X4_readSeam, 4) else none)) else (if y < 40 then (if y = 39 then some (C_X4_readWoman, k_X4_readWoman, f_X4_readWoman, 4) else none) else (if y = 40 then some (C_X4_readCart, k_X4_readCart, f_X4_readCart, 4) else none))) else (if y < 43 then (if y < 42 then (if y = 41 then some (C_X4_readNumber, k_X4_readNumber, f_X4_readNumber, 4) else none) else (if y = 42 then some (C_X4_readLaw, k_X4_readLaw, f_X4_readLaw, 4) else none)) else (if y < 44 then (if y = 43 then some (C_X4_readSum, k_X4_readSum, f_X4_readSum, 4) else none) else (if y = 44 then some (C_X4_readProduct, k_X4_readProduct, f_X4_readProduct, 4) else none)))) else (if y < 49 then (if y < 47 then (if y < 46 then (if y = 45 then some (C_X4_readUnit, k_X4_readUnit, f_X4_readUnit, 4) else none) else (if y = 46 then some (C_X4_takeFirst, k_X4_takeFirst, f_X4_takeFirst, 4) else none)) else (if y < 48 then (if y = 47 then some (C_X4_take, k_X4_take, f_X4_take, 4) else none) else (if y = 48 then some (C_X4_note, k_X4_note, f_X4_note, 4) else none))) else (if y < 51 then (if y < 50 then (if y = 49 then some (C_X4_addName, k_X4_addName, f_X4_addName, 4) else none) else (if y = 50 then some (C_X4_findName, k_X4_findName, f_X4_findName, 4) else none)) else (if y < 52 then (if y = 51 then some (C_X4_townAt, k_X4_townAt, f_X4_townAt, 4) else none) else (if y = 52 then some (C_X4_numberAt, k_X4_numberAt, f_X4_numberAt, 4) else none))))) else (if y < 62 then (if y < 58 then (if y < 56 then (if y < 55 then (if y = 54 then some (C_X5_stitchCost, k_X5_stitchCost, f_X5_stitchCost, 5) else none) else (if y = 55 then some (C_X5_wear, k_X5_wear, f_X5_wear, 5) else none)) else (if y < 57 then (if y = 56 then some (C_X5_wayLong, k_X5_wayLong, f_X5_wayLong, 5) else none) else (if y = 57 then some (C_X5_tollFor, k_X5_tollFor, f_X5_tollFor, 5) else none))) else (if y < 60 then (if y < 59 then (if y = 58 then some (C_X5_canStitch, k_X5_canStitch, f_X5_canStitch, 5) else none) else (if y = 59 then some (C_X5_threadUpTo, k_X5_threadUpTo, f_X5_threadUpTo, 5) else none)) else (if y < 61 then (if y = 60 then some (C_X5_fillSetCosts, k_X5_fillSetCosts, f_X5_fillSetCosts, 5) else none) else (if y = 61 then some (C_X5_look, k_X5_look, f_X5_look, 5) else none)))) else (if y < 67 then (if y < 65 then (if y < 64 then (if y = 62 then some (C_X5_held, k_X5_held, f_X5_held, 5) else none) else (if y = 64 then some (C_X6_clear, k_X6_clear, f_X6_clear, 6) else none)) else (if y < 66 then (if y = 65 then some (C_X6_addTold, k_X6_addTold, f_X6_addTold, 6) else none) else (if y = 66 then some (C_X6_measureCuts, k_X6_measureCuts, f_X6_measureCuts, 6) else none))) else (if y < 69 then (if y < 68 then (if y = 67 then some (C_X6_cutsKnownBy, k_X6_cutsKnownBy, f_X6_cutsKnownBy, 6) else none) else (if y = 68 then some (C_X6_bestQuestion, k_X6_bestQuestion, f_X6_bestQuestion, 6) else none)) else (if y < 70 then (if y = 69 then some (C_X6_fits, k_X6_fits, f_X6_fits, 6) else none) else (if y < 71 then (if y = 70 then some (C_X6_mostAlike, k_X6_mostAlike, f_X6_mostAlike, 6) else none) else (if y = 71 then some (C_X6_alike, k_X6_alike, f_X6_alike, 6) else none)))))))) else (if y < 109 then (if y < 90 then (if y < 81 then (if y < 77 then (if y < 75 then (if y < 74 then (if y = 72 then some (C_X6_pairOf, k_X6_pairOf, f_X6_pairOf, 6) else none) else (if y = 74 then some (C_X7_fillWays, k_X7_fillWays, f_X7_fillWays, 7) else none)) else (if y < 76 then (if y = 75 then some (C_X7_passWeeks, k_X7_passWeeks, f_X7_passWeeks, 7) else none) else (if y = 76 then some (C_X7_hasChance, k_X7_hasChance, f_X7_hasChance, 7) else none))) else (if y < 79 then (if y < 78 then (if y = 77 then some (C_X7_isFrost, k_X7_isFrost, f_X7_isFrost, 7) else none) else (if y = 78 then some (C_X7_fillLives, k_X7_fillLives, f_X7_fillLives, 7) else none)) else (if y < 80 then (if y = 79 then some (C_X7_seamsOutliving, k_X7_seamsOutliving, f_X7_seamsOutliving, 7) else none) else (if y = 80 then some (C_X7_bestToDouble, k_X7_bestToDouble, f_X7_bestToDouble, 7) else none)))) else (if y < 85 then (if y < 83 then (if y < 82 then (if y = 81 then some (C_X7_lifeOf, k_X7_lifeOf, f_X7_lifeOf, 7) else none) else (if y = 82 then some (C_X7_moveCarts, k_X7_moveCarts, f_X7_moveCarts, 7) else none)) else (if y < 84 then (if y = 83 then some (C_X7_moveCart, k_X7_moveCart, f_X7_moveCart, 7) else none) else (if y = 84 then some (C_X7_nextSeam, k_X7_nextSeam, f_X7_nextSeam, 7) else none))) else (if y < 87 then (if y < 86 then (if y = 85 then some (C_X7_otherEnd, k_X7_otherEnd, f_X7_otherEnd, 7) else none) else (if y = 86 then some (C_X7_wearSeams, k_X7_wearSeams, f_X7_wearSeams, 7) else none)) else (if y < 88 then (if y = 87 then some (C_X7_lotOfHundred, k_X7_lotOfHundred, f_X7_lotOfHundred, 7) else none) else (if y = 88 then some (C_X7_mixed, k_X7_mixed, f_X7_mixed, 7) else none))))) else (if y < 98 then (if y < 94 then (if y < 92 then (if y < 91 then (if y = 90 then some (C_X8_begin, k_X8_begin, f_X8_begin, 8) else none) else (if y = 91 then some (C_X8_copyFrom, k_X8_copyFrom, f_X8_copyFrom, 8) else none)) else (if y < 93 then (if y = 92 then some (C_X8_cartField, k_X8_cartField, f_X8_cartField, 8) else none) else (if y = 93 then some (C_X8_setCartField, k_X8_setCartField, f_X8_setCartField, 8) else none))) else (if y < 96 then (if y < 95 then (if y = 94 then some (C_X8_addToCartField, k_X8_addToCartField, f_X8_addToCartField, 8) else none) else (if y = 95 then some (C_X8_isOnRoad, k_X8_isOnRoad, f_X8_isOnRoad, 8) else none)) else (if y < 97 then (if y = 96 then some (C_X8_wholeSeams, k_X8_wholeSeams, f_X8_wholeSeams, 8) else none) else (if y = 97 then some (C_X8_cartsOnRoad, k_X8_cartsOnRoad, f_X8_cartsOnRoad, 8) else none)))) else (if y < 103 then (if y < 101 then (if y < 99 then (if y = 98 then some (C_X8_sewnTogether, k_X8_sewnTogether, f_X8_sewnTogether, 8) else none) else (if y = 99 then some (C_X8_evenLevel, k_X8_evenLevel, f_X8_evenLevel, 8) else none)) else (if y < 102 then (if y = 101 then some (C_X9_hasRoomFor, k_X9_hasRoomFor, f_X9_hasRoomFor, 9) else none) else (if y = 102 then some (C_X9_append, k_X9_append, f_X9_append, 9) else none))) else (if y < 106 then (if y < 105 then (if y = 103 then some (C_X9_byteAt, k_X9_byteAt, f_X9_byteAt, 9) else none) else (if y = 105 then some (C_X10_kindOf, k_X10_kindOf, f_X10_kindOf, 10) else none)) else (if y < 107 then (if y = 106 then some (C_X10_startOf, k_X10_startOf, f_X10_startOf, 10) else none) else (if y < 108 then (if y = 107 then some (C_X10_valueOf, k_X10_valueOf, f_X10_valueOf, 10) else none) else (if y = 108 then some (C_X10_scan, k_X10_scan, f_X10_scan, 10) else none))))))) else (if y < 126 then (if y < 117 then (if y < 113 then (if y < 111 then (if y < 110 then (if y = 109 then some (C_X10_scanOne, k_X10_scanOne, f_X10_scanOne, 10) else none) else (if y = 110 then some (C_X10_scanLetters, k_X10_scanLetters, f_X10_scanLetters, 10) else none)) else (if y < 112 then (if y = 111 then some (C_X10_scanDigits, k_X10_scanDigits, f_X10_scanDigits, 10) else none) else (if y = 112 then some (C_X10_sortOfLetters, k_X10_sortOfLetters, f_X10_sortOfLetters, 10) else none))) else (if y < 115 then (if y < 114 then (if y = 113 then some (C_X10_add, k_X10_add, f_X10_add, 10) else none) else (if y = 114 then some (C_X10_afterBlanks, k_X10_afterBlanks, f_X10_afterBlanks, 10) else none)) else (if y < 116 then (if y = 115 then some (C_X10_withLetter, k_X10_withLetter, f_X10_withLetter, 10) else none) else (if y = 116 then some (C_X10_isBlank, k_X10_isBlank, f_X10_isBlank, 10) else none)))) else (if y < 122 then (if y < 120 then (if y < 118 then (if y = 117 then some (C_X10_isLetter, k_X10_isLetter, f_X10_isLetter, 10) else none) else (if y = 118 then some (C_X10_isDigit, k_X10_isDigit, f_X10_isDigit, 10) else none)) else (if y < 121 then (if y = 120 then some (C_X11_feed, k_X11_feed, f_X11_feed, 11) else none) else (if y = 121 then some (C_X11_back, k_X11_back, f_X11_back, 11) else none))) else (if y < 124 then (if y < 123 then (if y = 122 then some (C_X11_read, k_X11_read, f_X11_read, 11) else none) else (if y = 123 then some (C_X11_place, k_X11_place, f_X11_place, 11) else none)) else (if y < 125 then (if y = 124 then some (C_X11_seam, k_X11_seam, f_X11_seam, 11) else none) else (if y = 125 then some (C_X11_cart, k_X11_cart, f_X11_cart, 11) else none))))) else (if y < 134 then (if y < 130 then (if y < 128 then (if y < 127 then (if y = 126 then some (C_X11_toll, k_X11_toll, f_X11_toll, 11) else none) else (if y = 127 then some (C_X11_sew, k_X11_sew, f_X11_sew, 11) else none)) else (if y < 129 then (if y = 128 then some (C_X11_cut, k_X11_cut, f_X11_cut, 11) else none) else (if y = 129 then some (C_X11_unpick, k_X11_unpick, f_X11_unpick, 11) else none))) else (if y < 132 then (if y < 131 then (if y = 130 then some (C_X11_send, k_X11_send, f_X11_send, 11) else none) else (if y = 131 then some (C_X11_weeks, k_X11_weeks, f_X11_weeks, 11) else none)) else (if y < 133 then (if y = 132 then some (C_X11_undo, k_X11_undo, f_X11_undo, 11) else none) else (if y = 133 then some (C_X11_far, k_X11_far, f_X11_far, 11) else none)))) else (if y < 138 then (if y < 136 then (if y < 135 then (if y = 134 then some (C_X11_hops, k_X11_hops, f_X11_hops, 11) else none) else (if y = 135 then some (C_X11_joined, k_X11_joined, f_X11_joined, 11) else none)) else (if y < 137 then (if y = 136 then some (C_X11_hangs, k_X11_hangs, f_X11_hangs, 11) else none) else (if y = 137 then some (C_X11_takes, k_X11_takes, f_X11_takes, 11) else none))) else (if y < 140 then (if y < 139 then (if y = 138 then some (C_X11_sewing, k_X11_sewing, f_X11_sewing, 11) else none) else (if y = 139 then some (C_X11_surest, k_X11_surest, f_X11_surest, 11) else none)) else (if y < 141 then (if y = 140 then some (C_X11_soon, k_X11_soon, f_X11_soon, 11) else none) else (if y < 142 then (if y = 141 then some (C_X11_holds, k_X11_holds, f_X11_holds, 11) else none) else (if y = 142 then some (C_X11_rows, k_X11_rows, f_X11_rows, 11) else none))))))))) else (if y < 209 then (if y < 176 then (if y < 159 then (if y < 151 then (if y < 147 then (if y < 145 then (if y < 144 then (if y = 143 then some (C_X11_march, k_X11_march, f_X11_march, 11) else none) else (if y = 144 then some (C_X11_doubles, k_X11_doubles, f_X11_doubles, 11) else none)) else (if y < 146 then (if y = 145 then some (C_X11_then, k_X11_then, f_X11_then, 11) else none) else (if y = 146 then some (C_X11_cartIn, k_X11_cartIn, f_X11_cartIn, 11) else none))) else (if y < 149 then (if y < 148 then (if y = 147 then some (C_X11_year, k_X11_year, f_X11_year, 11) else none) else (if y = 148 then some (C_X11_tell, k_X11_tell, f_X11_tell, 11) else none)) else (if y < 150 then (if y = 149 then some (C_X11_forget, k_X11_forget, f_X11_forget, 11) else none) else (if y = 150 then some (C_X11_cuts, k_X11_cuts, f_X11_cuts, 11) else none)))) else (if y < 155 then (if y < 153 then (if y < 152 then (if y = 151 then some (C_X11_ask, k_X11_ask, f_X11_ask, 11) else none) else (if y = 152 then some (C_X11_hold, k_X11_hold, f_X11_hold, 11) else none)) else (if y < 154 then (if y = 153 then some (C_X11_restore, k_X11_restore, f_X11_restore, 11) else none) else (if y = 154 then some (C_X11_count, k_X11_count, f_X11_count, 11) else none))) else (if y < 157 then (if y < 156 then (if y = 155 then some (C_X11_emptySlots, k_X11_emptySlots, f_X11_emptySlots, 11) else none) else (if y = 156 then some (C_X11_heldSlots, k_X11_heldSlots, f_X11_heldSlots, 11) else none)) else (if y < 158 then (if y = 157 then some (C_X11_lookAhead, k_X11_lookAhead, f_X11_lookAhead, 11) else none) else (if y = 158 then some (C_X11_staysJoined, k_X11_staysJoined, f_X11_staysJoined, 11) else none))))) else (if y < 168 then (if y < 163 then (if y < 161 then (if y < 160 then (if y = 159 then some (C_X11_possibleCuts, k_X11_possibleCuts, f_X11_possibleCuts, 11) else none) else (if y = 160 then some (C_X11_isTown, k_X11_isTown, f_X11_isTown, 11) else none)) else (if y < 162 then (if y = 161 then some (C_X11_areTwoTowns, k_X11_areTwoTowns, f_X11_areTwoTowns, 11) else none) else (if y = 162 then some (C_X11_isSeam, k_X11_isSeam, f_X11_isSeam, 11) else none))) else (if y < 165 then (if y < 164 then (if y = 163 then some (C_X11_isCart, k_X11_isCart, f_X11_isCart, 11) else none) else (if y = 164 then some (C_X11_within, k_X11_within, f_X11_within, 11) else none)) else (if y < 167 then (if y = 165 then some (C_X11_hasBit, k_X11_hasBit, f_X11_hasBit, 11) else none) else (if y = 167 then some (C_X12_feed, k_X12_feed, f_X12_feed, 12) else none)))) else (if y < 172 then (if y < 170 then (if y < 169 then (if y = 168 then some (C_X12_put, k_X12_put, f_X12_put, 12) else none) else (if y = 169 then some (C_X12_back, k_X12_back, f_X12_back, 12) else none)) else (if y < 171 then (if y = 170 then some (C_X12_byteAt, k_X12_byteAt, f_X12_byteAt, 12) else none) else (if y = 171 then some (C_X12_isDigit, k_X12_isDigit, f_X12_isDigit, 12) else none))) else (if y < 174 then (if y < 173 then (if y = 172 then some (C_X12_isLetter, k_X12_isLetter, f_X12_isLetter, 12) else none) else (if y = 173 then some (C_X12_appends, k_X12_appends, f_X12_appends, 12) else none)) else (if y < 175 then (if y = 174 then some (C_X12_word, k_X12_word, f_X12_word, 12) else none) else (if y = 175 then some (C_X12_token, k_X12_token, f_X12_token, 12) else none)))))) else (if y < 192 then (if y < 184 then (if y < 180 then (if y < 178 then (if y < 177 then (if y = 176 then some (C_X12_cutsUp, k_X12_cutsUp, f_X12_cutsUp, 12) else none) else (if y = 177 then some (C_X12_sign, k_X12_sign, f_X12_sign, 12) else none)) else (if y < 179 then (if y = 178 then some (C_X12_is, k_X12_is, f_X12_is, 12) else none) else (if y = 179 then some (C_X12_fail, k_X12_fail, f_X12_fail, 12) else none))) else (if y < 182 then (if y < 181 then (if y = 180 then some (C_X12_wrong, k_X12_wrong, f_X12_wrong, 12) else none) else (if y = 181 then some (C_X12_goesOn, k_X12_goesOn, f_X12_goesOn, 12) else none)) else (if y < 183 then (if y = 182 then some (C_X12_must, k_X12_must, f_X12_must, 12) else none) else (if y = 183 then some (C_X12_plain, k_X12_plain, f_X12_plain, 12) else none)))) else (if y < 188 then (if y < 186 then (if y < 185 then (if y = 184 then some (C_X12_read, k_X12_read, f_X12_read, 12) else none) else (if y = 185 then some (C_X12_place, k_X12_place, f_X12_place, 12) else none)) else (if y < 187 then (if y = 186 then some (C_X12_roomFor, k_X12_roomFor, f_X12_roomFor, 12) else none) else (if y = 187 then some (C_X12_toldInt, k_X12_toldInt, f_X12_toldInt, 12) else none))) else (if y < 190 then (if y < 189 then (if y = 188 then some (C_X12_tellOne, k_X12_tellOne, f_X12_tellOne, 12) else none) else (if y = 189 then some (C_X12_named, k_X12_named, f_X12_named, 12) else none)) else (if y < 191 then (if y = 190 then some (C_X12_ends, k_X12_ends, f_X12_ends, 12) else none) else (if y = 191 then some (C_X12_knownTown, k_X12_knownTown, f_X12_knownTown, 12) else none))))) else (if y < 200 then (if y < 196 then (if y < 194 then (if y < 193 then (if y = 192 then some (C_X12_bounded, k_X12_bounded, f_X12_bounded, 12) else none) else (if y = 193 then some (C_X12_hasSeam, k_X12_hasSeam, f_X12_hasSeam, 12) else none)) else (if y < 195 then (if y = 194 then some (C_X12_tellSeam, k_X12_tellSeam, f_X12_tellSeam, 12) else none) else (if y = 195 then some (C_X12_tellCart, k_X12_tellCart, f_X12_tellCart, 12) else none))) else (if y < 198 then (if y < 197 then (if y = 196 then some (C_X12_tellLaw, k_X12_tellLaw, f_X12_tellLaw, 12) else none) else (if y = 197 then some (C_X12_term, k_X12_term, f_X12_term, 12) else none)) else (if y < 199 then (if y = 198 then some (C_X12_emit, k_X12_emit, f_X12_emit, 12) else none) else (if y = 199 then some (C_X12_comesOut, k_X12_comesOut, f_X12_comesOut, 12) else none)))) else (if y < 204 then (if y < 202 then (if y < 201 then (if y = 200 then some (C_X12_expression, k_X12_expression, f_X12_expression, 12) else none) else (if y = 201 then some (C_X12_unit, k_X12_unit, f_X12_unit, 12) else none)) else (if y < 203 then (if y = 202 then some (C_X12_termOf, k_X12_termOf, f_X12_termOf, 12) else none) else (if y = 203 then some (C_X12_in, k_X12_in, f_X12_in, 12) else none))) else (if y < 206 then (if y < 205 then (if y = 204 then some (C_X12_held, k_X12_held, f_X12_held, 12) else none) else (if y = 205 then some (C_X12_isTown, k_X12_isTown, f_X12_isTown, 12) else none)) else (if y < 207 then (if y = 206 then some (C_X12_isSeam, k_X12_isSeam, f_X12_isSeam, 12) else none) else (if y < 208 then (if y = 207 then some (C_X12_isCart, k_X12_isCart, f_X12_isCart, 12) else none) else (if y = 208 then some (C_X12_begins, k_X12_begins, f_X12_begins, 12) else none)))))))) else (if y < 242 then (if y < 225 then (if y < 217 then (if y < 213 then (if y < 211 then (if y < 210 then (if y = 209 then some (C_X12_keepsRow, k_X12_keepsRow, f_X12_keepsRow, 12) else none) else (if y = 210 then some (C_X12_copies, k_X12_copies, f_X12_copies, 12) else none)) else (if y < 212 then (if y = 211 then some (C_X12_mixed, k_X12_mixed, f_X12_mixed, 12) else none) else (if y = 212 then some (C_X12_isFrost, k_X12_isFrost, f_X12_isFrost, 12) else none))) else (if y < 215 then (if y < 214 then (if y = 213 then some (C_X12_waysAt, k_X12_waysAt, f_X12_waysAt, 12) else none) else (if y = 214 then some (C_X12_looks, k_X12_looks, f_X12_looks, 12) else none)) else (if y < 216 then (if y = 215 then some (C_X12_asks, k_X12_asks, f_X12_asks, 12) else none) else (if y = 216 then some (C_X12_lawTells, k_X12_lawTells, f_X12_lawTells, 12) else none)))) else (if y < 221 then (if y < 219 then (if y < 218 then (if y = 217 then some (C_X12_costsNow, k_X12_costsNow, f_X12_costsNow, 12) else none) else (if y = 218 then some (C_X12_wearsNow, k_X12_wearsNow, f_X12_wearsNow, 12) else none)) else (if y < 220 then (if y = 219 then some (C_X12_wayOf, k_X12_wayOf, f_X12_wayOf, 12) else none) else (if y = 220 then some (C_X12_tollOf, k_X12_tollOf, f_X12_tollOf, 12) else none))) else (if y < 223 then (if y < 222 then (if y = 221 then some (C_X12_fillsWays, k_X12_fillsWays, f_X12_fillsWays, 12) else none) else (if y = 222 then some (C_X12_fillsFar, k_X12_fillsFar, f_X12_fillsFar, 12) else none)) else (if y < 224 then (if y = 223 then some (C_X12_areJoined, k_X12_areJoined, f_X12_areJoined, 12) else none) else (if y = 224 then some (C_X12_otherEnd, k_X12_otherEnd, f_X12_otherEnd, 12) else none))))) else (if y < 233 then (if y < 229 then (if y < 227 then (if y < 226 then (if y = 225 then some (C_X12_roadOf, k_X12_roadOf, f_X12_roadOf, 12) else none) else (if y = 226 then some (C_X12_cartGoes, k_X12_cartGoes, f_X12_cartGoes, 12) else none)) else (if y < 228 then (if y = 227 then some (C_X12_weekGoes, k_X12_weekGoes, f_X12_weekGoes, 12) else none) else (if y = 228 then some (C_X12_goes, k_X12_goes, f_X12_goes, 12) else none))) else (if y < 231 then (if y < 230 then (if y = 229 then some (C_X12_seam, k_X12_seam, f_X12_seam, 12) else none) else (if y = 230 then some (C_X12_cart, k_X12_cart, f_X12_cart, 12) else none)) else (if y < 232 then (if y = 231 then some (C_X12_toll, k_X12_toll, f_X12_toll, 12) else none) else (if y = 232 then some (C_X12_records, k_X12_records, f_X12_records, 12) else none)))) else (if y < 237 then (if y < 235 then (if y < 234 then (if y = 233 then some (C_X12_sew, k_X12_sew, f_X12_sew, 12) else none) else (if y = 234 then some (C_X12_cut, k_X12_cut, f_X12_cut, 12) else none)) else (if y < 236 then (if y = 235 then some (C_X12_unpick, k_X12_unpick, f_X12_unpick, 12) else none) else (if y = 236 then some (C_X12_send, k_X12_send, f_X12_send, 12) else none))) else (if y < 239 then (if y < 238 then (if y = 237 then some (C_X12_weeks, k_X12_weeks, f_X12_weeks, 12) else none) else (if y = 238 then some (C_X12_undo, k_X12_undo, f_X12_undo, 12) else none)) else (if y < 240 then (if y = 239 then some (C_X12_far, k_X12_far, f_X12_far, 12) else none) else (if y < 241 then (if y = 240 then some (C_X12_hops, k_X12_hops, f_X12_hops, 12) else none) else (if y = 241 then some (C_X12_joinedTo, k_X12_joinedTo, f_X12_joinedTo, 12) else none))))))) else (if y < 258 then (if y < 250 then (if y < 246 then (if y < 244 then (if y < 243 then (if y = 242 then some (C_X12_joined, k_X12_joined, f_X12_joined, 12) else none) else (if y = 243 then some (C_X12_hangs, k_X12_hangs, f_X12_hangs, 12) else none)) else (if y < 245 then (if y = 244 then some (C_X12_takesNow, k_X12_takesNow, f_X12_takesNow, 12) else none) else (if y = 245 then some (C_X12_isSewn, k_X12_isSewn, f_X12_isSewn, 12) else none))) else (if y < 248 then (if y < 247 then (if y = 246 then some (C_X12_takes, k_X12_takes, f_X12_takes, 12) else none) else (if y = 247 then some (C_X12_joinsAll, k_X12_joinsAll, f_X12_joinsAll, 12) else none)) else (if y < 249 then (if y = 248 then some (C_X12_sewing, k_X12_sewing, f_X12_sewing, 12) else none) else (if y = 249 then some (C_X12_surest, k_X12_surest, f_X12_surest, 12) else none)))) else (if y < 254 then (if y < 252 then (if y < 251 then (if y = 250 then some (C_X12_soon, k_X12_soon, f_X12_soon, 12) else none) else (if y = 251 then some (C_X12_holdsFor, k_X12_holdsFor, f_X12_holdsFor, 12) else none)) else (if y < 253 then (if y = 252 then some (C_X12_holds, k_X12_holds, f_X12_holds, 12) else none) else (if y = 253 then some (C_X12_wholeAt, k_X12_wholeAt, f_X12_wholeAt, 12) else none))) else (if y < 256 then (if y < 255 then (if y = 254 then some (C_X12_rows, k_X12_rows, f_X12_rows, 12) else none) else (if y = 255 then some (C_X12_isLong, k_X12_isLong, f_X12_isLong, 12) else none)) else (if y < 257 then (if y = 256 then some (C_X12_march, k_X12_march, f_X12_march, 12) else none) else (if y = 257 then some (C_X12_doubles, k_X12_doubles, f_X12_doubles, 12) else none))))) else (if y < 266 then (if y < 262 then (if y < 260 then (if y < 259 then (if y = 258 then some (C_X12_then, k_X12_then, f_X12_then, 12) else none) else (if y = 259 then some (C_X12_cartIn, k_X12_cartIn, f_X12_cartIn, 12) else none)) else (if y < 261 then (if y = 260 then some (C_X12_year, k_X12_year, f_X12_year, 12) else none) else (if y = 261 then some (C_X12_tell, k_X12_tell, f_X12_tell, 12) else none))) else (if y < 264 then (if y < 263 then (if y = 262 then some (C_X12_forget, k_X12_forget, f_X12_forget, 12) else none) else (if y = 263 then some (C_X12_wayBetween, k_X12_wayBetween, f_X12_wayBetween, 12) else none)) else (if y < 265 then (if y = 264 then some (C_X12_cutsOne, k_X12_cutsOne, f_X12_cutsOne, 12) else none) else (if y = 265 then some (C_X12_cutBits, k_X12_cutBits, f_X12_cutBits, 12) else none)))) else (if y < 270 then (if y < 268 then (if y < 267 then (if y = 266 then some (C_X12_bits, k_X12_bits, f_X12_bits, 12) else none) else (if y = 267 then some (C_X12_cuts, k_X12_cuts, f_X12_cuts, 12) else none)) else (if y < 269 then (if y = 268 then some (C_X12_worstOf, k_X12_worstOf, f_X12_worstOf, 12) else none) else (if y = 269 then some (C_X12_ask, k_X12_ask, f_X12_ask, 12) else none))) else (if y < 272 then (if y < 271 then (if y = 270 then some (C_X12_hold, k_X12_hold, f_X12_hold, 12) else none) else (if y = 271 then some (C_X12_restore, k_X12_restore, f_X12_restore, 12) else none)) else (if y < 276 then (if y = 272 then some (C_X12_count, k_X12_count, f_X12_count, 12) else none) else (if y < 300 then (if y = 276 then some (C_J6_bitCount_0f7a4, k_J6_bitCount_0f7a4, f_J6_bitCount_0f7a4, 15) else none) else (if y = 300 then some (C_J7_fill_53178, k_J7_fill_53178, f_J7_fill_53178, 14) else none)))))))))) else none
def kF (y : Nat) (q : CE) : Prop := mF y ∧ (mN y).cls = oN q.2.2.2 ∧ (∀ pc E, q.1 pc = some E → ckI q.2.2.2 (mB y) pc E = true) ∧ (mR y = none ∨ mR y = some .int ∨ mR y = some .long ∨ mR y = some .boolean)
def kG (y : Nat) : Prop := ∀ q, cte y = some q → kF y q
theorem kG_of {y : Nat} {q : CE} (h : cte y = some q) (h1 : kF y q) : kG y := by
  intro q' h'
  rw [h] at h'
  cases h'
  exact h1
theorem kG_no {y : Nat} (h : cte y = none) : kG y := by
  intro q' h'
  rw [h] at h'
  cases h'
set_option maxRecDepth 100000 in
theorem kf_1 : kG 1 := kG_of (q := (C_X0_clear, k_X0_clear, f_X0_clear, 0)) rfl ⟨mws_at (i := 24) rfl, rfl, ck_X0_clear, Or.inl rfl⟩
set_option maxRecDepth 100000 in
theorem kf_2 : kG 2 := kG_of (q := (C_X0_copyFrom, k_X0_copyFrom, f_X0_copyFrom, 0)) rfl ⟨mws_at (i := 25) rfl, rfl, ck_X0_copyFrom, Or.inl rfl⟩
set_option maxRecDepth 100000 in
theorem kf_3 : kG 3 := kG_of (q := (C_X0_nextStep, k_X0_nextStep, f_X0_nextStep, 0)) rfl ⟨mws_at (i := 26) rfl, rfl, ck_X0_nextStep, Or.inr (Or.inl rfl)⟩
set_option maxRecDepth 100000 in
theorem kf_4 : kG 4 := kG_of (q := (C_X0_beginLaw, k_X0_beginLaw, f_X0_beginLaw, 0)) rfl ⟨mws_at (i := 27) rfl, rfl, ck_X0_beginLaw, Or.inl rfl⟩
set_option maxRecDepth 100000 in
theorem kf_5 : kG 5 := kG_of (q := (C_X0_addStep, k_X0_addStep, f_X0_addStep, 0)) rfl ⟨mws_at (i := 28) rfl, rfl, ck_X0_addStep, Or.inl rfl⟩
set_option maxRecDepth 100000 in
theorem kf_6 : kG 6 := kG_of (q := (C_X0_leadHere, k_X0_leadHere, f_X0_leadHere, 0)) rfl ⟨mws_at (i := 29) rfl, rfl, ck_X0_leadHere, Or.inl rfl⟩
set_option maxRecDepth 100000 in
theorem kf_7 : kG 7 := kG_of (q := (C_X0_say, k_X0_say, f_X0_say, 0)) rfl ⟨mws_at (i := 30) rfl, rfl, ck_X0_say, Or.inr (Or.inl rfl)⟩
set_option maxRecDepth 100000 in
theorem kf_8 : kG 8 := kG_of (q := (C_X0_reckon, k_X0_reckon, f_X0_reckon, 0)) rfl ⟨mws_at (i := 0) rfl, rfl, ck_X0_reckon, Or.inr (Or.inl rfl)⟩
set_option maxRecDepth 100000 in
theorem kf_9 : kG 9 := kG_of (q := (C_X0_addDefault, k_X0_addDefault, f_X0_addDefault, 0)) rfl ⟨mws_at (i := 31) rfl, rfl, ck_X0_addDefault, Or.inl rfl⟩
set_option maxRecDepth 100000 in
theorem kf_11 : kG 11 := kG_of (q := (C_X1_spread, k_X1_spread, f_X1_spread, 1)) rfl ⟨mws_at (i := 32) rfl, rfl, ck_X1_spread, Or.inr (Or.inl rfl)⟩
set_option maxRecDepth 100000 in
theorem kf_12 : kG 12 := kG_of (q := (C_X1_reach, k_X1_reach, f_X1_reach, 1)) rfl ⟨mws_at (i := 33) rfl, rfl, ck_X1_reach, Or.inr (Or.inl rfl)⟩
set_option maxRecDepth 100000 in
theorem kf_13 : kG 13 := kG_of (q := (C_X1_joins, k_X1_joins, f_X1_joins, 1)) rfl ⟨mws_at (i := 34) rfl, rfl, ck_X1_joins, Or.inr (Or.inr (Or.inr rfl))⟩
set_option maxRecDepth 100000 in
theorem kf_14 : kG 14 := kG_of (q := (C_X1_measure, k_X1_measure, f_X1_measure, 1)) rfl ⟨mws_at (i := 35) rfl, rfl, ck_X1_measure, Or.inl rfl⟩
set_option maxRecDepth 100000 in
theorem kf_15 : kG 15 := kG_of (q := (C_X1_isReached, k_X1_isReached, f_X1_isReached, 1)) rfl ⟨mws_at (i := 36) rfl, rfl, ck_X1_isReached, Or.inr (Or.inr (Or.inr rfl))⟩
set_option maxRecDepth 100000 in
theorem kf_16 : kG 16 := kG_of (q := (C_X1_widest, k_X1_widest, f_X1_widest, 1)) rfl ⟨mws_at (i := 37) rfl, rfl, ck_X1_widest, Or.inr (Or.inl rfl)⟩
set_option maxRecDepth 100000 in
theorem kf_17 : kG 17 := kG_of (q := (C_X1_cheapestSeams, k_X1_cheapestSeams, f_X1_cheapestSeams, 1)) rfl ⟨mws_at (i := 38) rfl, rfl, ck_X1_cheapestSeams, Or.inr (Or.inl rfl)⟩
set_option maxRecDepth 100000 in
theorem kf_18 : kG 18 := kG_of (q := (C_X1_bridges, k_X1_bridges, f_X1_bridges, 1)) rfl ⟨mws_at (i := 39) rfl, rfl, ck_X1_bridges, Or.inr (Or.inl rfl)⟩
set_option maxRecDepth 100000 in
theorem kf_19 : kG 19 := kG_of (q := (C_X1_walks, k_X1_walks, f_X1_walks, 1)) rfl ⟨mws_at (i := 40) rfl, rfl, ck_X1_walks, Or.inr (Or.inl rfl)⟩
set_option maxRecDepth 100000 in
theorem kf_20 : kG 20 := kG_of (q := (C_X1_oddTowns, k_X1_oddTowns, f_X1_oddTowns, 1)) rfl ⟨mws_at (i := 41) rfl, rfl, ck_X1_oddTowns, Or.inr (Or.inl rfl)⟩
set_option maxRecDepth 100000 in
theorem kf_21 : kG 21 := kG_of (q := (C_X1_seamsAsWide, k_X1_seamsAsWide, f_X1_seamsAsWide, 1)) rfl ⟨mws_at (i := 42) rfl, rfl, ck_X1_seamsAsWide, Or.inr (Or.inl rfl)⟩
set_option maxRecDepth 100000 in
theorem kf_22 : kG 22 := kG_of (q := (C_X1_shorten, k_X1_shorten, f_X1_shorten, 1)) rfl ⟨mws_at (i := 43) rfl, rfl, ck_X1_shorten, Or.inr (Or.inr (Or.inr rfl))⟩
set_option maxRecDepth 100000 in
theorem kf_24 : kG 24 := kG_of (q := (C_X2_clear, k_X2_clear, f_X2_clear, 2)) rfl ⟨mws_at (i := 44) rfl, rfl, ck_X2_clear, Or.inl rfl⟩
set_option maxRecDepth 100000 in
theorem kf_25 : kG 25 := kG_of (q := (C_X2_keep, k_X2_keep, f_X2_keep, 2)) rfl ⟨mws_at (i := 45) rfl, rfl, ck_X2_keep, Or.inl rfl⟩
set_option maxRecDepth 100000 in
theorem kf_26 : kG 26 := kG_of (q := (C_X2_takeBack, k_X2_takeBack, f_X2_takeBack, 2)) rfl ⟨mws_at (i := 46) rfl, rfl, ck_X2_takeBack, Or.inr (Or.inr (Or.inr rfl))⟩
set_option maxRecDepth 100000 in
theorem kf_28 : kG 28 := kG_of (q := (C_X3_clear, k_X3_clear, f_X3_clear, 3)) rfl ⟨mws_at (i := 47) rfl, rfl, ck_X3_clear, Or.inl rfl⟩
set_option maxRecDepth 100000 in
theorem kf_29 : kG 29 := kG_of (q := (C_X3_copyFrom, k_X3_copyFrom, f_X3_copyFrom, 3)) rfl ⟨mws_at (i := 48) rfl, rfl, ck_X3_copyFrom, Or.inl rfl⟩
set_option maxRecDepth 100000 in
theorem kf_30 : kG 30 := kG_of (q := (C_X3_addSeam, k_X3_addSeam, f_X3_addSeam, 3)) rfl ⟨mws_at (i := 49) rfl, rfl, ck_X3_addSeam, Or.inl rfl⟩
set_option maxRecDepth 100000 in
theorem kf_31 : kG 31 := kG_of (q := (C_X3_addCart, k_X3_addCart, f_X3_addCart, 3)) rfl ⟨mws_at (i := 50) rfl, rfl, ck_X3_addCart, Or.inl rfl⟩
set_option maxRecDepth 100000 in
theorem kf_32 : kG 32 := kG_of (q := (C_X3_hasSeam, k_X3_hasSeam, f_X3_hasSeam, 3)) rfl ⟨mws_at (i := 51) rfl, rfl, ck_X3_hasSeam, Or.inr (Or.inr (Or.inr rfl))⟩
set_option maxRecDepth 100000 in
theorem kf_33 : kG 33 := kG_of (q := (C_X3_countWays, k_X3_countWays, f_X3_countWays, 3)) rfl ⟨mws_at (i := 52) rfl, rfl, ck_X3_countWays, Or.inl rfl⟩
set_option maxRecDepth 100000 in
theorem kf_35 : kG 35 := kG_of (q := (C_X4_readText, k_X4_readText, f_X4_readText, 4)) rfl ⟨mws_at (i := 53) rfl, rfl, ck_X4_readText, Or.inr (Or.inl rfl)⟩
set_option maxRecDepth 100000 in
theorem kf_36 : kG 36 := kG_of (q := (C_X4_readTell, k_X4_readTell, f_X4_readTell, 4)) rfl ⟨mws_at (i := 54) rfl, rfl, ck_X4_readTell, Or.inl rfl⟩
set_option maxRecDepth 100000 in
theorem kf_37 : kG 37 := kG_of (q := (C_X4_readTown, k_X4_readTown, f_X4_readTown, 4)) rfl ⟨mws_at (i := 55) rfl, rfl, ck_X4_readTown, Or.inl rfl⟩
set_option maxRecDepth 100000 in
theorem kf_38 : kG 38 := kG_of (q := (C_X4_readSeam, k_X4_readSeam, f_X4_readSeam, 4)) rfl ⟨mws_at (i := 56) rfl, rfl, ck_X4_readSeam, Or.inl rfl⟩
set_option maxRecDepth 100000 in
theorem kf_39 : kG 39 := kG_of (q := (C_X4_readWoman, k_X4_readWoman, f_X4_readWoman, 4)) rfl ⟨mws_at (i := 57) rfl, rfl, ck_X4_readWoman, Or.inl rfl⟩
set_option maxRecDepth 100000 in
theorem kf_40 : kG 40 := kG_of (q := (C_X4_readCart, k_X4_readCart, f_X4_readCart, 4)) rfl ⟨mws_at (i := 58) rfl, rfl, ck_X4_readCart, Or.inl rfl⟩
set_option maxRecDepth 100000 in
theorem kf_41 : kG 41 := kG_of (q := (C_X4_readNumber, k_X4_readNumber, f_X4_readNumber, 4)) rfl ⟨mws_at (i := 59) rfl, rfl, ck_X4_readNumber, Or.inr (Or.inl rfl)⟩
set_option maxRecDepth 100000 in
theorem kf_42 : kG 42 := kG_of (q := (C_X4_readLaw, k_X4_readLaw, f_X4_readLaw, 4)) rfl ⟨mws_at (i := 60) rfl, rfl, ck_X4_readLaw, Or.inl rfl⟩
set_option maxRecDepth 100000 in
theorem kf_43 : kG 43 := kG_of (q := (C_X4_readSum, k_X4_readSum, f_X4_readSum, 4)) rfl ⟨mws_at (i := 61) rfl, rfl, ck_X4_readSum, Or.inl rfl⟩
set_option maxRecDepth 100000 in
theorem kf_44 : kG 44 := kG_of (q := (C_X4_readProduct, k_X4_readProduct, f_X4_readProduct, 4)) rfl ⟨mws_at (i := 62) rfl, rfl, ck_X4_readProduct, Or.inl rfl⟩
set_option maxRecDepth 100000 in
theorem kf_45 : kG 45 := kG_of (q := (C_X4_readUnit, k_X4_readUnit, f_X4_readUnit, 4)) rfl ⟨mws_at (i := 63) rfl, rfl, ck_X4_readUnit, Or.inl rfl⟩
set_option maxRecDepth 100000 in
theorem kf_46 : kG 46 := kG_of (q := (C_X4_takeFirst, k_X4_takeFirst, f_X4_takeFirst, 4)) rfl ⟨mws_at (i := 64) rfl, rfl, ck_X4_takeFirst, Or.inl rfl⟩
set_option maxRecDepth 100000 in
theorem kf_47 : kG 47 := kG_of (q := (C_X4_take, k_X4_take, f_X4_take, 4)) rfl ⟨mws_at (i := 65) rfl, rfl, ck_X4_take, Or.inr (Or.inl rfl)⟩
set_option maxRecDepth 100000 in
theorem kf_48 : kG 48 := kG_of (q := (C_X4_note, k_X4_note, f_X4_note, 4)) rfl ⟨mws_at (i := 66) rfl, rfl, ck_X4_note, Or.inl rfl⟩
set_option maxRecDepth 100000 in
theorem kf_49 : kG 49 := kG_of (q := (C_X4_addName, k_X4_addName, f_X4_addName, 4)) rfl ⟨mws_at (i := 67) rfl, rfl, ck_X4_addName, Or.inl rfl⟩
set_option maxRecDepth 100000 in
theorem kf_50 : kG 50 := kG_of (q := (C_X4_findName, k_X4_findName, f_X4_findName, 4)) rfl ⟨mws_at (i := 68) rfl, rfl, ck_X4_findName, Or.inr (Or.inl rfl)⟩
set_option maxRecDepth 100000 in
theorem kf_51 : kG 51 := kG_of (q := (C_X4_townAt, k_X4_townAt, f_X4_townAt, 4)) rfl ⟨mws_at (i := 69) rfl, rfl, ck_X4_townAt, Or.inr (Or.inl rfl)⟩
set_option maxRecDepth 100000 in
theorem kf_52 : kG 52 := kG_of (q := (C_X4_numberAt, k_X4_numberAt, f_X4_numberAt, 4)) rfl ⟨mws_at (i := 70) rfl, rfl, ck_X4_numberAt, Or.inr (Or.inl rfl)⟩
set_option maxRecDepth 100000 in
theorem kf_54 : kG 54 := kG_of (q := (C_X5_stitchCost, k_X5_stitchCost, f_X5_stitchCost, 5)) rfl ⟨mws_at (i := 71) rfl, rfl, ck_X5_stitchCost, Or.inr (Or.inl rfl)⟩
set_option maxRecDepth 100000 in
theorem kf_55 : kG 55 := kG_of (q := (C_X5_wear, k_X5_wear, f_X5_wear, 5)) rfl ⟨mws_at (i := 72) rfl, rfl, ck_X5_wear, Or.inr (Or.inl rfl)⟩
set_option maxRecDepth 100000 in
theorem kf_56 : kG 56 := kG_of (q := (C_X5_wayLong, k_X5_wayLong, f_X5_wayLong, 5)) rfl ⟨mws_at (i := 73) rfl, rfl, ck_X5_wayLong, Or.inr (Or.inl rfl)⟩
set_option maxRecDepth 100000 in
theorem kf_57 : kG 57 := kG_of (q := (C_X5_tollFor, k_X5_tollFor, f_X5_tollFor, 5)) rfl ⟨mws_at (i := 74) rfl, rfl, ck_X5_tollFor, Or.inr (Or.inl rfl)⟩
set_option maxRecDepth 100000 in
theorem kf_58 : kG 58 := kG_of (q := (C_X5_canStitch, k_X5_canStitch, f_X5_canStitch, 5)) rfl ⟨mws_at (i := 75) rfl, rfl, ck_X5_canStitch, Or.inr (Or.inr (Or.inr rfl))⟩
set_option maxRecDepth 100000 in
theorem kf_59 : kG 59 := kG_of (q := (C_X5_threadUpTo, k_X5_threadUpTo, f_X5_threadUpTo, 5)) rfl ⟨mws_at (i := 76) rfl, rfl, ck_X5_threadUpTo, Or.inr (Or.inl rfl)⟩
set_option maxRecDepth 100000 in
theorem kf_60 : kG 60 := kG_of (q := (C_X5_fillSetCosts, k_X5_fillSetCosts, f_X5_fillSetCosts, 5)) rfl ⟨mws_at (i := 77) rfl, rfl, ck_X5_fillSetCosts, Or.inl rfl⟩
set_option maxRecDepth 100000 in
theorem kf_61 : kG 61 := kG_of (q := (C_X5_look, k_X5_look, f_X5_look, 5)) rfl ⟨mws_at (i := 78) rfl, rfl, ck_X5_look, Or.inl rfl⟩
set_option maxRecDepth 100000 in
theorem kf_62 : kG 62 := kG_of (q := (C_X5_held, k_X5_held, f_X5_held, 5)) rfl ⟨mws_at (i := 1) rfl, rfl, ck_X5_held, Or.inr (Or.inl rfl)⟩
set_option maxRecDepth 100000 in
theorem kf_64 : kG 64 := kG_of (q := (C_X6_clear, k_X6_clear, f_X6_clear, 6)) rfl ⟨mws_at (i := 79) rfl, rfl, ck_X6_clear, Or.inl rfl⟩
set_option maxRecDepth 100000 in
theorem kf_65 : kG 65 := kG_of (q := (C_X6_addTold, k_X6_addTold, f_X6_addTold, 6)) rfl ⟨mws_at (i := 80) rfl, rfl, ck_X6_addTold, Or.inr (Or.inl rfl)⟩
set_option maxRecDepth 100000 in
theorem kf_66 : kG 66 := kG_of (q := (C_X6_measureCuts, k_X6_measureCuts, f_X6_measureCuts, 6)) rfl ⟨mws_at (i := 81) rfl, rfl, ck_X6_measureCuts, Or.inl rfl⟩
set_option maxRecDepth 100000 in
theorem kf_67 : kG 67 := kG_of (q := (C_X6_cutsKnownBy, k_X6_cutsKnownBy, f_X6_cutsKnownBy, 6)) rfl ⟨mws_at (i := 82) rfl, rfl, ck_X6_cutsKnownBy, Or.inr (Or.inl rfl)⟩
set_option maxRecDepth 100000 in
theorem kf_68 : kG 68 := kG_of (q := (C_X6_bestQuestion, k_X6_bestQuestion, f_X6_bestQuestion, 6)) rfl ⟨mws_at (i := 83) rfl, rfl, ck_X6_bestQuestion, Or.inr (Or.inl rfl)⟩
set_option maxRecDepth 100000 in
theorem kf_69 : kG 69 := kG_of (q := (C_X6_fits, k_X6_fits, f_X6_fits, 6)) rfl ⟨mws_at (i := 84) rfl, rfl, ck_X6_fits, Or.inr (Or.inr (Or.inr rfl))⟩
set_option maxRecDepth 100000 in
theorem kf_70 : kG 70 := kG_of (q := (C_X6_mostAlike, k_X6_mostAlike, f_X6_mostAlike, 6)) rfl ⟨mws_at (i := 85) rfl, rfl, ck_X6_mostAlike, Or.inr (Or.inl rfl)⟩
set_option maxRecDepth 100000 in
theorem kf_71 : kG 71 := kG_of (q := (C_X6_alike, k_X6_alike, f_X6_alike, 6)) rfl ⟨mws_at (i := 86) rfl, rfl, ck_X6_alike, Or.inr (Or.inl rfl)⟩
set_option maxRecDepth 100000 in
theorem kf_72 : kG 72 := kG_of (q := (C_X6_pairOf, k_X6_pairOf, f_X6_pairOf, 6)) rfl ⟨mws_at (i := 2) rfl, rfl, ck_X6_pairOf, Or.inr (Or.inl rfl)⟩
set_option maxRecDepth 100000 in
theorem kf_74 : kG 74 := kG_of (q := (C_X7_fillWays, k_X7_fillWays, f_X7_fillWays, 7)) rfl ⟨mws_at (i := 87) rfl, rfl, ck_X7_fillWays, Or.inl rfl⟩
set_option maxRecDepth 100000 in
theorem kf_75 : kG 75 := kG_of (q := (C_X7_passWeeks, k_X7_passWeeks, f_X7_passWeeks, 7)) rfl ⟨mws_at (i := 88) rfl, rfl, ck_X7_passWeeks, Or.inl rfl⟩
set_option maxRecDepth 100000 in
theorem kf_76 : kG 76 := kG_of (q := (C_X7_hasChance, k_X7_hasChance, f_X7_hasChance, 7)) rfl ⟨mws_at (i := 89) rfl, rfl, ck_X7_hasChance, Or.inr (Or.inr (Or.inr rfl))⟩
set_option maxRecDepth 100000 in
theorem kf_77 : kG 77 := kG_of (q := (C_X7_isFrost, k_X7_isFrost, f_X7_isFrost, 7)) rfl ⟨mws_at (i := 90) rfl, rfl, ck_X7_isFrost, Or.inr (Or.inr (Or.inr rfl))⟩
set_option maxRecDepth 100000 in
theorem kf_78 : kG 78 := kG_of (q := (C_X7_fillLives, k_X7_fillLives, f_X7_fillLives, 7)) rfl ⟨mws_at (i := 91) rfl, rfl, ck_X7_fillLives, Or.inl rfl⟩
set_option maxRecDepth 100000 in
theorem kf_79 : kG 79 := kG_of (q := (C_X7_seamsOutliving, k_X7_seamsOutliving, f_X7_seamsOutliving, 7)) rfl ⟨mws_at (i := 92) rfl, rfl, ck_X7_seamsOutliving, Or.inr (Or.inl rfl)⟩
set_option maxRecDepth 100000 in
theorem kf_80 : kG 80 := kG_of (q := (C_X7_bestToDouble, k_X7_bestToDouble, f_X7_bestToDouble, 7)) rfl ⟨mws_at (i := 93) rfl, rfl, ck_X7_bestToDouble, Or.inr (Or.inl rfl)⟩
set_option maxRecDepth 100000 in
theorem kf_81 : kG 81 := kG_of (q := (C_X7_lifeOf, k_X7_lifeOf, f_X7_lifeOf, 7)) rfl ⟨mws_at (i := 94) rfl, rfl, ck_X7_lifeOf, Or.inr (Or.inl rfl)⟩
set_option maxRecDepth 100000 in
theorem kf_82 : kG 82 := kG_of (q := (C_X7_moveCarts, k_X7_moveCarts, f_X7_moveCarts, 7)) rfl ⟨mws_at (i := 95) rfl, rfl, ck_X7_moveCarts, Or.inl rfl⟩
set_option maxRecDepth 100000 in
theorem kf_83 : kG 83 := kG_of (q := (C_X7_moveCart, k_X7_moveCart, f_X7_moveCart, 7)) rfl ⟨mws_at (i := 96) rfl, rfl, ck_X7_moveCart, Or.inl rfl⟩
set_option maxRecDepth 100000 in
theorem kf_84 : kG 84 := kG_of (q := (C_X7_nextSeam, k_X7_nextSeam, f_X7_nextSeam, 7)) rfl ⟨mws_at (i := 97) rfl, rfl, ck_X7_nextSeam, Or.inr (Or.inl rfl)⟩
set_option maxRecDepth 100000 in
theorem kf_85 : kG 85 := kG_of (q := (C_X7_otherEnd, k_X7_otherEnd, f_X7_otherEnd, 7)) rfl ⟨mws_at (i := 98) rfl, rfl, ck_X7_otherEnd, Or.inr (Or.inl rfl)⟩
set_option maxRecDepth 100000 in
theorem kf_86 : kG 86 := kG_of (q := (C_X7_wearSeams, k_X7_wearSeams, f_X7_wearSeams, 7)) rfl ⟨mws_at (i := 99) rfl, rfl, ck_X7_wearSeams, Or.inl rfl⟩
set_option maxRecDepth 100000 in
theorem kf_87 : kG 87 := kG_of (q := (C_X7_lotOfHundred, k_X7_lotOfHundred, f_X7_lotOfHundred, 7)) rfl ⟨mws_at (i := 3) rfl, rfl, ck_X7_lotOfHundred, Or.inr (Or.inl rfl)⟩
set_option maxRecDepth 100000 in
theorem kf_88 : kG 88 := kG_of (q := (C_X7_mixed, k_X7_mixed, f_X7_mixed, 7)) rfl ⟨mws_at (i := 4) rfl, rfl, ck_X7_mixed, Or.inr (Or.inl rfl)⟩
set_option maxRecDepth 100000 in
theorem kf_90 : kG 90 := kG_of (q := (C_X8_begin, k_X8_begin, f_X8_begin, 8)) rfl ⟨mws_at (i := 100) rfl, rfl, ck_X8_begin, Or.inl rfl⟩
set_option maxRecDepth 100000 in
theorem kf_91 : kG 91 := kG_of (q := (C_X8_copyFrom, k_X8_copyFrom, f_X8_copyFrom, 8)) rfl ⟨mws_at (i := 101) rfl, rfl, ck_X8_copyFrom, Or.inl rfl⟩
set_option maxRecDepth 100000 in
theorem kf_92 : kG 92 := kG_of (q := (C_X8_cartField, k_X8_cartField, f_X8_cartField, 8)) rfl ⟨mws_at (i := 102) rfl, rfl, ck_X8_cartField, Or.inr (Or.inl rfl)⟩
set_option maxRecDepth 100000 in
theorem kf_93 : kG 93 := kG_of (q := (C_X8_setCartField, k_X8_setCartField, f_X8_setCartField, 8)) rfl ⟨mws_at (i := 103) rfl, rfl, ck_X8_setCartField, Or.inl rfl⟩
set_option maxRecDepth 100000 in
theorem kf_94 : kG 94 := kG_of (q := (C_X8_addToCartField, k_X8_addToCartField, f_X8_addToCartField, 8)) rfl ⟨mws_at (i := 104) rfl, rfl, ck_X8_addToCartField, Or.inl rfl⟩
set_option maxRecDepth 100000 in
theorem kf_95 : kG 95 := kG_of (q := (C_X8_isOnRoad, k_X8_isOnRoad, f_X8_isOnRoad, 8)) rfl ⟨mws_at (i := 105) rfl, rfl, ck_X8_isOnRoad, Or.inr (Or.inr (Or.inr rfl))⟩
set_option maxRecDepth 100000 in
theorem kf_96 : kG 96 := kG_of (q := (C_X8_wholeSeams, k_X8_wholeSeams, f_X8_wholeSeams, 8)) rfl ⟨mws_at (i := 106) rfl, rfl, ck_X8_wholeSeams, Or.inr (Or.inl rfl)⟩
set_option maxRecDepth 100000 in
theorem kf_97 : kG 97 := kG_of (q := (C_X8_cartsOnRoad, k_X8_cartsOnRoad, f_X8_cartsOnRoad, 8)) rfl ⟨mws_at (i := 107) rfl, rfl, ck_X8_cartsOnRoad, Or.inr (Or.inl rfl)⟩
set_option maxRecDepth 100000 in
theorem kf_98 : kG 98 := kG_of (q := (C_X8_sewnTogether, k_X8_sewnTogether, f_X8_sewnTogether, 8)) rfl ⟨mws_at (i := 108) rfl, rfl, ck_X8_sewnTogether, Or.inr (Or.inl rfl)⟩
set_option maxRecDepth 100000 in
theorem kf_99 : kG 99 := kG_of (q := (C_X8_evenLevel, k_X8_evenLevel, f_X8_evenLevel, 8)) rfl ⟨mws_at (i := 109) rfl, rfl, ck_X8_evenLevel, Or.inr (Or.inl rfl)⟩
set_option maxRecDepth 100000 in
theorem kf_101 : kG 101 := kG_of (q := (C_X9_hasRoomFor, k_X9_hasRoomFor, f_X9_hasRoomFor, 9)) rfl ⟨mws_at (i := 110) rfl, rfl, ck_X9_hasRoomFor, Or.inr (Or.inr (Or.inr rfl))⟩
set_option maxRecDepth 100000 in
theorem kf_102 : kG 102 := kG_of (q := (C_X9_append, k_X9_append, f_X9_append, 9)) rfl ⟨mws_at (i := 111) rfl, rfl, ck_X9_append, Or.inl rfl⟩
set_option maxRecDepth 100000 in
theorem kf_103 : kG 103 := kG_of (q := (C_X9_byteAt, k_X9_byteAt, f_X9_byteAt, 9)) rfl ⟨mws_at (i := 112) rfl, rfl, ck_X9_byteAt, Or.inr (Or.inl rfl)⟩
set_option maxRecDepth 100000 in
theorem kf_105 : kG 105 := kG_of (q := (C_X10_kindOf, k_X10_kindOf, f_X10_kindOf, 10)) rfl ⟨mws_at (i := 113) rfl, rfl, ck_X10_kindOf, Or.inr (Or.inl rfl)⟩
set_option maxRecDepth 100000 in
theorem kf_106 : kG 106 := kG_of (q := (C_X10_startOf, k_X10_startOf, f_X10_startOf, 10)) rfl ⟨mws_at (i := 114) rfl, rfl, ck_X10_startOf, Or.inr (Or.inl rfl)⟩
set_option maxRecDepth 100000 in
theorem kf_107 : kG 107 := kG_of (q := (C_X10_valueOf, k_X10_valueOf, f_X10_valueOf, 10)) rfl ⟨mws_at (i := 115) rfl, rfl, ck_X10_valueOf, Or.inr (Or.inr (Or.inl rfl))⟩
set_option maxRecDepth 100000 in
theorem kf_108 : kG 108 := kG_of (q := (C_X10_scan, k_X10_scan, f_X10_scan, 10)) rfl ⟨mws_at (i := 116) rfl, rfl, ck_X10_scan, Or.inl rfl⟩
set_option maxRecDepth 100000 in
theorem kf_109 : kG 109 := kG_of (q := (C_X10_scanOne, k_X10_scanOne, f_X10_scanOne, 10)) rfl ⟨mws_at (i := 117) rfl, rfl, ck_X10_scanOne, Or.inr (Or.inl rfl)⟩
set_option maxRecDepth 100000 in
theorem kf_110 : kG 110 := kG_of (q := (C_X10_scanLetters, k_X10_scanLetters, f_X10_scanLetters, 10)) rfl ⟨mws_at (i := 118) rfl, rfl, ck_X10_scanLetters, Or.inr (Or.inl rfl)⟩
set_option maxRecDepth 100000 in
theorem kf_111 : kG 111 := kG_of (q := (C_X10_scanDigits, k_X10_scanDigits, f_X10_scanDigits, 10)) rfl ⟨mws_at (i := 119) rfl, rfl, ck_X10_scanDigits, Or.inr (Or.inl rfl)⟩
set_option maxRecDepth 100000 in
theorem kf_112 : kG 112 := kG_of (q := (C_X10_sortOfLetters, k_X10_sortOfLetters, f_X10_sortOfLetters, 10)) rfl ⟨mws_at (i := 120) rfl, rfl, ck_X10_sortOfLetters, Or.inr (Or.inl rfl)⟩
set_option maxRecDepth 100000 in
theorem kf_113 : kG 113 := kG_of (q := (C_X10_add, k_X10_add, f_X10_add, 10)) rfl ⟨mws_at (i := 121) rfl, rfl, ck_X10_add, Or.inl rfl⟩
set_option maxRecDepth 100000 in
theorem kf_114 : kG 114 := kG_of (q := (C_X10_afterBlanks, k_X10_afterBlanks, f_X10_afterBlanks, 10)) rfl ⟨mws_at (i := 5) rfl, rfl, ck_X10_afterBlanks, Or.inr (Or.inl rfl)⟩
set_option maxRecDepth 100000 in
theorem kf_115 : kG 115 := kG_of (q := (C_X10_withLetter, k_X10_withLetter, f_X10_withLetter, 10)) rfl ⟨mws_at (i := 6) rfl, rfl, ck_X10_withLetter, Or.inr (Or.inr (Or.inl rfl))⟩
set_option maxRecDepth 100000 in
theorem kf_116 : kG 116 := kG_of (q := (C_X10_isBlank, k_X10_isBlank, f_X10_isBlank, 10)) rfl ⟨mws_at (i := 7) rfl, rfl, ck_X10_isBlank, Or.inr (Or.inr (Or.inr rfl))⟩
set_option maxRecDepth 100000 in
theorem kf_117 : kG 117 := kG_of (q := (C_X10_isLetter, k_X10_isLetter, f_X10_isLetter, 10)) rfl ⟨mws_at (i := 8) rfl, rfl, ck_X10_isLetter, Or.inr (Or.inr (Or.inr rfl))⟩
set_option maxRecDepth 100000 in
theorem kf_118 : kG 118 := kG_of (q := (C_X10_isDigit, k_X10_isDigit, f_X10_isDigit, 10)) rfl ⟨mws_at (i := 9) rfl, rfl, ck_X10_isDigit, Or.inr (Or.inr (Or.inr rfl))⟩
set_option maxRecDepth 100000 in
theorem kf_120 : kG 120 := kG_of (q := (C_X11_feed, k_X11_feed, f_X11_feed, 11)) rfl ⟨mws_at (i := 122) rfl, rfl, ck_X11_feed, Or.inr (Or.inl rfl)⟩
set_option maxRecDepth 100000 in
theorem kf_121 : kG 121 := kG_of (q := (C_X11_back, k_X11_back, f_X11_back, 11)) rfl ⟨mws_at (i := 123) rfl, rfl, ck_X11_back, Or.inr (Or.inl rfl)⟩
set_option maxRecDepth 100000 in
theorem kf_122 : kG 122 := kG_of (q := (C_X11_read, k_X11_read, f_X11_read, 11)) rfl ⟨mws_at (i := 124) rfl, rfl, ck_X11_read, Or.inr (Or.inl rfl)⟩
set_option maxRecDepth 100000 in
theorem kf_123 : kG 123 := kG_of (q := (C_X11_place, k_X11_place, f_X11_place, 11)) rfl ⟨mws_at (i := 125) rfl, rfl, ck_X11_place, Or.inr (Or.inl rfl)⟩
set_option maxRecDepth 100000 in
theorem kf_124 : kG 124 := kG_of (q := (C_X11_seam, k_X11_seam, f_X11_seam, 11)) rfl ⟨mws_at (i := 126) rfl, rfl, ck_X11_seam, Or.inr (Or.inl rfl)⟩
set_option maxRecDepth 100000 in
theorem kf_125 : kG 125 := kG_of (q := (C_X11_cart, k_X11_cart, f_X11_cart, 11)) rfl ⟨mws_at (i := 127) rfl, rfl, ck_X11_cart, Or.inr (Or.inl rfl)⟩
set_option maxRecDepth 100000 in
theorem kf_126 : kG 126 := kG_of (q := (C_X11_toll, k_X11_toll, f_X11_toll, 11)) rfl ⟨mws_at (i := 128) rfl, rfl, ck_X11_toll, Or.inr (Or.inl rfl)⟩
set_option maxRecDepth 100000 in
theorem kf_127 : kG 127 := kG_of (q := (C_X11_sew, k_X11_sew, f_X11_sew, 11)) rfl ⟨mws_at (i := 129) rfl, rfl, ck_X11_sew, Or.inr (Or.inl rfl)⟩
set_option maxRecDepth 100000 in
theorem kf_128 : kG 128 := kG_of (q := (C_X11_cut, k_X11_cut, f_X11_cut, 11)) rfl ⟨mws_at (i := 130) rfl, rfl, ck_X11_cut, Or.inr (Or.inl rfl)⟩
set_option maxRecDepth 100000 in
theorem kf_129 : kG 129 := kG_of (q := (C_X11_unpick, k_X11_unpick, f_X11_unpick, 11)) rfl ⟨mws_at (i := 131) rfl, rfl, ck_X11_unpick, Or.inr (Or.inl rfl)⟩
set_option maxRecDepth 100000 in
theorem kf_130 : kG 130 := kG_of (q := (C_X11_send, k_X11_send, f_X11_send, 11)) rfl ⟨mws_at (i := 132) rfl, rfl, ck_X11_send, Or.inr (Or.inr (Or.inr rfl))⟩
set_option maxRecDepth 100000 in
theorem kf_131 : kG 131 := kG_of (q := (C_X11_weeks, k_X11_weeks, f_X11_weeks, 11)) rfl ⟨mws_at (i := 133) rfl, rfl, ck_X11_weeks, Or.inr (Or.inl rfl)⟩
set_option maxRecDepth 100000 in
theorem kf_132 : kG 132 := kG_of (q := (C_X11_undo, k_X11_undo, f_X11_undo, 11)) rfl ⟨mws_at (i := 134) rfl, rfl, ck_X11_undo, Or.inr (Or.inr (Or.inr rfl))⟩
set_option maxRecDepth 100000 in
theorem kf_133 : kG 133 := kG_of (q := (C_X11_far, k_X11_far, f_X11_far, 11)) rfl ⟨mws_at (i := 135) rfl, rfl, ck_X11_far, Or.inr (Or.inl rfl)⟩
set_option maxRecDepth 100000 in
theorem kf_134 : kG 134 := kG_of (q := (C_X11_hops, k_X11_hops, f_X11_hops, 11)) rfl ⟨mws_at (i := 136) rfl, rfl, ck_X11_hops, Or.inr (Or.inl rfl)⟩
set_option maxRecDepth 100000 in
theorem kf_135 : kG 135 := kG_of (q := (C_X11_joined, k_X11_joined, f_X11_joined, 11)) rfl ⟨mws_at (i := 137) rfl, rfl, ck_X11_joined, Or.inr (Or.inl rfl)⟩
set_option maxRecDepth 100000 in
theorem kf_136 : kG 136 := kG_of (q := (C_X11_hangs, k_X11_hangs, f_X11_hangs, 11)) rfl ⟨mws_at (i := 138) rfl, rfl, ck_X11_hangs, Or.inr (Or.inl rfl)⟩
set_option maxRecDepth 100000 in
theorem kf_137 : kG 137 := kG_of (q := (C_X11_takes, k_X11_takes, f_X11_takes, 11)) rfl ⟨mws_at (i := 139) rfl, rfl, ck_X11_takes, Or.inr (Or.inl rfl)⟩
set_option maxRecDepth 100000 in
theorem kf_138 : kG 138 := kG_of (q := (C_X11_sewing, k_X11_sewing, f_X11_sewing, 11)) rfl ⟨mws_at (i := 140) rfl, rfl, ck_X11_sewing, Or.inr (Or.inl rfl)⟩
set_option maxRecDepth 100000 in
theorem kf_139 : kG 139 := kG_of (q := (C_X11_surest, k_X11_surest, f_X11_surest, 11)) rfl ⟨mws_at (i := 141) rfl, rfl, ck_X11_surest, Or.inr (Or.inl rfl)⟩
set_option maxRecDepth 100000 in
theorem kf_140 : kG 140 := kG_of (q := (C_X11_soon, k_X11_soon, f_X11_soon, 11)) rfl ⟨mws_at (i := 142) rfl, rfl, ck_X11_soon, Or.inr (Or.inl rfl)⟩
set_option maxRecDepth 100000 in
theorem kf_141 : kG 141 := kG_of (q := (C_X11_holds, k_X11_holds, f_X11_holds, 11)) rfl ⟨mws_at (i := 143) rfl, rfl, ck_X11_holds, Or.inr (Or.inl rfl)⟩
set_option maxRecDepth 100000 in
theorem kf_142 : kG 142 := kG_of (q := (C_X11_rows, k_X11_rows, f_X11_rows, 11)) rfl ⟨mws_at (i := 144) rfl, rfl, ck_X11_rows, Or.inr (Or.inl rfl)⟩
set_option maxRecDepth 100000 in
theorem kf_143 : kG 143 := kG_of (q := (C_X11_march, k_X11_march, f_X11_march, 11)) rfl ⟨mws_at (i := 145) rfl, rfl, ck_X11_march, Or.inr (Or.inl rfl)⟩
set_option maxRecDepth 100000 in
theorem kf_144 : kG 144 := kG_of (q := (C_X11_doubles, k_X11_doubles, f_X11_doubles, 11)) rfl ⟨mws_at (i := 146) rfl, rfl, ck_X11_doubles, Or.inr (Or.inl rfl)⟩
set_option maxRecDepth 100000 in
theorem kf_145 : kG 145 := kG_of (q := (C_X11_then, k_X11_then, f_X11_then, 11)) rfl ⟨mws_at (i := 147) rfl, rfl, ck_X11_then, Or.inr (Or.inl rfl)⟩
set_option maxRecDepth 100000 in
theorem kf_146 : kG 146 := kG_of (q := (C_X11_cartIn, k_X11_cartIn, f_X11_cartIn, 11)) rfl ⟨mws_at (i := 148) rfl, rfl, ck_X11_cartIn, Or.inr (Or.inl rfl)⟩
set_option maxRecDepth 100000 in
theorem kf_147 : kG 147 := kG_of (q := (C_X11_year, k_X11_year, f_X11_year, 11)) rfl ⟨mws_at (i := 149) rfl, rfl, ck_X11_year, Or.inr (Or.inl rfl)⟩
set_option maxRecDepth 100000 in
theorem kf_148 : kG 148 := kG_of (q := (C_X11_tell, k_X11_tell, f_X11_tell, 11)) rfl ⟨mws_at (i := 150) rfl, rfl, ck_X11_tell, Or.inr (Or.inl rfl)⟩
set_option maxRecDepth 100000 in
theorem kf_149 : kG 149 := kG_of (q := (C_X11_forget, k_X11_forget, f_X11_forget, 11)) rfl ⟨mws_at (i := 151) rfl, rfl, ck_X11_forget, Or.inr (Or.inl rfl)⟩
set_option maxRecDepth 100000 in
theorem kf_150 : kG 150 := kG_of (q := (C_X11_cuts, k_X11_cuts, f_X11_cuts, 11)) rfl ⟨mws_at (i := 152) rfl, rfl, ck_X11_cuts, Or.inr (Or.inl rfl)⟩
set_option maxRecDepth 100000 in
theorem kf_151 : kG 151 := kG_of (q := (C_X11_ask, k_X11_ask, f_X11_ask, 11)) rfl ⟨mws_at (i := 153) rfl, rfl, ck_X11_ask, Or.inr (Or.inl rfl)⟩
set_option maxRecDepth 100000 in
theorem kf_152 : kG 152 := kG_of (q := (C_X11_hold, k_X11_hold, f_X11_hold, 11)) rfl ⟨mws_at (i := 154) rfl, rfl, ck_X11_hold, Or.inr (Or.inr (Or.inr rfl))⟩
set_option maxRecDepth 100000 in
theorem kf_153 : kG 153 := kG_of (q := (C_X11_restore, k_X11_restore, f_X11_restore, 11)) rfl ⟨mws_at (i := 155) rfl, rfl, ck_X11_restore, Or.inr (Or.inr (Or.inr rfl))⟩
set_option maxRecDepth 100000 in
theorem kf_154 : kG 154 := kG_of (q := (C_X11_count, k_X11_count, f_X11_count, 11)) rfl ⟨mws_at (i := 156) rfl, rfl, ck_X11_count, Or.inr (Or.inl rfl)⟩
set_option maxRecDepth 100000 in
theorem kf_155 : kG 155 := kG_of (q := (C_X11_emptySlots, k_X11_emptySlots, f_X11_emptySlots, 11)) rfl ⟨mws_at (i := 157) rfl, rfl, ck_X11_emptySlots, Or.inl rfl⟩
set_option maxRecDepth 100000 in
theorem kf_156 : kG 156 := kG_of (q := (C_X11_heldSlots, k_X11_heldSlots, f_X11_heldSlots, 11)) rfl ⟨mws_at (i := 158) rfl, rfl, ck_X11_heldSlots, Or.inr (Or.inl rfl)⟩
set_option maxRecDepth 100000 in
theorem kf_157 : kG 157 := kG_of (q := (C_X11_lookAhead, k_X11_lookAhead, f_X11_lookAhead, 11)) rfl ⟨mws_at (i := 159) rfl, rfl, ck_X11_lookAhead, Or.inl rfl⟩
set_option maxRecDepth 100000 in
theorem kf_158 : kG 158 := kG_of (q := (C_X11_staysJoined, k_X11_staysJoined, f_X11_staysJoined, 11)) rfl ⟨mws_at (i := 160) rfl, rfl, ck_X11_staysJoined, Or.inr (Or.inr (Or.inr rfl))⟩
set_option maxRecDepth 100000 in
theorem kf_159 : kG 159 := kG_of (q := (C_X11_possibleCuts, k_X11_possibleCuts, f_X11_possibleCuts, 11)) rfl ⟨mws_at (i := 161) rfl, rfl, ck_X11_possibleCuts, Or.inr (Or.inl rfl)⟩
set_option maxRecDepth 100000 in
theorem kf_160 : kG 160 := kG_of (q := (C_X11_isTown, k_X11_isTown, f_X11_isTown, 11)) rfl ⟨mws_at (i := 162) rfl, rfl, ck_X11_isTown, Or.inr (Or.inr (Or.inr rfl))⟩
set_option maxRecDepth 100000 in
theorem kf_161 : kG 161 := kG_of (q := (C_X11_areTwoTowns, k_X11_areTwoTowns, f_X11_areTwoTowns, 11)) rfl ⟨mws_at (i := 163) rfl, rfl, ck_X11_areTwoTowns, Or.inr (Or.inr (Or.inr rfl))⟩
set_option maxRecDepth 100000 in
theorem kf_162 : kG 162 := kG_of (q := (C_X11_isSeam, k_X11_isSeam, f_X11_isSeam, 11)) rfl ⟨mws_at (i := 164) rfl, rfl, ck_X11_isSeam, Or.inr (Or.inr (Or.inr rfl))⟩
set_option maxRecDepth 100000 in
theorem kf_163 : kG 163 := kG_of (q := (C_X11_isCart, k_X11_isCart, f_X11_isCart, 11)) rfl ⟨mws_at (i := 165) rfl, rfl, ck_X11_isCart, Or.inr (Or.inr (Or.inr rfl))⟩
set_option maxRecDepth 100000 in
theorem kf_164 : kG 164 := kG_of (q := (C_X11_within, k_X11_within, f_X11_within, 11)) rfl ⟨mws_at (i := 10) rfl, rfl, ck_X11_within, Or.inr (Or.inr (Or.inr rfl))⟩
set_option maxRecDepth 100000 in
theorem kf_165 : kG 165 := kG_of (q := (C_X11_hasBit, k_X11_hasBit, f_X11_hasBit, 11)) rfl ⟨mws_at (i := 11) rfl, rfl, ck_X11_hasBit, Or.inr (Or.inr (Or.inr rfl))⟩
set_option maxRecDepth 100000 in
theorem kf_167 : kG 167 := kG_of (q := (C_X12_feed, k_X12_feed, f_X12_feed, 12)) rfl ⟨mws_at (i := 166) rfl, rfl, ck_X12_feed, Or.inr (Or.inl rfl)⟩
set_option maxRecDepth 100000 in
theorem kf_168 : kG 168 := kG_of (q := (C_X12_put, k_X12_put, f_X12_put, 12)) rfl ⟨mws_at (i := 167) rfl, rfl, ck_X12_put, Or.inl rfl⟩
set_option maxRecDepth 100000 in
theorem kf_169 : kG 169 := kG_of (q := (C_X12_back, k_X12_back, f_X12_back, 12)) rfl ⟨mws_at (i := 168) rfl, rfl, ck_X12_back, Or.inr (Or.inl rfl)⟩
set_option maxRecDepth 100000 in
theorem kf_170 : kG 170 := kG_of (q := (C_X12_byteAt, k_X12_byteAt, f_X12_byteAt, 12)) rfl ⟨mws_at (i := 169) rfl, rfl, ck_X12_byteAt, Or.inr (Or.inl rfl)⟩
set_option maxRecDepth 100000 in
theorem kf_171 : kG 171 := kG_of (q := (C_X12_isDigit, k_X12_isDigit, f_X12_isDigit, 12)) rfl ⟨mws_at (i := 12) rfl, rfl, ck_X12_isDigit, Or.inr (Or.inr (Or.inr rfl))⟩
set_option maxRecDepth 100000 in
theorem kf_172 : kG 172 := kG_of (q := (C_X12_isLetter, k_X12_isLetter, f_X12_isLetter, 12)) rfl ⟨mws_at (i := 13) rfl, rfl, ck_X12_isLetter, Or.inr (Or.inr (Or.inr rfl))⟩
set_option maxRecDepth 100000 in
theorem kf_173 : kG 173 := kG_of (q := (C_X12_appends, k_X12_appends, f_X12_appends, 12)) rfl ⟨mws_at (i := 14) rfl, rfl, ck_X12_appends, Or.inr (Or.inr (Or.inl rfl))⟩
set_option maxRecDepth 100000 in
theorem kf_174 : kG 174 := kG_of (q := (C_X12_word, k_X12_word, f_X12_word, 12)) rfl ⟨mws_at (i := 15) rfl, rfl, ck_X12_word, Or.inr (Or.inr (Or.inl rfl))⟩
set_option maxRecDepth 100000 in
theorem kf_175 : kG 175 := kG_of (q := (C_X12_token, k_X12_token, f_X12_token, 12)) rfl ⟨mws_at (i := 170) rfl, rfl, ck_X12_token, Or.inl rfl⟩
set_option maxRecDepth 100000 in
theorem kf_176 : kG 176 := kG_of (q := (C_X12_cutsUp, k_X12_cutsUp, f_X12_cutsUp, 12)) rfl ⟨mws_at (i := 171) rfl, rfl, ck_X12_cutsUp, Or.inl rfl⟩
set_option maxRecDepth 100000 in
theorem kf_177 : kG 177 := kG_of (q := (C_X12_sign, k_X12_sign, f_X12_sign, 12)) rfl ⟨mws_at (i := 172) rfl, rfl, ck_X12_sign, Or.inr (Or.inl rfl)⟩
set_option maxRecDepth 100000 in
theorem kf_178 : kG 178 := kG_of (q := (C_X12_is, k_X12_is, f_X12_is, 12)) rfl ⟨mws_at (i := 173) rfl, rfl, ck_X12_is, Or.inr (Or.inr (Or.inr rfl))⟩
set_option maxRecDepth 100000 in
theorem kf_179 : kG 179 := kG_of (q := (C_X12_fail, k_X12_fail, f_X12_fail, 12)) rfl ⟨mws_at (i := 174) rfl, rfl, ck_X12_fail, Or.inl rfl⟩
set_option maxRecDepth 100000 in
theorem kf_180 : kG 180 := kG_of (q := (C_X12_wrong, k_X12_wrong, f_X12_wrong, 12)) rfl ⟨mws_at (i := 175) rfl, rfl, ck_X12_wrong, Or.inl rfl⟩
set_option maxRecDepth 100000 in
theorem kf_181 : kG 181 := kG_of (q := (C_X12_goesOn, k_X12_goesOn, f_X12_goesOn, 12)) rfl ⟨mws_at (i := 176) rfl, rfl, ck_X12_goesOn, Or.inl rfl⟩
set_option maxRecDepth 100000 in
theorem kf_182 : kG 182 := kG_of (q := (C_X12_must, k_X12_must, f_X12_must, 12)) rfl ⟨mws_at (i := 177) rfl, rfl, ck_X12_must, Or.inl rfl⟩
set_option maxRecDepth 100000 in
theorem kf_183 : kG 183 := kG_of (q := (C_X12_plain, k_X12_plain, f_X12_plain, 12)) rfl ⟨mws_at (i := 178) rfl, rfl, ck_X12_plain, Or.inl rfl⟩
set_option maxRecDepth 100000 in
theorem kf_184 : kG 184 := kG_of (q := (C_X12_read, k_X12_read, f_X12_read, 12)) rfl ⟨mws_at (i := 179) rfl, rfl, ck_X12_read, Or.inr (Or.inl rfl)⟩
set_option maxRecDepth 100000 in
theorem kf_185 : kG 185 := kG_of (q := (C_X12_place, k_X12_place, f_X12_place, 12)) rfl ⟨mws_at (i := 180) rfl, rfl, ck_X12_place, Or.inr (Or.inl rfl)⟩
set_option maxRecDepth 100000 in
theorem kf_186 : kG 186 := kG_of (q := (C_X12_roomFor, k_X12_roomFor, f_X12_roomFor, 12)) rfl ⟨mws_at (i := 181) rfl, rfl, ck_X12_roomFor, Or.inl rfl⟩
set_option maxRecDepth 100000 in
theorem kf_187 : kG 187 := kG_of (q := (C_X12_toldInt, k_X12_toldInt, f_X12_toldInt, 12)) rfl ⟨mws_at (i := 182) rfl, rfl, ck_X12_toldInt, Or.inr (Or.inl rfl)⟩
set_option maxRecDepth 100000 in
theorem kf_188 : kG 188 := kG_of (q := (C_X12_tellOne, k_X12_tellOne, f_X12_tellOne, 12)) rfl ⟨mws_at (i := 183) rfl, rfl, ck_X12_tellOne, Or.inl rfl⟩
set_option maxRecDepth 100000 in
theorem kf_189 : kG 189 := kG_of (q := (C_X12_named, k_X12_named, f_X12_named, 12)) rfl ⟨mws_at (i := 184) rfl, rfl, ck_X12_named, Or.inr (Or.inl rfl)⟩
set_option maxRecDepth 100000 in
theorem kf_190 : kG 190 := kG_of (q := (C_X12_ends, k_X12_ends, f_X12_ends, 12)) rfl ⟨mws_at (i := 185) rfl, rfl, ck_X12_ends, Or.inl rfl⟩
set_option maxRecDepth 100000 in
theorem kf_191 : kG 191 := kG_of (q := (C_X12_knownTown, k_X12_knownTown, f_X12_knownTown, 12)) rfl ⟨mws_at (i := 186) rfl, rfl, ck_X12_knownTown, Or.inr (Or.inl rfl)⟩
set_option maxRecDepth 100000 in
theorem kf_192 : kG 192 := kG_of (q := (C_X12_bounded, k_X12_bounded, f_X12_bounded, 12)) rfl ⟨mws_at (i := 187) rfl, rfl, ck_X12_bounded, Or.inr (Or.inl rfl)⟩
set_option maxRecDepth 100000 in
theorem kf_193 : kG 193 := kG_of (q := (C_X12_hasSeam, k_X12_hasSeam, f_X12_hasSeam, 12)) rfl ⟨mws_at (i := 188) rfl, rfl, ck_X12_hasSeam, Or.inr (Or.inr (Or.inr rfl))⟩
set_option maxRecDepth 100000 in
theorem kf_194 : kG 194 := kG_of (q := (C_X12_tellSeam, k_X12_tellSeam, f_X12_tellSeam, 12)) rfl ⟨mws_at (i := 189) rfl, rfl, ck_X12_tellSeam, Or.inl rfl⟩
set_option maxRecDepth 100000 in
theorem kf_195 : kG 195 := kG_of (q := (C_X12_tellCart, k_X12_tellCart, f_X12_tellCart, 12)) rfl ⟨mws_at (i := 190) rfl, rfl, ck_X12_tellCart, Or.inl rfl⟩
set_option maxRecDepth 100000 in
theorem kf_196 : kG 196 := kG_of (q := (C_X12_tellLaw, k_X12_tellLaw, f_X12_tellLaw, 12)) rfl ⟨mws_at (i := 191) rfl, rfl, ck_X12_tellLaw, Or.inl rfl⟩
set_option maxRecDepth 100000 in
theorem kf_197 : kG 197 := kG_of (q := (C_X12_term, k_X12_term, f_X12_term, 12)) rfl ⟨mws_at (i := 192) rfl, rfl, ck_X12_term, Or.inl rfl⟩
set_option maxRecDepth 100000 in
theorem kf_198 : kG 198 := kG_of (q := (C_X12_emit, k_X12_emit, f_X12_emit, 12)) rfl ⟨mws_at (i := 193) rfl, rfl, ck_X12_emit, Or.inl rfl⟩
set_option maxRecDepth 100000 in
theorem kf_199 : kG 199 := kG_of (q := (C_X12_comesOut, k_X12_comesOut, f_X12_comesOut, 12)) rfl ⟨mws_at (i := 194) rfl, rfl, ck_X12_comesOut, Or.inl rfl⟩
set_option maxRecDepth 100000 in
theorem kf_200 : kG 200 := kG_of (q := (C_X12_expression, k_X12_expression, f_X12_expression, 12)) rfl ⟨mws_at (i := 195) rfl, rfl, ck_X12_expression, Or.inl rfl⟩
set_option maxRecDepth 100000 in
theorem kf_201 : kG 201 := kG_of (q := (C_X12_unit, k_X12_unit, f_X12_unit, 12)) rfl ⟨mws_at (i := 196) rfl, rfl, ck_X12_unit, Or.inl rfl⟩
set_option maxRecDepth 100000 in
theorem kf_202 : kG 202 := kG_of (q := (C_X12_termOf, k_X12_termOf, f_X12_termOf, 12)) rfl ⟨mws_at (i := 197) rfl, rfl, ck_X12_termOf, Or.inr (Or.inl rfl)⟩
set_option maxRecDepth 100000 in
theorem kf_203 : kG 203 := kG_of (q := (C_X12_in, k_X12_in, f_X12_in, 12)) rfl ⟨mws_at (i := 16) rfl, rfl, ck_X12_in, Or.inr (Or.inr (Or.inr rfl))⟩
set_option maxRecDepth 100000 in
theorem kf_204 : kG 204 := kG_of (q := (C_X12_held, k_X12_held, f_X12_held, 12)) rfl ⟨mws_at (i := 17) rfl, rfl, ck_X12_held, Or.inr (Or.inl rfl)⟩
set_option maxRecDepth 100000 in
theorem kf_205 : kG 205 := kG_of (q := (C_X12_isTown, k_X12_isTown, f_X12_isTown, 12)) rfl ⟨mws_at (i := 198) rfl, rfl, ck_X12_isTown, Or.inr (Or.inr (Or.inr rfl))⟩
set_option maxRecDepth 100000 in
theorem kf_206 : kG 206 := kG_of (q := (C_X12_isSeam, k_X12_isSeam, f_X12_isSeam, 12)) rfl ⟨mws_at (i := 199) rfl, rfl, ck_X12_isSeam, Or.inr (Or.inr (Or.inr rfl))⟩
set_option maxRecDepth 100000 in
theorem kf_207 : kG 207 := kG_of (q := (C_X12_isCart, k_X12_isCart, f_X12_isCart, 12)) rfl ⟨mws_at (i := 200) rfl, rfl, ck_X12_isCart, Or.inr (Or.inr (Or.inr rfl))⟩
set_option maxRecDepth 100000 in
theorem kf_208 : kG 208 := kG_of (q := (C_X12_begins, k_X12_begins, f_X12_begins, 12)) rfl ⟨mws_at (i := 201) rfl, rfl, ck_X12_begins, Or.inl rfl⟩
set_option maxRecDepth 100000 in
theorem kf_209 : kG 209 := kG_of (q := (C_X12_keepsRow, k_X12_keepsRow, f_X12_keepsRow, 12)) rfl ⟨mws_at (i := 202) rfl, rfl, ck_X12_keepsRow, Or.inl rfl⟩
set_option maxRecDepth 100000 in
theorem kf_210 : kG 210 := kG_of (q := (C_X12_copies, k_X12_copies, f_X12_copies, 12)) rfl ⟨mws_at (i := 203) rfl, rfl, ck_X12_copies, Or.inl rfl⟩
set_option maxRecDepth 100000 in
theorem kf_211 : kG 211 := kG_of (q := (C_X12_mixed, k_X12_mixed, f_X12_mixed, 12)) rfl ⟨mws_at (i := 18) rfl, rfl, ck_X12_mixed, Or.inr (Or.inl rfl)⟩
set_option maxRecDepth 100000 in
theorem kf_212 : kG 212 := kG_of (q := (C_X12_isFrost, k_X12_isFrost, f_X12_isFrost, 12)) rfl ⟨mws_at (i := 204) rfl, rfl, ck_X12_isFrost, Or.inr (Or.inr (Or.inr rfl))⟩
set_option maxRecDepth 100000 in
theorem kf_213 : kG 213 := kG_of (q := (C_X12_waysAt, k_X12_waysAt, f_X12_waysAt, 12)) rfl ⟨mws_at (i := 205) rfl, rfl, ck_X12_waysAt, Or.inr (Or.inl rfl)⟩
set_option maxRecDepth 100000 in
theorem kf_214 : kG 214 := kG_of (q := (C_X12_looks, k_X12_looks, f_X12_looks, 12)) rfl ⟨mws_at (i := 206) rfl, rfl, ck_X12_looks, Or.inl rfl⟩
set_option maxRecDepth 100000 in
theorem kf_215 : kG 215 := kG_of (q := (C_X12_asks, k_X12_asks, f_X12_asks, 12)) rfl ⟨mws_at (i := 207) rfl, rfl, ck_X12_asks, Or.inr (Or.inl rfl)⟩
set_option maxRecDepth 100000 in
theorem kf_216 : kG 216 := kG_of (q := (C_X12_lawTells, k_X12_lawTells, f_X12_lawTells, 12)) rfl ⟨mws_at (i := 208) rfl, rfl, ck_X12_lawTells, Or.inr (Or.inl rfl)⟩
set_option maxRecDepth 100000 in
theorem kf_217 : kG 217 := kG_of (q := (C_X12_costsNow, k_X12_costsNow, f_X12_costsNow, 12)) rfl ⟨mws_at (i := 209) rfl, rfl, ck_X12_costsNow, Or.inr (Or.inl rfl)⟩
set_option maxRecDepth 100000 in
theorem kf_218 : kG 218 := kG_of (q := (C_X12_wearsNow, k_X12_wearsNow, f_X12_wearsNow, 12)) rfl ⟨mws_at (i := 210) rfl, rfl, ck_X12_wearsNow, Or.inr (Or.inl rfl)⟩
set_option maxRecDepth 100000 in
theorem kf_219 : kG 219 := kG_of (q := (C_X12_wayOf, k_X12_wayOf, f_X12_wayOf, 12)) rfl ⟨mws_at (i := 211) rfl, rfl, ck_X12_wayOf, Or.inr (Or.inl rfl)⟩
set_option maxRecDepth 100000 in
theorem kf_220 : kG 220 := kG_of (q := (C_X12_tollOf, k_X12_tollOf, f_X12_tollOf, 12)) rfl ⟨mws_at (i := 212) rfl, rfl, ck_X12_tollOf, Or.inr (Or.inl rfl)⟩
set_option maxRecDepth 100000 in
theorem kf_221 : kG 221 := kG_of (q := (C_X12_fillsWays, k_X12_fillsWays, f_X12_fillsWays, 12)) rfl ⟨mws_at (i := 213) rfl, rfl, ck_X12_fillsWays, Or.inl rfl⟩
set_option maxRecDepth 100000 in
theorem kf_222 : kG 222 := kG_of (q := (C_X12_fillsFar, k_X12_fillsFar, f_X12_fillsFar, 12)) rfl ⟨mws_at (i := 214) rfl, rfl, ck_X12_fillsFar, Or.inl rfl⟩
set_option maxRecDepth 100000 in
theorem kf_223 : kG 223 := kG_of (q := (C_X12_areJoined, k_X12_areJoined, f_X12_areJoined, 12)) rfl ⟨mws_at (i := 215) rfl, rfl, ck_X12_areJoined, Or.inr (Or.inr (Or.inr rfl))⟩
set_option maxRecDepth 100000 in
theorem kf_224 : kG 224 := kG_of (q := (C_X12_otherEnd, k_X12_otherEnd, f_X12_otherEnd, 12)) rfl ⟨mws_at (i := 216) rfl, rfl, ck_X12_otherEnd, Or.inr (Or.inl rfl)⟩
set_option maxRecDepth 100000 in
theorem kf_225 : kG 225 := kG_of (q := (C_X12_roadOf, k_X12_roadOf, f_X12_roadOf, 12)) rfl ⟨mws_at (i := 217) rfl, rfl, ck_X12_roadOf, Or.inr (Or.inl rfl)⟩
set_option maxRecDepth 100000 in
theorem kf_226 : kG 226 := kG_of (q := (C_X12_cartGoes, k_X12_cartGoes, f_X12_cartGoes, 12)) rfl ⟨mws_at (i := 218) rfl, rfl, ck_X12_cartGoes, Or.inl rfl⟩
set_option maxRecDepth 100000 in
theorem kf_227 : kG 227 := kG_of (q := (C_X12_weekGoes, k_X12_weekGoes, f_X12_weekGoes, 12)) rfl ⟨mws_at (i := 219) rfl, rfl, ck_X12_weekGoes, Or.inl rfl⟩
set_option maxRecDepth 100000 in
theorem kf_228 : kG 228 := kG_of (q := (C_X12_goes, k_X12_goes, f_X12_goes, 12)) rfl ⟨mws_at (i := 220) rfl, rfl, ck_X12_goes, Or.inl rfl⟩
set_option maxRecDepth 100000 in
theorem kf_229 : kG 229 := kG_of (q := (C_X12_seam, k_X12_seam, f_X12_seam, 12)) rfl ⟨mws_at (i := 221) rfl, rfl, ck_X12_seam, Or.inr (Or.inl rfl)⟩
set_option maxRecDepth 100000 in
theorem kf_230 : kG 230 := kG_of (q := (C_X12_cart, k_X12_cart, f_X12_cart, 12)) rfl ⟨mws_at (i := 222) rfl, rfl, ck_X12_cart, Or.inr (Or.inl rfl)⟩
set_option maxRecDepth 100000 in
theorem kf_231 : kG 231 := kG_of (q := (C_X12_toll, k_X12_toll, f_X12_toll, 12)) rfl ⟨mws_at (i := 223) rfl, rfl, ck_X12_toll, Or.inr (Or.inl rfl)⟩
set_option maxRecDepth 100000 in
theorem kf_232 : kG 232 := kG_of (q := (C_X12_records, k_X12_records, f_X12_records, 12)) rfl ⟨mws_at (i := 224) rfl, rfl, ck_X12_records, Or.inl rfl⟩
set_option maxRecDepth 100000 in
theorem kf_233 : kG 233 := kG_of (q := (C_X12_sew, k_X12_sew, f_X12_sew, 12)) rfl ⟨mws_at (i := 225) rfl, rfl, ck_X12_sew, Or.inr (Or.inl rfl)⟩
set_option maxRecDepth 100000 in
theorem kf_234 : kG 234 := kG_of (q := (C_X12_cut, k_X12_cut, f_X12_cut, 12)) rfl ⟨mws_at (i := 226) rfl, rfl, ck_X12_cut, Or.inr (Or.inl rfl)⟩
set_option maxRecDepth 100000 in
theorem kf_235 : kG 235 := kG_of (q := (C_X12_unpick, k_X12_unpick, f_X12_unpick, 12)) rfl ⟨mws_at (i := 227) rfl, rfl, ck_X12_unpick, Or.inr (Or.inl rfl)⟩
set_option maxRecDepth 100000 in
theorem kf_236 : kG 236 := kG_of (q := (C_X12_send, k_X12_send, f_X12_send, 12)) rfl ⟨mws_at (i := 228) rfl, rfl, ck_X12_send, Or.inr (Or.inr (Or.inr rfl))⟩
set_option maxRecDepth 100000 in
theorem kf_237 : kG 237 := kG_of (q := (C_X12_weeks, k_X12_weeks, f_X12_weeks, 12)) rfl ⟨mws_at (i := 229) rfl, rfl, ck_X12_weeks, Or.inr (Or.inl rfl)⟩
set_option maxRecDepth 100000 in
theorem kf_238 : kG 238 := kG_of (q := (C_X12_undo, k_X12_undo, f_X12_undo, 12)) rfl ⟨mws_at (i := 230) rfl, rfl, ck_X12_undo, Or.inr (Or.inr (Or.inr rfl))⟩
set_option maxRecDepth 100000 in
theorem kf_239 : kG 239 := kG_of (q := (C_X12_far, k_X12_far, f_X12_far, 12)) rfl ⟨mws_at (i := 231) rfl, rfl, ck_X12_far, Or.inr (Or.inl rfl)⟩
set_option maxRecDepth 100000 in
theorem kf_240 : kG 240 := kG_of (q := (C_X12_hops, k_X12_hops, f_X12_hops, 12)) rfl ⟨mws_at (i := 232) rfl, rfl, ck_X12_hops, Or.inr (Or.inl rfl)⟩
set_option maxRecDepth 100000 in
theorem kf_241 : kG 241 := kG_of (q := (C_X12_joinedTo, k_X12_joinedTo, f_X12_joinedTo, 12)) rfl ⟨mws_at (i := 233) rfl, rfl, ck_X12_joinedTo, Or.inr (Or.inl rfl)⟩
set_option maxRecDepth 100000 in
theorem kf_242 : kG 242 := kG_of (q := (C_X12_joined, k_X12_joined, f_X12_joined, 12)) rfl ⟨mws_at (i := 234) rfl, rfl, ck_X12_joined, Or.inr (Or.inl rfl)⟩
set_option maxRecDepth 100000 in
theorem kf_243 : kG 243 := kG_of (q := (C_X12_hangs, k_X12_hangs, f_X12_hangs, 12)) rfl ⟨mws_at (i := 235) rfl, rfl, ck_X12_hangs, Or.inr (Or.inl rfl)⟩
set_option maxRecDepth 100000 in
theorem kf_244 : kG 244 := kG_of (q := (C_X12_takesNow, k_X12_takesNow, f_X12_takesNow, 12)) rfl ⟨mws_at (i := 236) rfl, rfl, ck_X12_takesNow, Or.inr (Or.inl rfl)⟩
set_option maxRecDepth 100000 in
theorem kf_245 : kG 245 := kG_of (q := (C_X12_isSewn, k_X12_isSewn, f_X12_isSewn, 12)) rfl ⟨mws_at (i := 19) rfl, rfl, ck_X12_isSewn, Or.inr (Or.inr (Or.inr rfl))⟩
set_option maxRecDepth 100000 in
theorem kf_246 : kG 246 := kG_of (q := (C_X12_takes, k_X12_takes, f_X12_takes, 12)) rfl ⟨mws_at (i := 237) rfl, rfl, ck_X12_takes, Or.inr (Or.inl rfl)⟩
set_option maxRecDepth 100000 in
theorem kf_247 : kG 247 := kG_of (q := (C_X12_joinsAll, k_X12_joinsAll, f_X12_joinsAll, 12)) rfl ⟨mws_at (i := 238) rfl, rfl, ck_X12_joinsAll, Or.inr (Or.inr (Or.inr rfl))⟩
set_option maxRecDepth 100000 in
theorem kf_248 : kG 248 := kG_of (q := (C_X12_sewing, k_X12_sewing, f_X12_sewing, 12)) rfl ⟨mws_at (i := 239) rfl, rfl, ck_X12_sewing, Or.inr (Or.inl rfl)⟩
set_option maxRecDepth 100000 in
theorem kf_249 : kG 249 := kG_of (q := (C_X12_surest, k_X12_surest, f_X12_surest, 12)) rfl ⟨mws_at (i := 240) rfl, rfl, ck_X12_surest, Or.inr (Or.inl rfl)⟩
set_option maxRecDepth 100000 in
theorem kf_250 : kG 250 := kG_of (q := (C_X12_soon, k_X12_soon, f_X12_soon, 12)) rfl ⟨mws_at (i := 241) rfl, rfl, ck_X12_soon, Or.inr (Or.inl rfl)⟩
set_option maxRecDepth 100000 in
theorem kf_251 : kG 251 := kG_of (q := (C_X12_holdsFor, k_X12_holdsFor, f_X12_holdsFor, 12)) rfl ⟨mws_at (i := 242) rfl, rfl, ck_X12_holdsFor, Or.inr (Or.inl rfl)⟩
set_option maxRecDepth 100000 in
theorem kf_252 : kG 252 := kG_of (q := (C_X12_holds, k_X12_holds, f_X12_holds, 12)) rfl ⟨mws_at (i := 243) rfl, rfl, ck_X12_holds, Or.inr (Or.inl rfl)⟩
set_option maxRecDepth 100000 in
theorem kf_253 : kG 253 := kG_of (q := (C_X12_wholeAt, k_X12_wholeAt, f_X12_wholeAt, 12)) rfl ⟨mws_at (i := 244) rfl, rfl, ck_X12_wholeAt, Or.inr (Or.inl rfl)⟩
set_option maxRecDepth 100000 in
theorem kf_254 : kG 254 := kG_of (q := (C_X12_rows, k_X12_rows, f_X12_rows, 12)) rfl ⟨mws_at (i := 245) rfl, rfl, ck_X12_rows, Or.inr (Or.inl rfl)⟩
set_option maxRecDepth 100000 in
theorem kf_255 : kG 255 := kG_of (q := (C_X12_isLong, k_X12_isLong, f_X12_isLong, 12)) rfl ⟨mws_at (i := 20) rfl, rfl, ck_X12_isLong, Or.inr (Or.inr (Or.inr rfl))⟩
set_option maxRecDepth 100000 in
theorem kf_256 : kG 256 := kG_of (q := (C_X12_march, k_X12_march, f_X12_march, 12)) rfl ⟨mws_at (i := 246) rfl, rfl, ck_X12_march, Or.inr (Or.inl rfl)⟩
set_option maxRecDepth 100000 in
theorem kf_257 : kG 257 := kG_of (q := (C_X12_doubles, k_X12_doubles, f_X12_doubles, 12)) rfl ⟨mws_at (i := 247) rfl, rfl, ck_X12_doubles, Or.inr (Or.inl rfl)⟩
set_option maxRecDepth 100000 in
theorem kf_258 : kG 258 := kG_of (q := (C_X12_then, k_X12_then, f_X12_then, 12)) rfl ⟨mws_at (i := 248) rfl, rfl, ck_X12_then, Or.inr (Or.inl rfl)⟩
set_option maxRecDepth 100000 in
theorem kf_259 : kG 259 := kG_of (q := (C_X12_cartIn, k_X12_cartIn, f_X12_cartIn, 12)) rfl ⟨mws_at (i := 249) rfl, rfl, ck_X12_cartIn, Or.inr (Or.inl rfl)⟩
set_option maxRecDepth 100000 in
theorem kf_260 : kG 260 := kG_of (q := (C_X12_year, k_X12_year, f_X12_year, 12)) rfl ⟨mws_at (i := 250) rfl, rfl, ck_X12_year, Or.inr (Or.inl rfl)⟩
set_option maxRecDepth 100000 in
theorem kf_261 : kG 261 := kG_of (q := (C_X12_tell, k_X12_tell, f_X12_tell, 12)) rfl ⟨mws_at (i := 251) rfl, rfl, ck_X12_tell, Or.inr (Or.inl rfl)⟩
set_option maxRecDepth 100000 in
theorem kf_262 : kG 262 := kG_of (q := (C_X12_forget, k_X12_forget, f_X12_forget, 12)) rfl ⟨mws_at (i := 252) rfl, rfl, ck_X12_forget, Or.inr (Or.inl rfl)⟩
set_option maxRecDepth 100000 in
theorem kf_263 : kG 263 := kG_of (q := (C_X12_wayBetween, k_X12_wayBetween, f_X12_wayBetween, 12)) rfl ⟨mws_at (i := 253) rfl, rfl, ck_X12_wayBetween, Or.inr (Or.inl rfl)⟩
set_option maxRecDepth 100000 in
theorem kf_264 : kG 264 := kG_of (q := (C_X12_cutsOne, k_X12_cutsOne, f_X12_cutsOne, 12)) rfl ⟨mws_at (i := 254) rfl, rfl, ck_X12_cutsOne, Or.inl rfl⟩
set_option maxRecDepth 100000 in
theorem kf_265 : kG 265 := kG_of (q := (C_X12_cutBits, k_X12_cutBits, f_X12_cutBits, 12)) rfl ⟨mws_at (i := 255) rfl, rfl, ck_X12_cutBits, Or.inr (Or.inl rfl)⟩
set_option maxRecDepth 100000 in
theorem kf_266 : kG 266 := kG_of (q := (C_X12_bits, k_X12_bits, f_X12_bits, 12)) rfl ⟨mws_at (i := 21) rfl, rfl, ck_X12_bits, Or.inr (Or.inl rfl)⟩
set_option maxRecDepth 100000 in
theorem kf_267 : kG 267 := kG_of (q := (C_X12_cuts, k_X12_cuts, f_X12_cuts, 12)) rfl ⟨mws_at (i := 256) rfl, rfl, ck_X12_cuts, Or.inr (Or.inl rfl)⟩
set_option maxRecDepth 100000 in
theorem kf_268 : kG 268 := kG_of (q := (C_X12_worstOf, k_X12_worstOf, f_X12_worstOf, 12)) rfl ⟨mws_at (i := 257) rfl, rfl, ck_X12_worstOf, Or.inr (Or.inl rfl)⟩
set_option maxRecDepth 100000 in
theorem kf_269 : kG 269 := kG_of (q := (C_X12_ask, k_X12_ask, f_X12_ask, 12)) rfl ⟨mws_at (i := 258) rfl, rfl, ck_X12_ask, Or.inr (Or.inl rfl)⟩
set_option maxRecDepth 100000 in
theorem kf_270 : kG 270 := kG_of (q := (C_X12_hold, k_X12_hold, f_X12_hold, 12)) rfl ⟨mws_at (i := 259) rfl, rfl, ck_X12_hold, Or.inr (Or.inr (Or.inr rfl))⟩
set_option maxRecDepth 100000 in
theorem kf_271 : kG 271 := kG_of (q := (C_X12_restore, k_X12_restore, f_X12_restore, 12)) rfl ⟨mws_at (i := 260) rfl, rfl, ck_X12_restore, Or.inr (Or.inr (Or.inr rfl))⟩
set_option maxRecDepth 100000 in
theorem kf_272 : kG 272 := kG_of (q := (C_X12_count, k_X12_count, f_X12_count, 12)) rfl ⟨mws_at (i := 261) rfl, rfl, ck_X12_count, Or.inr (Or.inl rfl)⟩
set_option maxRecDepth 100000 in
theorem kf_276 : kG 276 := kG_of (q := (C_J6_bitCount_0f7a4, k_J6_bitCount_0f7a4, f_J6_bitCount_0f7a4, 15)) rfl ⟨mws_at (i := 22) rfl, rfl, ck_J6_bitCount_0f7a4, Or.inr (Or.inl rfl)⟩
set_option maxRecDepth 100000 in
theorem kf_300 : kG 300 := kG_of (q := (C_J7_fill_53178, k_J7_fill_53178, f_J7_fill_53178, 14)) rfl ⟨mws_at (i := 23) rfl, rfl, ck_J7_fill_53178, Or.inl rfl⟩
theorem kr_0 : ∀ i, i < 20 → kG (0 + i) := by
  intro i h
  match i, h with
  | 0, _ => exact kG_no rfl
  | 1, _ => exact kf_1
  | 2, _ => exact kf_2
  | 3, _ => exact kf_3
  | 4, _ => exact kf_4
  | 5, _ => exact kf_5
  | 6, _ => exact kf_6
  | 7, _ => exact kf_7
  | 8, _ => exact kf_8
  | 9, _ => exact kf_9
  | 10, _ => exact kG_no rfl
  | 11, _ => exact kf_11
  | 12, _ => exact kf_12
  | 13, _ => exact kf_13
  | 14, _ => exact kf_14
  | 15, _ => exact kf_15
  | 16, _ => exact kf_16
  | 17, _ => exact kf_17
  | 18, _ => exact kf_18
  | 19, _ => exact kf_19
  | n + 20, h => exact absurd h (by omega)
theorem kr_1 : ∀ i, i < 20 → kG (20 + i) := by
  intro i h
  match i, h with
  | 0, _ => exact kf_20
  | 1, _ => exact kf_21
  | 2, _ => exact kf_22
  | 3, _ => exact kG_no rfl
  | 4, _ => exact kf_24
  | 5, _ => exact kf_25
  | 6, _ => exact kf_26
  | 7, _ => exact kG_no rfl
  | 8, _ => exact kf_28
  | 9, _ => exact kf_29
  | 10, _ => exact kf_30
  | 11, _ => exact kf_31
  | 12, _ => exact kf_32
  | 13, _ => exact kf_33
  | 14, _ => exact kG_no rfl
  | 15, _ => exact kf_35
  | 16, _ => exact kf_36
  | 17, _ => exact kf_37
  | 18, _ => exact kf_38
  | 19, _ => exact kf_39
  | n + 20, h => exact absurd h (by omega)
theorem kr_2 : ∀ i, i < 20 → kG (40 + i) := by
  intro i h
  match i, h with
  | 0, _ => exact kf_40
  | 1, _ => exact kf_41
  | 2, _ => exact kf_42
  | 3, _ => exact kf_43
  | 4, _ => exact kf_44
  | 5, _ => exact kf_45
  | 6, _ => exact kf_46
  | 7, _ => exact kf_47
  | 8, _ => exact kf_48
  | 9, _ => exact kf_49
  | 10, _ => exact kf_50
  | 11, _ => exact kf_51
  | 12, _ => exact kf_52
  | 13, _ => exact kG_no rfl
  | 14, _ => exact kf_54
  | 15, _ => exact kf_55
  | 16, _ => exact kf_56
  | 17, _ => exact kf_57
  | 18, _ => exact kf_58
  | 19, _ => exact kf_59
  | n + 20, h => exact absurd h (by omega)
theorem kr_3 : ∀ i, i < 20 → kG (60 + i) := by
  intro i h
  match i, h with
  | 0, _ => exact kf_60
  | 1, _ => exact kf_61
  | 2, _ => exact kf_62
  | 3, _ => exact kG_no rfl
  | 4, _ => exact kf_64
  | 5, _ => exact kf_65
  | 6, _ => exact kf_66
  | 7, _ => exact kf_67
  | 8, _ => exact kf_68
  | 9, _ => exact kf_69
  | 10, _ => exact kf_70
  | 11, _ => exact kf_71
  | 12, _ => exact kf_72
  | 13, _ => exact kG_no rfl
  | 14, _ => exact kf_74
  | 15, _ => exact kf_75
  | 16, _ => exact kf_76
  | 17, _ => exact kf_77
  | 18, _ => exact kf_78
  | 19, _ => exact kf_79
  | n + 20, h => exact absurd h (by omega)
theorem kr_4 : ∀ i, i < 20 → kG (80 + i) := by
  intro i h
  match i, h with
  | 0, _ => exact kf_80
  | 1, _ => exact kf_81
  | 2, _ => exact kf_82
  | 3, _ => exact kf_83
  | 4, _ => exact kf_84
  | 5, _ => exact kf_85
  | 6, _ => exact kf_86
  | 7, _ => exact kf_87
  | 8, _ => exact kf_88
  | 9, _ => exact kG_no rfl
  | 10, _ => exact kf_90
  | 11, _ => exact kf_91
  | 12, _ => exact kf_92
  | 13, _ => exact kf_93
  | 14, _ => exact kf_94
  | 15, _ => exact kf_95
  | 16, _ => exact kf_96
  | 17, _ => exact kf_97
  | 18, _ => exact kf_98
  | 19, _ => exact kf_99
  | n + 20, h => exact absurd h (by omega)
theorem kr_5 : ∀ i, i < 20 → kG (100 + i) := by
  intro i h
  match i, h with
  | 0, _ => exact kG_no rfl
  | 1, _ => exact kf_101
  | 2, _ => exact kf_102
  | 3, _ => exact kf_103
  | 4, _ => exact kG_no rfl
  | 5, _ => exact kf_105
  | 6, _ => exact kf_106
  | 7, _ => exact kf_107
  | 8, _ => exact kf_108
  | 9, _ => exact kf_109
  | 10, _ => exact kf_110
  | 11, _ => exact kf_111
  | 12, _ => exact kf_112
  | 13, _ => exact kf_113
  | 14, _ => exact kf_114
  | 15, _ => exact kf_115
  | 16, _ => exact kf_116
  | 17, _ => exact kf_117
  | 18, _ => exact kf_118
  | 19, _ => exact kG_no rfl
  | n + 20, h => exact absurd h (by omega)
theorem kr_6 : ∀ i, i < 20 → kG (120 + i) := by
  intro i h
  match i, h with
  | 0, _ => exact kf_120
  | 1, _ => exact kf_121
  | 2, _ => exact kf_122
  | 3, _ => exact kf_123
  | 4, _ => exact kf_124
  | 5, _ => exact kf_125
  | 6, _ => exact kf_126
  | 7, _ => exact kf_127
  | 8, _ => exact kf_128
  | 9, _ => exact kf_129
  | 10, _ => exact kf_130
  | 11, _ => exact kf_131
  | 12, _ => exact kf_132
  | 13, _ => exact kf_133
  | 14, _ => exact kf_134
  | 15, _ => exact kf_135
  | 16, _ => exact kf_136
  | 17, _ => exact kf_137
  | 18, _ => exact kf_138
  | 19, _ => exact kf_139
  | n + 20, h => exact absurd h (by omega)
theorem kr_7 : ∀ i, i < 20 → kG (140 + i) := by
  intro i h
  match i, h with
  | 0, _ => exact kf_140
  | 1, _ => exact kf_141
  | 2, _ => exact kf_142
  | 3, _ => exact kf_143
  | 4, _ => exact kf_144
  | 5, _ => exact kf_145
  | 6, _ => exact kf_146
  | 7, _ => exact kf_147
  | 8, _ => exact kf_148
  | 9, _ => exact kf_149
  | 10, _ => exact kf_150
  | 11, _ => exact kf_151
  | 12, _ => exact kf_152
  | 13, _ => exact kf_153
  | 14, _ => exact kf_154
  | 15, _ => exact kf_155
  | 16, _ => exact kf_156
  | 17, _ => exact kf_157
  | 18, _ => exact kf_158
  | 19, _ => exact kf_159
  | n + 20, h => exact absurd h (by omega)
theorem kr_8 : ∀ i, i < 20 → kG (160 + i) := by
  intro i h
  match i, h with
  | 0, _ => exact kf_160
  | 1, _ => exact kf_161
  | 2, _ => exact kf_162
  | 3, _ => exact kf_163
  | 4, _ => exact kf_164
  | 5, _ => exact kf_165
  | 6, _ => exact kG_no rfl
  | 7, _ => exact kf_167
  | 8, _ => exact kf_168
  | 9, _ => exact kf_169
  | 10, _ => exact kf_170
  | 11, _ => exact kf_171
  | 12, _ => exact kf_172
  | 13, _ => exact kf_173
  | 14, _ => exact kf_174
  | 15, _ => exact kf_175
  | 16, _ => exact kf_176
  | 17, _ => exact kf_177
  | 18, _ => exact kf_178
  | 19, _ => exact kf_179
  | n + 20, h => exact absurd h (by omega)
theorem kr_9 : ∀ i, i < 20 → kG (180 + i) := by
  intro i h
  match i, h with
  | 0, _ => exact kf_180
  | 1, _ => exact kf_181
  | 2, _ => exact kf_182
  | 3, _ => exact kf_183
  | 4, _ => exact kf_184
  | 5, _ => exact kf_185
  | 6, _ => exact kf_186
  | 7, _ => exact kf_187
  | 8, _ => exact kf_188
  | 9, _ => exact kf_189
  | 10, _ => exact kf_190
  | 11, _ => exact kf_191
  | 12, _ => exact kf_192
  | 13, _ => exact kf_193
  | 14, _ => exact kf_194
  | 15, _ => exact kf_195
  | 16, _ => exact kf_196
  | 17, _ => exact kf_197
  | 18, _ => exact kf_198
  | 19, _ => exact kf_199
  | n + 20, h => exact absurd h (by omega)
theorem kr_10 : ∀ i, i < 20 → kG (200 + i) := by
  intro i h
  match i, h with
  | 0, _ => exact kf_200
  | 1, _ => exact kf_201
  | 2, _ => exact kf_202
  | 3, _ => exact kf_203
  | 4, _ => exact kf_204
  | 5, _ => exact kf_205
  | 6, _ => exact kf_206
  | 7, _ => exact kf_207
  | 8, _ => exact kf_208
  | 9, _ => exact kf_209
  | 10, _ => exact kf_210
  | 11, _ => exact kf_211
  | 12, _ => exact kf_212
  | 13, _ => exact kf_213
  | 14, _ => exact kf_214
  | 15, _ => exact kf_215
  | 16, _ => exact kf_216
  | 17, _ => exact kf_217
  | 18, _ => exact kf_218
  | 19, _ => exact kf_219
  | n + 20, h => exact absurd h (by omega)
theorem kr_11 : ∀ i, i < 20 → kG (220 + i) := by
  intro i h
  match i, h with
  | 0, _ => exact kf_220
  | 1, _ => exact kf_221
  | 2, _ => exact kf_222
  | 3, _ => exact kf_223
  | 4, _ => exact kf_224
  | 5, _ => exact kf_225
  | 6, _ => exact kf_226
  | 7, _ => exact kf_227
  | 8, _ => exact kf_228
  | 9, _ => exact kf_229
  | 10, _ => exact kf_230
  | 11, _ => exact kf_231
  | 12, _ => exact kf_232
  | 13, _ => exact kf_233
  | 14, _ => exact kf_234
  | 15, _ => exact kf_235
  | 16, _ => exact kf_236
  | 17, _ => exact kf_237
  | 18, _ => exact kf_238
  | 19, _ => exact kf_239
  | n + 20, h => exact absurd h (by omega)
theorem kr_12 : ∀ i, i < 20 → kG (240 + i) := by
  intro i h
  match i, h with
  | 0, _ => exact kf_240
  | 1, _ => exact kf_241
  | 2, _ => exact kf_242
  | 3, _ => exact kf_243
  | 4, _ => exact kf_244
  | 5, _ => exact kf_245
  | 6, _ => exact kf_246
  | 7, _ => exact kf_247
  | 8, _ => exact kf_248
  | 9, _ => exact kf_249
  | 10, _ => exact kf_250
  | 11, _ => exact kf_251
  | 12, _ => exact kf_252
  | 13, _ => exact kf_253
  | 14, _ => exact kf_254
  | 15, _ => exact kf_255
  | 16, _ => exact kf_256
  | 17, _ => exact kf_257
  | 18, _ => exact kf_258
  | 19, _ => exact kf_259
  | n + 20, h => exact absurd h (by omega)
theorem kr_13 : ∀ i, i < 20 → kG (260 + i) := by
  intro i h
  match i, h with
  | 0, _ => exact kf_260
  | 1, _ => exact kf_261
  | 2, _ => exact kf_262
  | 3, _ => exact kf_263
  | 4, _ => exact kf_264
  | 5, _ => exact kf_265
  | 6, _ => exact kf_266
  | 7, _ => exact kf_267
  | 8, _ => exact kf_268
  | 9, _ => exact kf_269
  | 10, _ => exact kf_270
  | 11, _ => exact kf_271
  | 12, _ => exact kf_272
  | 13, _ => exact kG_no rfl
  | 14, _ => exact kG_no rfl
  | 15, _ => exact kG_no rfl
  | 16, _ => exact kf_276
  | 17, _ => exact kG_no rfl
  | 18, _ => exact kG_no rfl
  | 19, _ => exact kG_no rfl
  | n + 20, h => exact absurd h (by omega)
theorem kr_14 : ∀ i, i < 20 → kG (280 + i) := by
  intro i h
  match i, h with
  | 0, _ => exact kG_no rfl
  | 1, _ => exact kG_no rfl
  | 2, _ => exact kG_no rfl
  | 3, _ => exact kG_no rfl
  | 4, _ => exact kG_no rfl
  | 5, _ => exact kG_no rfl
  | 6, _ => exact kG_no rfl
  | 7, _ => exact kG_no rfl
  | 8, _ => exact kG_no rfl
  | 9, _ => exact kG_no rfl
  | 10, _ => exact kG_no rfl
  | 11, _ => exact kG_no rfl
  | 12, _ => exact kG_no rfl
  | 13, _ => exact kG_no rfl
  | 14, _ => exact kG_no rfl
  | 15, _ => exact kG_no rfl
  | 16, _ => exact kG_no rfl
  | 17, _ => exact kG_no rfl
  | 18, _ => exact kG_no rfl
  | 19, _ => exact kG_no rfl
  | n + 20, h => exact absurd h (by omega)
theorem kr_15 : ∀ i, i < 1 → kG (300 + i) := by
  intro i h
  match i, h with
  | 0, _ => exact kf_300
  | n + 1, h => exact absurd h (by omega)
theorem k_all (y : Nat) : kG y := by
  by_cases hy : y < 301
  · have hc : (0 ≤ y ∧ y < 20) ∨ (20 ≤ y ∧ y < 40) ∨ (40 ≤ y ∧ y < 60) ∨ (60 ≤ y ∧ y < 80) ∨ (80 ≤ y ∧ y < 100) ∨ (100 ≤ y ∧ y < 120) ∨ (120 ≤ y ∧ y < 140) ∨ (140 ≤ y ∧ y < 160) ∨ (160 ≤ y ∧ y < 180) ∨ (180 ≤ y ∧ y < 200) ∨ (200 ≤ y ∧ y < 220) ∨ (220 ≤ y ∧ y < 240) ∨ (240 ≤ y ∧ y < 260) ∨ (260 ≤ y ∧ y < 280) ∨ (280 ≤ y ∧ y < 300) ∨ (300 ≤ y ∧ y < 301) := by omega
    rcases hc with h | h | h | h | h | h | h | h | h | h | h | h | h | h | h | h
    · obtain ⟨i, rfl⟩ : ∃ i, y = 0 + i := ⟨y - 0, by omega⟩
      exact kr_0 i (by omega)
    · obtain ⟨i, rfl⟩ : ∃ i, y = 20 + i := ⟨y - 20, by omega⟩
      exact kr_1 i (by omega)
    · obtain ⟨i, rfl⟩ : ∃ i, y = 40 + i := ⟨y - 40, by omega⟩
      exact kr_2 i (by omega)
    · obtain ⟨i, rfl⟩ : ∃ i, y = 60 + i := ⟨y - 60, by omega⟩
      exact kr_3 i (by omega)
    · obtain ⟨i, rfl⟩ : ∃ i, y = 80 + i := ⟨y - 80, by omega⟩
      exact kr_4 i (by omega)
    · obtain ⟨i, rfl⟩ : ∃ i, y = 100 + i := ⟨y - 100, by omega⟩
      exact kr_5 i (by omega)
    · obtain ⟨i, rfl⟩ : ∃ i, y = 120 + i := ⟨y - 120, by omega⟩
      exact kr_6 i (by omega)
    · obtain ⟨i, rfl⟩ : ∃ i, y = 140 + i := ⟨y - 140, by omega⟩
      exact kr_7 i (by omega)
    · obtain ⟨i, rfl⟩ : ∃ i, y = 160 + i := ⟨y - 160, by omega⟩
      exact kr_8 i (by omega)
    · obtain ⟨i, rfl⟩ : ∃ i, y = 180 + i := ⟨y - 180, by omega⟩
      exact kr_9 i (by omega)
    · obtain ⟨i, rfl⟩ : ∃ i, y = 200 + i := ⟨y - 200, by omega⟩
      exact kr_10 i (by omega)
    · obtain ⟨i, rfl⟩ : ∃ i, y = 220 + i := ⟨y - 220, by omega⟩
      exact kr_11 i (by omega)
    · obtain ⟨i, rfl⟩ : ∃ i, y = 240 + i := ⟨y - 240, by omega⟩
      exact kr_12 i (by omega)
    · obtain ⟨i, rfl⟩ : ∃ i, y = 260 + i := ⟨y - 260, by omega⟩
      exact kr_13 i (by omega)
    · obtain ⟨i, rfl⟩ : ∃ i, y = 280 + i := ⟨y - 280, by omega⟩
      exact kr_14 i (by omega)
    · obtain ⟨i, rfl⟩ : ∃ i, y = 300 + i := ⟨y - 300, by omega⟩
      exact kr_15 i (by omega)
  · exact kG_no (by unfold cte; rw [if_neg hy])
def EV : Nat → Ora := Nat.rec (fun _ _ _ _ => none) (fun _ ih T y as ij => match cte y with
  | none => none
  | some q => p_bif (decide ((p_slots as).length ≤ mL y)) (runS ih none (mL y) T q.1 q.2.1 (p_rt (mR y)) q.2.2.1 1000000 0 (p_init (mL y) as) [] ij) none)
/-- what the pure machine answers, the machine answers -/
theorem ev_sound {l : Launch} {T : PT} : ∀ (d y : Nat) (as : List Value) (ij : IJ) (r : Rs), EV d T y as ij = some r → MetC l d y T as ij r := by
  intro d
  induction d with
  | zero =>
    intro y as ij r h
    have h' : (none : Option Rs) = some r := h
    cases h'
  | succ d ih =>
    intro y as ij r h
    have h' : (match cte y with
      | none => none
      | some q => p_bif (decide ((p_slots as).length ≤ mL y)) (runS (EV d) none (mL y) T q.1 q.2.1 (p_rt (mR y)) q.2.2.1 1000000 0 (p_init (mL y) as) [] ij) none) = some r := h
    cases hq : cte y with
    | none => rw [hq] at h'; cases h'
    | some q =>
      rw [hq] at h'
      dsimp only at h'
      rw [p_bif_dec] at h'
      split at h'
      · rename_i hlen
        obtain ⟨h1, h2, h3, h4⟩ := k_all y q hq
        exact met_of h1 h2 h3 h4 (fun y as ij r0 h0 => ih y as ij r0 h0) hlen h'
      · cases h'
