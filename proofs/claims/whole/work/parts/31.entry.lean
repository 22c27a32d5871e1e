/-! ===== entries: a call of a method at given objects is its run from place 0 ===== -/
set_option maxRecDepth 100000 in
theorem e_X0_clear (d : Nat) (ij : IJ) : EV (d + 1) T0 1 [.ref 14] ij = runS (EV d) none 1 T0 C_X0_clear k_X0_clear rtV f_X0_clear 1000000 0 [.ref 14] [] ij := rfl
set_option maxRecDepth 100000 in
theorem e_X0_copyFrom (d : Nat) (ij : IJ) : EV (d + 1) T0 2 [.ref 35, .ref 14] ij = runS (EV d) none 2 T0 C_X0_copyFrom k_X0_copyFrom rtV f_X0_copyFrom 1000000 0 [.ref 35, .ref 14] [] ij := rfl
set_option maxRecDepth 100000 in
theorem e_X0_nextStep (d : Nat) (ij : IJ) : EV (d + 1) T0 3 [.ref 14] ij = runS (EV d) none 1 T0 C_X0_nextStep k_X0_nextStep rtI f_X0_nextStep 1000000 0 [.ref 14] [] ij := rfl
set_option maxRecDepth 100000 in
theorem e_X0_beginLaw (d : Nat) (a1 a2 : Int32) (ij : IJ) : EV (d + 1) T0 4 [.ref 14, .int a1, .int a2] ij = runS (EV d) none 3 T0 C_X0_beginLaw k_X0_beginLaw rtV f_X0_beginLaw 1000000 0 [.ref 14, .int a1, .int a2] [] ij := rfl
set_option maxRecDepth 100000 in
theorem e_X0_addStep (d : Nat) (a1 a2 : Int32) (ij : IJ) : EV (d + 1) T0 5 [.ref 14, .int a1, .int a2] ij = runS (EV d) none 3 T0 C_X0_addStep k_X0_addStep rtV f_X0_addStep 1000000 0 [.ref 14, .int a1, .int a2] [] ij := rfl
set_option maxRecDepth 100000 in
theorem e_X0_leadHere (d : Nat) (a1 : Int32) (ij : IJ) : EV (d + 1) T0 6 [.ref 14, .int a1] ij = runS (EV d) none 2 T0 C_X0_leadHere k_X0_leadHere rtV f_X0_leadHere 1000000 0 [.ref 14, .int a1] [] ij := rfl
set_option maxRecDepth 100000 in
theorem e_X0_say (d : Nat) (a1 : Int32) (ij : IJ) : EV (d + 1) T0 7 [.ref 35, .int a1, .ref 170] ij = runS (EV d) none 8 T0 C_X0_say k_X0_say rtI f_X0_say 1000000 0 [.ref 35, .int a1, .ref 170, un, un, un, un, un] [] ij := rfl
set_option maxRecDepth 100000 in
theorem e_X0_reckon (d : Nat) (a0 a1 a2 : Int32) (ij : IJ) : EV (d + 1) T0 8 [.int a0, .int a1, .int a2] ij = runS (EV d) none 3 T0 C_X0_reckon k_X0_reckon rtI f_X0_reckon 1000000 0 [.int a0, .int a1, .int a2] [] ij := rfl
set_option maxRecDepth 100000 in
theorem e_X0_addDefault (d : Nat) (a1 a2 a3 : Int32) (ij : IJ) : EV (d + 1) T0 9 [.ref 14, .int a1, .int a2, .int a3] ij = runS (EV d) none 4 T0 C_X0_addDefault k_X0_addDefault rtV f_X0_addDefault 1000000 0 [.ref 14, .int a1, .int a2, .int a3] [] ij := rfl
set_option maxRecDepth 100000 in
theorem e_X1_spread (d : Nat) (a1 a2 : Int32) (ij : IJ) : EV (d + 1) T0 11 [.ref 172, .int a1, .int a2] ij = runS (EV d) none 5 T0 C_X1_spread k_X1_spread rtI f_X1_spread 1000000 0 [.ref 172, .int a1, .int a2, un, un] [] ij := rfl
set_option maxRecDepth 100000 in
theorem e_X1_reach (d : Nat) (a1 a2 : Int32) (ij : IJ) : EV (d + 1) T0 12 [.ref 172, .int a1, .int a2] ij = runS (EV d) none 6 T0 C_X1_reach k_X1_reach rtI f_X1_reach 1000000 0 [.ref 172, .int a1, .int a2, un, un, un] [] ij := rfl
set_option maxRecDepth 100000 in
theorem e_X1_joins (d : Nat) (a1 a2 a3 : Int32) (ij : IJ) : EV (d + 1) T0 13 [.ref 172, .int a1, .int a2, .int a3] ij = runS (EV d) none 4 T0 C_X1_joins k_X1_joins rtZ f_X1_joins 1000000 0 [.ref 172, .int a1, .int a2, .int a3] [] ij := rfl
set_option maxRecDepth 100000 in
theorem e_X1_measure (d : Nat) (a1 a3 : Int32) (ij : IJ) : EV (d + 1) T0 14 [.ref 172, .int a1, .ref 176, .int a3] ij = runS (EV d) none 7 T0 C_X1_measure k_X1_measure rtV f_X1_measure 1000000 0 [.ref 172, .int a1, .ref 176, .int a3, un, un, un] [] ij := rfl
set_option maxRecDepth 100000 in
theorem e_X1_isReached (d : Nat) (a1 : Int32) (ij : IJ) : EV (d + 1) T0 15 [.ref 172, .int a1] ij = runS (EV d) none 2 T0 C_X1_isReached k_X1_isReached rtZ f_X1_isReached 1000000 0 [.ref 172, .int a1] [] ij := rfl
set_option maxRecDepth 100000 in
theorem e_X1_widest_40 (d : Nat) (a2 a3 : Int32) (ij : IJ) : EV (d + 1) T0 16 [.ref 172, .ref 40, .int a2, .int a3] ij = runS (EV d) none 6 T0 C_X1_widest k_X1_widest rtI f_X1_widest 1000000 0 [.ref 172, .ref 40, .int a2, .int a3, un, un] [] ij := rfl
set_option maxRecDepth 100000 in
theorem e_X1_widest_177 (d : Nat) (a2 a3 : Int32) (ij : IJ) : EV (d + 1) T0 16 [.ref 172, .ref 177, .int a2, .int a3] ij = runS (EV d) none 6 T0 C_X1_widest k_X1_widest rtI f_X1_widest 1000000 0 [.ref 172, .ref 177, .int a2, .int a3, un, un] [] ij := rfl
set_option maxRecDepth 100000 in
theorem e_X1_cheapestSeams (d : Nat) (a2 : Int32) (ij : IJ) : EV (d + 1) T0 17 [.ref 172, .ref 171, .int a2] ij = runS (EV d) none 7 T0 C_X1_cheapestSeams k_X1_cheapestSeams rtI f_X1_cheapestSeams 1000000 0 [.ref 172, .ref 171, .int a2, un, un, un, un] [] ij := rfl
set_option maxRecDepth 100000 in
theorem e_X1_bridges (d : Nat) (a1 : Int32) (ij : IJ) : EV (d + 1) T0 18 [.ref 172, .int a1] ij = runS (EV d) none 5 T0 C_X1_bridges k_X1_bridges rtI f_X1_bridges 1000000 0 [.ref 172, .int a1, un, un, un] [] ij := rfl
set_option maxRecDepth 100000 in
theorem e_X1_walks (d : Nat) (a1 : Int32) (ij : IJ) : EV (d + 1) T0 19 [.ref 172, .int a1] ij = runS (EV d) none 6 T0 C_X1_walks k_X1_walks rtI f_X1_walks 1000000 0 [.ref 172, .int a1, un, un, un, un] [] ij := rfl
set_option maxRecDepth 100000 in
theorem e_X1_oddTowns (d : Nat) (a1 a2 : Int32) (ij : IJ) : EV (d + 1) T0 20 [.ref 172, .int a1, .int a2] ij = runS (EV d) none 5 T0 C_X1_oddTowns k_X1_oddTowns rtI f_X1_oddTowns 1000000 0 [.ref 172, .int a1, .int a2, un, un] [] ij := rfl
set_option maxRecDepth 100000 in
theorem e_X1_seamsAsWide_40 (d : Nat) (a2 : Int32) (ij : IJ) : EV (d + 1) T0 21 [.ref 172, .ref 40, .int a2] ij = runS (EV d) none 5 T0 C_X1_seamsAsWide k_X1_seamsAsWide rtI f_X1_seamsAsWide 1000000 0 [.ref 172, .ref 40, .int a2, un, un] [] ij := rfl
set_option maxRecDepth 100000 in
theorem e_X1_seamsAsWide_177 (d : Nat) (a2 : Int32) (ij : IJ) : EV (d + 1) T0 21 [.ref 172, .ref 177, .int a2] ij = runS (EV d) none 5 T0 C_X1_seamsAsWide k_X1_seamsAsWide rtI f_X1_seamsAsWide 1000000 0 [.ref 172, .ref 177, .int a2, un, un] [] ij := rfl
set_option maxRecDepth 100000 in
theorem e_X1_shorten (d : Nat) (a1 a2 a3 : Int32) (ij : IJ) : EV (d + 1) T0 22 [.ref 172, .int a1, .int a2, .int a3] ij = runS (EV d) none 4 T0 C_X1_shorten k_X1_shorten rtZ f_X1_shorten 1000000 0 [.ref 172, .int a1, .int a2, .int a3] [] ij := rfl
set_option maxRecDepth 100000 in
theorem e_X2_clear (d : Nat) (ij : IJ) : EV (d + 1) T0 24 [.ref 45] ij = runS (EV d) none 1 T0 C_X2_clear k_X2_clear rtV f_X2_clear 1000000 0 [.ref 45] [] ij := rfl
set_option maxRecDepth 100000 in
theorem e_X2_keep (d : Nat) (ij : IJ) : EV (d + 1) T0 25 [.ref 45, .ref 39] ij = runS (EV d) none 2 T0 C_X2_keep k_X2_keep rtV f_X2_keep 1000000 0 [.ref 45, .ref 39] [] ij := rfl
set_option maxRecDepth 100000 in
theorem e_X2_takeBack (d : Nat) (ij : IJ) : EV (d + 1) T0 26 [.ref 45, .ref 39] ij = runS (EV d) none 2 T0 C_X2_takeBack k_X2_takeBack rtZ f_X2_takeBack 1000000 0 [.ref 45, .ref 39] [] ij := rfl
set_option maxRecDepth 100000 in
theorem e_X3_clear (d : Nat) (ij : IJ) : EV (d + 1) T0 28 [.ref 4] ij = runS (EV d) none 1 T0 C_X3_clear k_X3_clear rtV f_X3_clear 1000000 0 [.ref 4] [] ij := rfl
set_option maxRecDepth 100000 in
theorem e_X3_copyFrom (d : Nat) (ij : IJ) : EV (d + 1) T0 29 [.ref 25, .ref 4] ij = runS (EV d) none 2 T0 C_X3_copyFrom k_X3_copyFrom rtV f_X3_copyFrom 1000000 0 [.ref 25, .ref 4] [] ij := rfl
set_option maxRecDepth 100000 in
theorem e_X3_addSeam (d : Nat) (a1 a2 a3 a4 : Int32) (ij : IJ) : EV (d + 1) T0 30 [.ref 4, .int a1, .int a2, .int a3, .int a4] ij = runS (EV d) none 5 T0 C_X3_addSeam k_X3_addSeam rtV f_X3_addSeam 1000000 0 [.ref 4, .int a1, .int a2, .int a3, .int a4] [] ij := rfl
set_option maxRecDepth 100000 in
theorem e_X3_addCart (d : Nat) (a1 a2 a3 : Int32) (ij : IJ) : EV (d + 1) T0 31 [.ref 4, .int a1, .int a2, .int a3] ij = runS (EV d) none 4 T0 C_X3_addCart k_X3_addCart rtV f_X3_addCart 1000000 0 [.ref 4, .int a1, .int a2, .int a3] [] ij := rfl
set_option maxRecDepth 100000 in
theorem e_X3_hasSeam (d : Nat) (a1 a2 : Int32) (ij : IJ) : EV (d + 1) T0 32 [.ref 4, .int a1, .int a2] ij = runS (EV d) none 4 T0 C_X3_hasSeam k_X3_hasSeam rtZ f_X3_hasSeam 1000000 0 [.ref 4, .int a1, .int a2, un] [] ij := rfl
set_option maxRecDepth 100000 in
theorem e_X3_countWays (d : Nat) (ij : IJ) : EV (d + 1) T0 33 [.ref 25] ij = runS (EV d) none 3 T0 C_X3_countWays k_X3_countWays rtV f_X3_countWays 1000000 0 [.ref 25, un, un] [] ij := rfl
set_option maxRecDepth 100000 in
theorem e_X4_readText (d : Nat) (ij : IJ) : EV (d + 1) T0 35 [.ref 3, .ref 1] ij = runS (EV d) none 3 T0 C_X4_readText k_X4_readText rtI f_X4_readText 1000000 0 [.ref 3, .ref 1, un] [] ij := rfl
set_option maxRecDepth 100000 in
theorem e_X4_readTell (d : Nat) (ij : IJ) : EV (d + 1) T0 36 [.ref 3] ij = runS (EV d) none 1 T0 C_X4_readTell k_X4_readTell rtV f_X4_readTell 1000000 0 [.ref 3] [] ij := rfl
set_option maxRecDepth 100000 in
theorem e_X4_readTown (d : Nat) (ij : IJ) : EV (d + 1) T0 37 [.ref 3] ij = runS (EV d) none 2 T0 C_X4_readTown k_X4_readTown rtV f_X4_readTown 1000000 0 [.ref 3, un] [] ij := rfl
set_option maxRecDepth 100000 in
theorem e_X4_readSeam (d : Nat) (ij : IJ) : EV (d + 1) T0 38 [.ref 3] ij = runS (EV d) none 7 T0 C_X4_readSeam k_X4_readSeam rtV f_X4_readSeam 1000000 0 [.ref 3, un, un, un, un, un, un] [] ij := rfl
set_option maxRecDepth 100000 in
theorem e_X4_readWoman (d : Nat) (ij : IJ) : EV (d + 1) T0 39 [.ref 3] ij = runS (EV d) none 3 T0 C_X4_readWoman k_X4_readWoman rtV f_X4_readWoman 1000000 0 [.ref 3, un, un] [] ij := rfl
set_option maxRecDepth 100000 in
theorem e_X4_readCart (d : Nat) (ij : IJ) : EV (d + 1) T0 40 [.ref 3] ij = runS (EV d) none 7 T0 C_X4_readCart k_X4_readCart rtV f_X4_readCart 1000000 0 [.ref 3, un, un, un, un, un, un] [] ij := rfl
set_option maxRecDepth 100000 in
theorem e_X4_readNumber (d : Nat) (a1 : Int32) (ij : IJ) : EV (d + 1) T0 41 [.ref 3, .int a1] ij = runS (EV d) none 3 T0 C_X4_readNumber k_X4_readNumber rtI f_X4_readNumber 1000000 0 [.ref 3, .int a1, un] [] ij := rfl
set_option maxRecDepth 100000 in
theorem e_X4_readLaw (d : Nat) (ij : IJ) : EV (d + 1) T0 42 [.ref 3] ij = runS (EV d) none 6 T0 C_X4_readLaw k_X4_readLaw rtV f_X4_readLaw 1000000 0 [.ref 3, un, un, un, un, un] [] ij := rfl
set_option maxRecDepth 100000 in
theorem e_X4_readSum (d : Nat) (a1 : Int32) (ij : IJ) : EV (d + 1) T0 43 [.ref 3, .int a1] ij = runS (EV d) none 4 T0 C_X4_readSum k_X4_readSum rtV f_X4_readSum 1000000 0 [.ref 3, .int a1, un, un] [] ij := rfl
set_option maxRecDepth 100000 in
theorem e_X4_readProduct (d : Nat) (a1 : Int32) (ij : IJ) : EV (d + 1) T0 44 [.ref 3, .int a1] ij = runS (EV d) none 4 T0 C_X4_readProduct k_X4_readProduct rtV f_X4_readProduct 1000000 0 [.ref 3, .int a1, un, un] [] ij := rfl
set_option maxRecDepth 100000 in
theorem e_X4_readUnit (d : Nat) (a1 : Int32) (ij : IJ) : EV (d + 1) T0 45 [.ref 3, .int a1] ij = runS (EV d) none 2 T0 C_X4_readUnit k_X4_readUnit rtV f_X4_readUnit 1000000 0 [.ref 3, .int a1] [] ij := rfl
set_option maxRecDepth 100000 in
theorem e_X4_takeFirst (d : Nat) (a1 : Int32) (ij : IJ) : EV (d + 1) T0 46 [.ref 3, .int a1] ij = runS (EV d) none 2 T0 C_X4_takeFirst k_X4_takeFirst rtV f_X4_takeFirst 1000000 0 [.ref 3, .int a1] [] ij := rfl
set_option maxRecDepth 100000 in
theorem e_X4_take (d : Nat) (a1 : Int32) (ij : IJ) : EV (d + 1) T0 47 [.ref 3, .int a1] ij = runS (EV d) none 3 T0 C_X4_take k_X4_take rtI f_X4_take 1000000 0 [.ref 3, .int a1, un] [] ij := rfl
set_option maxRecDepth 100000 in
theorem e_X4_note (d : Nat) (a1 a2 : Int32) (ij : IJ) : EV (d + 1) T0 48 [.ref 3, .int a1, .int a2] ij = runS (EV d) none 3 T0 C_X4_note k_X4_note rtV f_X4_note 1000000 0 [.ref 3, .int a1, .int a2] [] ij := rfl
set_option maxRecDepth 100000 in
theorem e_X4_addName (d : Nat) (a1 a2 : Int32) (ij : IJ) : EV (d + 1) T0 49 [.ref 3, .int a1, .int a2] ij = runS (EV d) none 3 T0 C_X4_addName k_X4_addName rtV f_X4_addName 1000000 0 [.ref 3, .int a1, .int a2] [] ij := rfl
set_option maxRecDepth 100000 in
theorem e_X4_findName (d : Nat) (a1 : Int32) (ij : IJ) : EV (d + 1) T0 50 [.ref 3, .int a1] ij = runS (EV d) none 3 T0 C_X4_findName k_X4_findName rtI f_X4_findName 1000000 0 [.ref 3, .int a1, un] [] ij := rfl
set_option maxRecDepth 100000 in
theorem e_X4_townAt (d : Nat) (a1 : Int32) (ij : IJ) : EV (d + 1) T0 51 [.ref 3, .int a1] ij = runS (EV d) none 4 T0 C_X4_townAt k_X4_townAt rtI f_X4_townAt 1000000 0 [.ref 3, .int a1, un, un] [] ij := rfl
set_option maxRecDepth 100000 in
theorem e_X4_numberAt (d : Nat) (a1 a2 a3 : Int32) (ij : IJ) : EV (d + 1) T0 52 [.ref 3, .int a1, .int a2, .int a3] ij = runS (EV d) none 5 T0 C_X4_numberAt k_X4_numberAt rtI f_X4_numberAt 1000000 0 [.ref 3, .int a1, .int a2, .int a3, un] [] ij := rfl
set_option maxRecDepth 100000 in
theorem e_X5_stitchCost (d : Nat) (a1 a2 a3 : Int32) (ij : IJ) : EV (d + 1) T0 54 [.ref 169, .int a1, .int a2, .int a3] ij = runS (EV d) none 4 T0 C_X5_stitchCost k_X5_stitchCost rtI f_X5_stitchCost 1000000 0 [.ref 169, .int a1, .int a2, .int a3] [] ij := rfl
set_option maxRecDepth 100000 in
theorem e_X5_wear (d : Nat) (a1 a2 a3 a4 a5 : Int32) (ij : IJ) : EV (d + 1) T0 55 [.ref 169, .int a1, .int a2, .int a3, .int a4, .int a5] ij = runS (EV d) none 6 T0 C_X5_wear k_X5_wear rtI f_X5_wear 1000000 0 [.ref 169, .int a1, .int a2, .int a3, .int a4, .int a5] [] ij := rfl
set_option maxRecDepth 100000 in
theorem e_X5_wayLong (d : Nat) (a1 a2 a3 : Int32) (ij : IJ) : EV (d + 1) T0 56 [.ref 169, .int a1, .int a2, .int a3] ij = runS (EV d) none 4 T0 C_X5_wayLong k_X5_wayLong rtI f_X5_wayLong 1000000 0 [.ref 169, .int a1, .int a2, .int a3] [] ij := rfl
set_option maxRecDepth 100000 in
theorem e_X5_tollFor (d : Nat) (a1 a2 a3 a4 : Int32) (ij : IJ) : EV (d + 1) T0 57 [.ref 169, .int a1, .int a2, .int a3, .int a4] ij = runS (EV d) none 5 T0 C_X5_tollFor k_X5_tollFor rtI f_X5_tollFor 1000000 0 [.ref 169, .int a1, .int a2, .int a3, .int a4] [] ij := rfl
set_option maxRecDepth 100000 in
theorem e_X5_canStitch (d : Nat) (a1 : Int32) (ij : IJ) : EV (d + 1) T0 58 [.ref 169, .int a1, .ref 39] ij = runS (EV d) none 4 T0 C_X5_canStitch k_X5_canStitch rtZ f_X5_canStitch 1000000 0 [.ref 169, .int a1, .ref 39, un] [] ij := rfl
set_option maxRecDepth 100000 in
theorem e_X5_threadUpTo (d : Nat) (a1 a2 : Int32) (ij : IJ) : EV (d + 1) T0 59 [.ref 169, .int a1, .int a2, .ref 39] ij = runS (EV d) none 6 T0 C_X5_threadUpTo k_X5_threadUpTo rtI f_X5_threadUpTo 1000000 0 [.ref 169, .int a1, .int a2, .ref 39, un, un] [] ij := rfl
set_option maxRecDepth 100000 in
theorem e_X5_fillSetCosts (d : Nat) (a1 : Int32) (ij : IJ) : EV (d + 1) T0 60 [.ref 169, .int a1, .ref 39] ij = runS (EV d) none 7 T0 C_X5_fillSetCosts k_X5_fillSetCosts rtV f_X5_fillSetCosts 1000000 0 [.ref 169, .int a1, .ref 39, un, un, un, un] [] ij := rfl
set_option maxRecDepth 100000 in
theorem e_X5_look (d : Nat) (a1 a2 a3 : Int32) (ij : IJ) : EV (d + 1) T0 61 [.ref 169, .int a1, .int a2, .int a3] ij = runS (EV d) none 4 T0 C_X5_look k_X5_look rtV f_X5_look 1000000 0 [.ref 169, .int a1, .int a2, .int a3] [] ij := rfl
set_option maxRecDepth 100000 in
theorem e_X5_held (d : Nat) (a0 : Int32) (ij : IJ) : EV (d + 1) T0 62 [.int a0] ij = runS (EV d) none 1 T0 C_X5_held k_X5_held rtI f_X5_held 1000000 0 [.int a0] [] ij := rfl
set_option maxRecDepth 100000 in
theorem e_X6_clear (d : Nat) (ij : IJ) : EV (d + 1) T0 64 [.ref 178] ij = runS (EV d) none 1 T0 C_X6_clear k_X6_clear rtV f_X6_clear 1000000 0 [.ref 178] [] ij := rfl
set_option maxRecDepth 100000 in
theorem e_X6_addTold (d : Nat) (a1 a2 a3 : Int32) (ij : IJ) : EV (d + 1) T0 65 [.ref 178, .int a1, .int a2, .int a3] ij = runS (EV d) none 4 T0 C_X6_addTold k_X6_addTold rtI f_X6_addTold 1000000 0 [.ref 178, .int a1, .int a2, .int a3] [] ij := rfl
set_option maxRecDepth 100000 in
theorem e_X6_measureCuts (d : Nat) (a1 : Int32) (ij : IJ) : EV (d + 1) T0 66 [.ref 178, .int a1, .ref 176] ij = runS (EV d) none 6 T0 C_X6_measureCuts k_X6_measureCuts rtV f_X6_measureCuts 1000000 0 [.ref 178, .int a1, .ref 176, un, un, un] [] ij := rfl
set_option maxRecDepth 100000 in
theorem e_X6_cutsKnownBy (d : Nat) (a1 a2 : Int32) (ij : IJ) : EV (d + 1) T0 67 [.ref 178, .int a1, .int a2] ij = runS (EV d) none 5 T0 C_X6_cutsKnownBy k_X6_cutsKnownBy rtI f_X6_cutsKnownBy 1000000 0 [.ref 178, .int a1, .int a2, un, un] [] ij := rfl
set_option maxRecDepth 100000 in
theorem e_X6_bestQuestion (d : Nat) (a1 : Int32) (ij : IJ) : EV (d + 1) T0 68 [.ref 178, .int a1] ij = runS (EV d) none 7 T0 C_X6_bestQuestion k_X6_bestQuestion rtI f_X6_bestQuestion 1000000 0 [.ref 178, .int a1, un, un, un, un, un] [] ij := rfl
set_option maxRecDepth 100000 in
theorem e_X6_fits (d : Nat) (a1 a2 : Int32) (ij : IJ) : EV (d + 1) T0 69 [.ref 178, .int a1, .int a2] ij = runS (EV d) none 4 T0 C_X6_fits k_X6_fits rtZ f_X6_fits 1000000 0 [.ref 178, .int a1, .int a2, un] [] ij := rfl
set_option maxRecDepth 100000 in
theorem e_X6_mostAlike (d : Nat) (a1 a2 a3 : Int32) (ij : IJ) : EV (d + 1) T0 70 [.ref 178, .int a1, .int a2, .int a3] ij = runS (EV d) none 6 T0 C_X6_mostAlike k_X6_mostAlike rtI f_X6_mostAlike 1000000 0 [.ref 178, .int a1, .int a2, .int a3, un, un] [] ij := rfl
set_option maxRecDepth 100000 in
theorem e_X6_alike (d : Nat) (a1 a2 a3 a4 : Int32) (ij : IJ) : EV (d + 1) T0 71 [.ref 178, .int a1, .int a2, .int a3, .int a4] ij = runS (EV d) none 7 T0 C_X6_alike k_X6_alike rtI f_X6_alike 1000000 0 [.ref 178, .int a1, .int a2, .int a3, .int a4, un, un] [] ij := rfl
set_option maxRecDepth 100000 in
theorem e_X6_pairOf (d : Nat) (a0 a1 a2 : Int32) (ij : IJ) : EV (d + 1) T0 72 [.int a0, .int a1, .int a2] ij = runS (EV d) none 3 T0 C_X6_pairOf k_X6_pairOf rtI f_X6_pairOf 1000000 0 [.int a0, .int a1, .int a2] [] ij := rfl
set_option maxRecDepth 100000 in
theorem e_X7_fillWays_39 (d : Nat) (ij : IJ) : EV (d + 1) T0 74 [.ref 174, .ref 39] ij = runS (EV d) none 3 T0 C_X7_fillWays k_X7_fillWays rtV f_X7_fillWays 1000000 0 [.ref 174, .ref 39, un] [] ij := rfl
set_option maxRecDepth 100000 in
theorem e_X7_fillWays_42 (d : Nat) (ij : IJ) : EV (d + 1) T0 74 [.ref 174, .ref 42] ij = runS (EV d) none 3 T0 C_X7_fillWays k_X7_fillWays rtV f_X7_fillWays 1000000 0 [.ref 174, .ref 42, un] [] ij := rfl
set_option maxRecDepth 100000 in
theorem e_X7_passWeeks_39 (d : Nat) (a2 a3 : Int32) (ij : IJ) : EV (d + 1) T0 75 [.ref 174, .ref 39, .int a2, .int a3] ij = runS (EV d) none 5 T0 C_X7_passWeeks k_X7_passWeeks rtV f_X7_passWeeks 1000000 0 [.ref 174, .ref 39, .int a2, .int a3, un] [] ij := rfl
set_option maxRecDepth 100000 in
theorem e_X7_passWeeks_42 (d : Nat) (a2 a3 : Int32) (ij : IJ) : EV (d + 1) T0 75 [.ref 174, .ref 42, .int a2, .int a3] ij = runS (EV d) none 5 T0 C_X7_passWeeks k_X7_passWeeks rtV f_X7_passWeeks 1000000 0 [.ref 174, .ref 42, .int a2, .int a3, un] [] ij := rfl
set_option maxRecDepth 100000 in
theorem e_X7_hasChance (d : Nat) (ij : IJ) : EV (d + 1) T0 76 [.ref 174] ij = runS (EV d) none 1 T0 C_X7_hasChance k_X7_hasChance rtZ f_X7_hasChance 1000000 0 [.ref 174] [] ij := rfl
set_option maxRecDepth 100000 in
theorem e_X7_isFrost (d : Nat) (a1 a2 : Int32) (ij : IJ) : EV (d + 1) T0 77 [.ref 174, .int a1, .int a2] ij = runS (EV d) none 3 T0 C_X7_isFrost k_X7_isFrost rtZ f_X7_isFrost 1000000 0 [.ref 174, .int a1, .int a2] [] ij := rfl
set_option maxRecDepth 100000 in
theorem e_X7_fillLives (d : Nat) (ij : IJ) : EV (d + 1) T0 78 [.ref 174, .ref 39] ij = runS (EV d) none 3 T0 C_X7_fillLives k_X7_fillLives rtV f_X7_fillLives 1000000 0 [.ref 174, .ref 39, un] [] ij := rfl
set_option maxRecDepth 100000 in
theorem e_X7_seamsOutliving (d : Nat) (a1 : Int32) (ij : IJ) : EV (d + 1) T0 79 [.ref 174, .int a1] ij = runS (EV d) none 4 T0 C_X7_seamsOutliving k_X7_seamsOutliving rtI f_X7_seamsOutliving 1000000 0 [.ref 174, .int a1, un, un] [] ij := rfl
set_option maxRecDepth 100000 in
theorem e_X7_bestToDouble (d : Nat) (a2 a3 a4 : Int32) (ij : IJ) : EV (d + 1) T0 80 [.ref 174, .ref 39, .int a2, .int a3, .int a4] ij = runS (EV d) none 10 T0 C_X7_bestToDouble k_X7_bestToDouble rtI f_X7_bestToDouble 1000000 0 [.ref 174, .ref 39, .int a2, .int a3, .int a4, un, un, un, un, un] [] ij := rfl
set_option maxRecDepth 100000 in
theorem e_X7_lifeOf (d : Nat) (a1 a2 a3 : Int32) (ij : IJ) : EV (d + 1) T0 81 [.ref 174, .int a1, .int a2, .int a3] ij = runS (EV d) none 6 T0 C_X7_lifeOf k_X7_lifeOf rtI f_X7_lifeOf 1000000 0 [.ref 174, .int a1, .int a2, .int a3, un, un] [] ij := rfl
set_option maxRecDepth 100000 in
theorem e_X7_moveCarts_39 (d : Nat) (ij : IJ) : EV (d + 1) T0 82 [.ref 174, .ref 39] ij = runS (EV d) none 5 T0 C_X7_moveCarts k_X7_moveCarts rtV f_X7_moveCarts 1000000 0 [.ref 174, .ref 39, un, un, un] [] ij := rfl
set_option maxRecDepth 100000 in
theorem e_X7_moveCarts_42 (d : Nat) (ij : IJ) : EV (d + 1) T0 82 [.ref 174, .ref 42] ij = runS (EV d) none 5 T0 C_X7_moveCarts k_X7_moveCarts rtV f_X7_moveCarts 1000000 0 [.ref 174, .ref 42, un, un, un] [] ij := rfl
set_option maxRecDepth 100000 in
theorem e_X7_moveCart_39 (d : Nat) (a2 a3 : Int32) (ij : IJ) : EV (d + 1) T0 83 [.ref 174, .ref 39, .int a2, .int a3] ij = runS (EV d) none 8 T0 C_X7_moveCart k_X7_moveCart rtV f_X7_moveCart 1000000 0 [.ref 174, .ref 39, .int a2, .int a3, un, un, un, un] [] ij := rfl
set_option maxRecDepth 100000 in
theorem e_X7_moveCart_42 (d : Nat) (a2 a3 : Int32) (ij : IJ) : EV (d + 1) T0 83 [.ref 174, .ref 42, .int a2, .int a3] ij = runS (EV d) none 8 T0 C_X7_moveCart k_X7_moveCart rtV f_X7_moveCart 1000000 0 [.ref 174, .ref 42, .int a2, .int a3, un, un, un, un] [] ij := rfl
set_option maxRecDepth 100000 in
theorem e_X7_nextSeam (d : Nat) (a1 a2 : Int32) (ij : IJ) : EV (d + 1) T0 84 [.ref 174, .int a1, .int a2] ij = runS (EV d) none 7 T0 C_X7_nextSeam k_X7_nextSeam rtI f_X7_nextSeam 1000000 0 [.ref 174, .int a1, .int a2, un, un, un, un] [] ij := rfl
set_option maxRecDepth 100000 in
theorem e_X7_otherEnd (d : Nat) (a1 a2 : Int32) (ij : IJ) : EV (d + 1) T0 85 [.ref 174, .int a1, .int a2] ij = runS (EV d) none 3 T0 C_X7_otherEnd k_X7_otherEnd rtI f_X7_otherEnd 1000000 0 [.ref 174, .int a1, .int a2] [] ij := rfl
set_option maxRecDepth 100000 in
theorem e_X7_wearSeams_39 (d : Nat) (a2 : Int32) (ij : IJ) : EV (d + 1) T0 86 [.ref 174, .ref 39, .int a2] ij = runS (EV d) none 5 T0 C_X7_wearSeams k_X7_wearSeams rtV f_X7_wearSeams 1000000 0 [.ref 174, .ref 39, .int a2, un, un] [] ij := rfl
set_option maxRecDepth 100000 in
theorem e_X7_wearSeams_42 (d : Nat) (a2 : Int32) (ij : IJ) : EV (d + 1) T0 86 [.ref 174, .ref 42, .int a2] ij = runS (EV d) none 5 T0 C_X7_wearSeams k_X7_wearSeams rtV f_X7_wearSeams 1000000 0 [.ref 174, .ref 42, .int a2, un, un] [] ij := rfl
set_option maxRecDepth 100000 in
theorem e_X7_lotOfHundred (d : Nat) (a0 a1 : Int32) (ij : IJ) : EV (d + 1) T0 87 [.int a0, .int a1] ij = runS (EV d) none 3 T0 C_X7_lotOfHundred k_X7_lotOfHundred rtI f_X7_lotOfHundred 1000000 0 [.int a0, .int a1, un] [] ij := rfl
set_option maxRecDepth 100000 in
theorem e_X7_mixed (d : Nat) (a0 a1 : Int32) (ij : IJ) : EV (d + 1) T0 88 [.int a0, .int a1] ij = runS (EV d) none 3 T0 C_X7_mixed k_X7_mixed rtI f_X7_mixed 1000000 0 [.int a0, .int a1, un] [] ij := rfl
set_option maxRecDepth 100000 in
theorem e_X8_begin (d : Nat) (ij : IJ) : EV (d + 1) T0 90 [.ref 39, .ref 25] ij = runS (EV d) none 3 T0 C_X8_begin k_X8_begin rtV f_X8_begin 1000000 0 [.ref 39, .ref 25, un] [] ij := rfl
set_option maxRecDepth 100000 in
theorem e_X8_copyFrom_42_39 (d : Nat) (ij : IJ) : EV (d + 1) T0 91 [.ref 42, .ref 39] ij = runS (EV d) none 2 T0 C_X8_copyFrom k_X8_copyFrom rtV f_X8_copyFrom 1000000 0 [.ref 42, .ref 39] [] ij := rfl
set_option maxRecDepth 100000 in
theorem e_X8_copyFrom_183_39 (d : Nat) (ij : IJ) : EV (d + 1) T0 91 [.ref 183, .ref 39] ij = runS (EV d) none 2 T0 C_X8_copyFrom k_X8_copyFrom rtV f_X8_copyFrom 1000000 0 [.ref 183, .ref 39] [] ij := rfl
set_option maxRecDepth 100000 in
theorem e_X8_copyFrom_186_39 (d : Nat) (ij : IJ) : EV (d + 1) T0 91 [.ref 186, .ref 39] ij = runS (EV d) none 2 T0 C_X8_copyFrom k_X8_copyFrom rtV f_X8_copyFrom 1000000 0 [.ref 186, .ref 39] [] ij := rfl
set_option maxRecDepth 100000 in
theorem e_X8_copyFrom_189_39 (d : Nat) (ij : IJ) : EV (d + 1) T0 91 [.ref 189, .ref 39] ij = runS (EV d) none 2 T0 C_X8_copyFrom k_X8_copyFrom rtV f_X8_copyFrom 1000000 0 [.ref 189, .ref 39] [] ij := rfl
set_option maxRecDepth 100000 in
theorem e_X8_copyFrom_47_39 (d : Nat) (ij : IJ) : EV (d + 1) T0 91 [.ref 47, .ref 39] ij = runS (EV d) none 2 T0 C_X8_copyFrom k_X8_copyFrom rtV f_X8_copyFrom 1000000 0 [.ref 47, .ref 39] [] ij := rfl
set_option maxRecDepth 100000 in
theorem e_X8_copyFrom_50_39 (d : Nat) (ij : IJ) : EV (d + 1) T0 91 [.ref 50, .ref 39] ij = runS (EV d) none 2 T0 C_X8_copyFrom k_X8_copyFrom rtV f_X8_copyFrom 1000000 0 [.ref 50, .ref 39] [] ij := rfl
set_option maxRecDepth 100000 in
theorem e_X8_copyFrom_53_39 (d : Nat) (ij : IJ) : EV (d + 1) T0 91 [.ref 53, .ref 39] ij = runS (EV d) none 2 T0 C_X8_copyFrom k_X8_copyFrom rtV f_X8_copyFrom 1000000 0 [.ref 53, .ref 39] [] ij := rfl
set_option maxRecDepth 100000 in
theorem e_X8_copyFrom_56_39 (d : Nat) (ij : IJ) : EV (d + 1) T0 91 [.ref 56, .ref 39] ij = runS (EV d) none 2 T0 C_X8_copyFrom k_X8_copyFrom rtV f_X8_copyFrom 1000000 0 [.ref 56, .ref 39] [] ij := rfl
set_option maxRecDepth 100000 in
theorem e_X8_copyFrom_59_39 (d : Nat) (ij : IJ) : EV (d + 1) T0 91 [.ref 59, .ref 39] ij = runS (EV d) none 2 T0 C_X8_copyFrom k_X8_copyFrom rtV f_X8_copyFrom 1000000 0 [.ref 59, .ref 39] [] ij := rfl
set_option maxRecDepth 100000 in
theorem e_X8_copyFrom_62_39 (d : Nat) (ij : IJ) : EV (d + 1) T0 91 [.ref 62, .ref 39] ij = runS (EV d) none 2 T0 C_X8_copyFrom k_X8_copyFrom rtV f_X8_copyFrom 1000000 0 [.ref 62, .ref 39] [] ij := rfl
set_option maxRecDepth 100000 in
theorem e_X8_copyFrom_65_39 (d : Nat) (ij : IJ) : EV (d + 1) T0 91 [.ref 65, .ref 39] ij = runS (EV d) none 2 T0 C_X8_copyFrom k_X8_copyFrom rtV f_X8_copyFrom 1000000 0 [.ref 65, .ref 39] [] ij := rfl
set_option maxRecDepth 100000 in
theorem e_X8_copyFrom_68_39 (d : Nat) (ij : IJ) : EV (d + 1) T0 91 [.ref 68, .ref 39] ij = runS (EV d) none 2 T0 C_X8_copyFrom k_X8_copyFrom rtV f_X8_copyFrom 1000000 0 [.ref 68, .ref 39] [] ij := rfl
set_option maxRecDepth 100000 in
theorem e_X8_copyFrom_71_39 (d : Nat) (ij : IJ) : EV (d + 1) T0 91 [.ref 71, .ref 39] ij = runS (EV d) none 2 T0 C_X8_copyFrom k_X8_copyFrom rtV f_X8_copyFrom 1000000 0 [.ref 71, .ref 39] [] ij := rfl
set_option maxRecDepth 100000 in
theorem e_X8_copyFrom_74_39 (d : Nat) (ij : IJ) : EV (d + 1) T0 91 [.ref 74, .ref 39] ij = runS (EV d) none 2 T0 C_X8_copyFrom k_X8_copyFrom rtV f_X8_copyFrom 1000000 0 [.ref 74, .ref 39] [] ij := rfl
set_option maxRecDepth 100000 in
theorem e_X8_copyFrom_77_39 (d : Nat) (ij : IJ) : EV (d + 1) T0 91 [.ref 77, .ref 39] ij = runS (EV d) none 2 T0 C_X8_copyFrom k_X8_copyFrom rtV f_X8_copyFrom 1000000 0 [.ref 77, .ref 39] [] ij := rfl
set_option maxRecDepth 100000 in
theorem e_X8_copyFrom_80_39 (d : Nat) (ij : IJ) : EV (d + 1) T0 91 [.ref 80, .ref 39] ij = runS (EV d) none 2 T0 C_X8_copyFrom k_X8_copyFrom rtV f_X8_copyFrom 1000000 0 [.ref 80, .ref 39] [] ij := rfl
set_option maxRecDepth 100000 in
theorem e_X8_copyFrom_83_39 (d : Nat) (ij : IJ) : EV (d + 1) T0 91 [.ref 83, .ref 39] ij = runS (EV d) none 2 T0 C_X8_copyFrom k_X8_copyFrom rtV f_X8_copyFrom 1000000 0 [.ref 83, .ref 39] [] ij := rfl
set_option maxRecDepth 100000 in
theorem e_X8_copyFrom_86_39 (d : Nat) (ij : IJ) : EV (d + 1) T0 91 [.ref 86, .ref 39] ij = runS (EV d) none 2 T0 C_X8_copyFrom k_X8_copyFrom rtV f_X8_copyFrom 1000000 0 [.ref 86, .ref 39] [] ij := rfl
set_option maxRecDepth 100000 in
theorem e_X8_copyFrom_89_39 (d : Nat) (ij : IJ) : EV (d + 1) T0 91 [.ref 89, .ref 39] ij = runS (EV d) none 2 T0 C_X8_copyFrom k_X8_copyFrom rtV f_X8_copyFrom 1000000 0 [.ref 89, .ref 39] [] ij := rfl
set_option maxRecDepth 100000 in
theorem e_X8_copyFrom_92_39 (d : Nat) (ij : IJ) : EV (d + 1) T0 91 [.ref 92, .ref 39] ij = runS (EV d) none 2 T0 C_X8_copyFrom k_X8_copyFrom rtV f_X8_copyFrom 1000000 0 [.ref 92, .ref 39] [] ij := rfl
set_option maxRecDepth 100000 in
theorem e_X8_copyFrom_95_39 (d : Nat) (ij : IJ) : EV (d + 1) T0 91 [.ref 95, .ref 39] ij = runS (EV d) none 2 T0 C_X8_copyFrom k_X8_copyFrom rtV f_X8_copyFrom 1000000 0 [.ref 95, .ref 39] [] ij := rfl
set_option maxRecDepth 100000 in
theorem e_X8_copyFrom_98_39 (d : Nat) (ij : IJ) : EV (d + 1) T0 91 [.ref 98, .ref 39] ij = runS (EV d) none 2 T0 C_X8_copyFrom k_X8_copyFrom rtV f_X8_copyFrom 1000000 0 [.ref 98, .ref 39] [] ij := rfl
set_option maxRecDepth 100000 in
theorem e_X8_copyFrom_101_39 (d : Nat) (ij : IJ) : EV (d + 1) T0 91 [.ref 101, .ref 39] ij = runS (EV d) none 2 T0 C_X8_copyFrom k_X8_copyFrom rtV f_X8_copyFrom 1000000 0 [.ref 101, .ref 39] [] ij := rfl
set_option maxRecDepth 100000 in
theorem e_X8_copyFrom_104_39 (d : Nat) (ij : IJ) : EV (d + 1) T0 91 [.ref 104, .ref 39] ij = runS (EV d) none 2 T0 C_X8_copyFrom k_X8_copyFrom rtV f_X8_copyFrom 1000000 0 [.ref 104, .ref 39] [] ij := rfl
set_option maxRecDepth 100000 in
theorem e_X8_copyFrom_107_39 (d : Nat) (ij : IJ) : EV (d + 1) T0 91 [.ref 107, .ref 39] ij = runS (EV d) none 2 T0 C_X8_copyFrom k_X8_copyFrom rtV f_X8_copyFrom 1000000 0 [.ref 107, .ref 39] [] ij := rfl
set_option maxRecDepth 100000 in
theorem e_X8_copyFrom_110_39 (d : Nat) (ij : IJ) : EV (d + 1) T0 91 [.ref 110, .ref 39] ij = runS (EV d) none 2 T0 C_X8_copyFrom k_X8_copyFrom rtV f_X8_copyFrom 1000000 0 [.ref 110, .ref 39] [] ij := rfl
set_option maxRecDepth 100000 in
theorem e_X8_copyFrom_113_39 (d : Nat) (ij : IJ) : EV (d + 1) T0 91 [.ref 113, .ref 39] ij = runS (EV d) none 2 T0 C_X8_copyFrom k_X8_copyFrom rtV f_X8_copyFrom 1000000 0 [.ref 113, .ref 39] [] ij := rfl
set_option maxRecDepth 100000 in
theorem e_X8_copyFrom_116_39 (d : Nat) (ij : IJ) : EV (d + 1) T0 91 [.ref 116, .ref 39] ij = runS (EV d) none 2 T0 C_X8_copyFrom k_X8_copyFrom rtV f_X8_copyFrom 1000000 0 [.ref 116, .ref 39] [] ij := rfl
set_option maxRecDepth 100000 in
theorem e_X8_copyFrom_119_39 (d : Nat) (ij : IJ) : EV (d + 1) T0 91 [.ref 119, .ref 39] ij = runS (EV d) none 2 T0 C_X8_copyFrom k_X8_copyFrom rtV f_X8_copyFrom 1000000 0 [.ref 119, .ref 39] [] ij := rfl
set_option maxRecDepth 100000 in
theorem e_X8_copyFrom_122_39 (d : Nat) (ij : IJ) : EV (d + 1) T0 91 [.ref 122, .ref 39] ij = runS (EV d) none 2 T0 C_X8_copyFrom k_X8_copyFrom rtV f_X8_copyFrom 1000000 0 [.ref 122, .ref 39] [] ij := rfl
set_option maxRecDepth 100000 in
theorem e_X8_copyFrom_125_39 (d : Nat) (ij : IJ) : EV (d + 1) T0 91 [.ref 125, .ref 39] ij = runS (EV d) none 2 T0 C_X8_copyFrom k_X8_copyFrom rtV f_X8_copyFrom 1000000 0 [.ref 125, .ref 39] [] ij := rfl
set_option maxRecDepth 100000 in
theorem e_X8_copyFrom_128_39 (d : Nat) (ij : IJ) : EV (d + 1) T0 91 [.ref 128, .ref 39] ij = runS (EV d) none 2 T0 C_X8_copyFrom k_X8_copyFrom rtV f_X8_copyFrom 1000000 0 [.ref 128, .ref 39] [] ij := rfl
set_option maxRecDepth 100000 in
theorem e_X8_copyFrom_131_39 (d : Nat) (ij : IJ) : EV (d + 1) T0 91 [.ref 131, .ref 39] ij = runS (EV d) none 2 T0 C_X8_copyFrom k_X8_copyFrom rtV f_X8_copyFrom 1000000 0 [.ref 131, .ref 39] [] ij := rfl
set_option maxRecDepth 100000 in
theorem e_X8_copyFrom_134_39 (d : Nat) (ij : IJ) : EV (d + 1) T0 91 [.ref 134, .ref 39] ij = runS (EV d) none 2 T0 C_X8_copyFrom k_X8_copyFrom rtV f_X8_copyFrom 1000000 0 [.ref 134, .ref 39] [] ij := rfl
set_option maxRecDepth 100000 in
theorem e_X8_copyFrom_137_39 (d : Nat) (ij : IJ) : EV (d + 1) T0 91 [.ref 137, .ref 39] ij = runS (EV d) none 2 T0 C_X8_copyFrom k_X8_copyFrom rtV f_X8_copyFrom 1000000 0 [.ref 137, .ref 39] [] ij := rfl
set_option maxRecDepth 100000 in
theorem e_X8_copyFrom_140_39 (d : Nat) (ij : IJ) : EV (d + 1) T0 91 [.ref 140, .ref 39] ij = runS (EV d) none 2 T0 C_X8_copyFrom k_X8_copyFrom rtV f_X8_copyFrom 1000000 0 [.ref 140, .ref 39] [] ij := rfl
set_option maxRecDepth 100000 in
theorem e_X8_copyFrom_143_39 (d : Nat) (ij : IJ) : EV (d + 1) T0 91 [.ref 143, .ref 39] ij = runS (EV d) none 2 T0 C_X8_copyFrom k_X8_copyFrom rtV f_X8_copyFrom 1000000 0 [.ref 143, .ref 39] [] ij := rfl
set_option maxRecDepth 100000 in
theorem e_X8_copyFrom_146_39 (d : Nat) (ij : IJ) : EV (d + 1) T0 91 [.ref 146, .ref 39] ij = runS (EV d) none 2 T0 C_X8_copyFrom k_X8_copyFrom rtV f_X8_copyFrom 1000000 0 [.ref 146, .ref 39] [] ij := rfl
set_option maxRecDepth 100000 in
theorem e_X8_copyFrom_149_39 (d : Nat) (ij : IJ) : EV (d + 1) T0 91 [.ref 149, .ref 39] ij = runS (EV d) none 2 T0 C_X8_copyFrom k_X8_copyFrom rtV f_X8_copyFrom 1000000 0 [.ref 149, .ref 39] [] ij := rfl
set_option maxRecDepth 100000 in
theorem e_X8_copyFrom_152_39 (d : Nat) (ij : IJ) : EV (d + 1) T0 91 [.ref 152, .ref 39] ij = runS (EV d) none 2 T0 C_X8_copyFrom k_X8_copyFrom rtV f_X8_copyFrom 1000000 0 [.ref 152, .ref 39] [] ij := rfl
set_option maxRecDepth 100000 in
theorem e_X8_copyFrom_155_39 (d : Nat) (ij : IJ) : EV (d + 1) T0 91 [.ref 155, .ref 39] ij = runS (EV d) none 2 T0 C_X8_copyFrom k_X8_copyFrom rtV f_X8_copyFrom 1000000 0 [.ref 155, .ref 39] [] ij := rfl
set_option maxRecDepth 100000 in
theorem e_X8_copyFrom_158_39 (d : Nat) (ij : IJ) : EV (d + 1) T0 91 [.ref 158, .ref 39] ij = runS (EV d) none 2 T0 C_X8_copyFrom k_X8_copyFrom rtV f_X8_copyFrom 1000000 0 [.ref 158, .ref 39] [] ij := rfl
set_option maxRecDepth 100000 in
theorem e_X8_copyFrom_161_39 (d : Nat) (ij : IJ) : EV (d + 1) T0 91 [.ref 161, .ref 39] ij = runS (EV d) none 2 T0 C_X8_copyFrom k_X8_copyFrom rtV f_X8_copyFrom 1000000 0 [.ref 161, .ref 39] [] ij := rfl
set_option maxRecDepth 100000 in
theorem e_X8_copyFrom_164_39 (d : Nat) (ij : IJ) : EV (d + 1) T0 91 [.ref 164, .ref 39] ij = runS (EV d) none 2 T0 C_X8_copyFrom k_X8_copyFrom rtV f_X8_copyFrom 1000000 0 [.ref 164, .ref 39] [] ij := rfl
set_option maxRecDepth 100000 in
theorem e_X8_copyFrom_39_183 (d : Nat) (ij : IJ) : EV (d + 1) T0 91 [.ref 39, .ref 183] ij = runS (EV d) none 2 T0 C_X8_copyFrom k_X8_copyFrom rtV f_X8_copyFrom 1000000 0 [.ref 39, .ref 183] [] ij := rfl
set_option maxRecDepth 100000 in
theorem e_X8_copyFrom_39_186 (d : Nat) (ij : IJ) : EV (d + 1) T0 91 [.ref 39, .ref 186] ij = runS (EV d) none 2 T0 C_X8_copyFrom k_X8_copyFrom rtV f_X8_copyFrom 1000000 0 [.ref 39, .ref 186] [] ij := rfl
set_option maxRecDepth 100000 in
theorem e_X8_copyFrom_39_189 (d : Nat) (ij : IJ) : EV (d + 1) T0 91 [.ref 39, .ref 189] ij = runS (EV d) none 2 T0 C_X8_copyFrom k_X8_copyFrom rtV f_X8_copyFrom 1000000 0 [.ref 39, .ref 189] [] ij := rfl
set_option maxRecDepth 100000 in
theorem e_X8_copyFrom_39_47 (d : Nat) (ij : IJ) : EV (d + 1) T0 91 [.ref 39, .ref 47] ij = runS (EV d) none 2 T0 C_X8_copyFrom k_X8_copyFrom rtV f_X8_copyFrom 1000000 0 [.ref 39, .ref 47] [] ij := rfl
set_option maxRecDepth 100000 in
theorem e_X8_copyFrom_39_50 (d : Nat) (ij : IJ) : EV (d + 1) T0 91 [.ref 39, .ref 50] ij = runS (EV d) none 2 T0 C_X8_copyFrom k_X8_copyFrom rtV f_X8_copyFrom 1000000 0 [.ref 39, .ref 50] [] ij := rfl
set_option maxRecDepth 100000 in
theorem e_X8_copyFrom_39_53 (d : Nat) (ij : IJ) : EV (d + 1) T0 91 [.ref 39, .ref 53] ij = runS (EV d) none 2 T0 C_X8_copyFrom k_X8_copyFrom rtV f_X8_copyFrom 1000000 0 [.ref 39, .ref 53] [] ij := rfl
set_option maxRecDepth 100000 in
theorem e_X8_copyFrom_39_56 (d : Nat) (ij : IJ) : EV (d + 1) T0 91 [.ref 39, .ref 56] ij = runS (EV d) none 2 T0 C_X8_copyFrom k_X8_copyFrom rtV f_X8_copyFrom 1000000 0 [.ref 39, .ref 56] [] ij := rfl
set_option maxRecDepth 100000 in
theorem e_X8_copyFrom_39_59 (d : Nat) (ij : IJ) : EV (d + 1) T0 91 [.ref 39, .ref 59] ij = runS (EV d) none 2 T0 C_X8_copyFrom k_X8_copyFrom rtV f_X8_copyFrom 1000000 0 [.ref 39, .ref 59] [] ij := rfl
set_option maxRecDepth 100000 in
theorem e_X8_copyFrom_39_62 (d : Nat) (ij : IJ) : EV (d + 1) T0 91 [.ref 39, .ref 62] ij = runS (EV d) none 2 T0 C_X8_copyFrom k_X8_copyFrom rtV f_X8_copyFrom 1000000 0 [.ref 39, .ref 62] [] ij := rfl
set_option maxRecDepth 100000 in
theorem e_X8_copyFrom_39_65 (d : Nat) (ij : IJ) : EV (d + 1) T0 91 [.ref 39, .ref 65] ij = runS (EV d) none 2 T0 C_X8_copyFrom k_X8_copyFrom rtV f_X8_copyFrom 1000000 0 [.ref 39, .ref 65] [] ij := rfl
set_option maxRecDepth 100000 in
theorem e_X8_copyFrom_39_68 (d : Nat) (ij : IJ) : EV (d + 1) T0 91 [.ref 39, .ref 68] ij = runS (EV d) none 2 T0 C_X8_copyFrom k_X8_copyFrom rtV f_X8_copyFrom 1000000 0 [.ref 39, .ref 68] [] ij := rfl
set_option maxRecDepth 100000 in
theorem e_X8_copyFrom_39_71 (d : Nat) (ij : IJ) : EV (d + 1) T0 91 [.ref 39, .ref 71] ij = runS (EV d) none 2 T0 C_X8_copyFrom k_X8_copyFrom rtV f_X8_copyFrom 1000000 0 [.ref 39, .ref 71] [] ij := rfl
set_option maxRecDepth 100000 in
theorem e_X8_copyFrom_39_74 (d : Nat) (ij : IJ) : EV (d + 1) T0 91 [.ref 39, .ref 74] ij = runS (EV d) none 2 T0 C_X8_copyFrom k_X8_copyFrom rtV f_X8_copyFrom 1000000 0 [.ref 39, .ref 74] [] ij := rfl
set_option maxRecDepth 100000 in
theorem e_X8_copyFrom_39_77 (d : Nat) (ij : IJ) : EV (d + 1) T0 91 [.ref 39, .ref 77] ij = runS (EV d) none 2 T0 C_X8_copyFrom k_X8_copyFrom rtV f_X8_copyFrom 1000000 0 [.ref 39, .ref 77] [] ij := rfl
set_option maxRecDepth 100000 in
theorem e_X8_copyFrom_39_80 (d : Nat) (ij : IJ) : EV (d + 1) T0 91 [.ref 39, .ref 80] ij = runS (EV d) none 2 T0 C_X8_copyFrom k_X8_copyFrom rtV f_X8_copyFrom 1000000 0 [.ref 39, .ref 80] [] ij := rfl
set_option maxRecDepth 100000 in
theorem e_X8_copyFrom_39_83 (d : Nat) (ij : IJ) : EV (d + 1) T0 91 [.ref 39, .ref 83] ij = runS (EV d) none 2 T0 C_X8_copyFrom k_X8_copyFrom rtV f_X8_copyFrom 1000000 0 [.ref 39, .ref 83] [] ij := rfl
set_option maxRecDepth 100000 in
theorem e_X8_copyFrom_39_86 (d : Nat) (ij : IJ) : EV (d + 1) T0 91 [.ref 39, .ref 86] ij = runS (EV d) none 2 T0 C_X8_copyFrom k_X8_copyFrom rtV f_X8_copyFrom 1000000 0 [.ref 39, .ref 86] [] ij := rfl
set_option maxRecDepth 100000 in
theorem e_X8_copyFrom_39_89 (d : Nat) (ij : IJ) : EV (d + 1) T0 91 [.ref 39, .ref 89] ij = runS (EV d) none 2 T0 C_X8_copyFrom k_X8_copyFrom rtV f_X8_copyFrom 1000000 0 [.ref 39, .ref 89] [] ij := rfl
set_option maxRecDepth 100000 in
theorem e_X8_copyFrom_39_92 (d : Nat) (ij : IJ) : EV (d + 1) T0 91 [.ref 39, .ref 92] ij = runS (EV d) none 2 T0 C_X8_copyFrom k_X8_copyFrom rtV f_X8_copyFrom 1000000 0 [.ref 39, .ref 92] [] ij := rfl
set_option maxRecDepth 100000 in
theorem e_X8_copyFrom_39_95 (d : Nat) (ij : IJ) : EV (d + 1) T0 91 [.ref 39, .ref 95] ij = runS (EV d) none 2 T0 C_X8_copyFrom k_X8_copyFrom rtV f_X8_copyFrom 1000000 0 [.ref 39, .ref 95] [] ij := rfl
set_option maxRecDepth 100000 in
theorem e_X8_copyFrom_39_98 (d : Nat) (ij : IJ) : EV (d + 1) T0 91 [.ref 39, .ref 98] ij = runS (EV d) none 2 T0 C_X8_copyFrom k_X8_copyFrom rtV f_X8_copyFrom 1000000 0 [.ref 39, .ref 98] [] ij := rfl
set_option maxRecDepth 100000 in
theorem e_X8_copyFrom_39_101 (d : Nat) (ij : IJ) : EV (d + 1) T0 91 [.ref 39, .ref 101] ij = runS (EV d) none 2 T0 C_X8_copyFrom k_X8_copyFrom rtV f_X8_copyFrom 1000000 0 [.ref 39, .ref 101] [] ij := rfl
set_option maxRecDepth 100000 in
theorem e_X8_copyFrom_39_104 (d : Nat) (ij : IJ) : EV (d + 1) T0 91 [.ref 39, .ref 104] ij = runS (EV d) none 2 T0 C_X8_copyFrom k_X8_copyFrom rtV f_X8_copyFrom 1000000 0 [.ref 39, .ref 104] [] ij := rfl
set_option maxRecDepth 100000 in
theorem e_X8_copyFrom_39_107 (d : Nat) (ij : IJ) : EV (d + 1) T0 91 [.ref 39, .ref 107] ij = runS (EV d) none 2 T0 C_X8_copyFrom k_X8_copyFrom rtV f_X8_copyFrom 1000000 0 [.ref 39, .ref 107] [] ij := rfl
set_option maxRecDepth 100000 in
theorem e_X8_copyFrom_39_110 (d : Nat) (ij : IJ) : EV (d + 1) T0 91 [.ref 39, .ref 110] ij = runS (EV d) none 2 T0 C_X8_copyFrom k_X8_copyFrom rtV f_X8_copyFrom 1000000 0 [.ref 39, .ref 110] [] ij := rfl
set_option maxRecDepth 100000 in
theorem e_X8_copyFrom_39_113 (d : Nat) (ij : IJ) : EV (d + 1) T0 91 [.ref 39, .ref 113] ij = runS (EV d) none 2 T0 C_X8_copyFrom k_X8_copyFrom rtV f_X8_copyFrom 1000000 0 [.ref 39, .ref 113] [] ij := rfl
set_option maxRecDepth 100000 in
theorem e_X8_copyFrom_39_116 (d : Nat) (ij : IJ) : EV (d + 1) T0 91 [.ref 39, .ref 116] ij = runS (EV d) none 2 T0 C_X8_copyFrom k_X8_copyFrom rtV f_X8_copyFrom 1000000 0 [.ref 39, .ref 116] [] ij := rfl
set_option maxRecDepth 100000 in
theorem e_X8_copyFrom_39_119 (d : Nat) (ij : IJ) : EV (d + 1) T0 91 [.ref 39, .ref 119] ij = runS (EV d) none 2 T0 C_X8_copyFrom k_X8_copyFrom rtV f_X8_copyFrom 1000000 0 [.ref 39, .ref 119] [] ij := rfl
set_option maxRecDepth 100000 in
theorem e_X8_copyFrom_39_122 (d : Nat) (ij : IJ) : EV (d + 1) T0 91 [.ref 39, .ref 122] ij = runS (EV d) none 2 T0 C_X8_copyFrom k_X8_copyFrom rtV f_X8_copyFrom 1000000 0 [.ref 39, .ref 122] [] ij := rfl
set_option maxRecDepth 100000 in
theorem e_X8_copyFrom_39_125 (d : Nat) (ij : IJ) : EV (d + 1) T0 91 [.ref 39, .ref 125] ij = runS (EV d) none 2 T0 C_X8_copyFrom k_X8_copyFrom rtV f_X8_copyFrom 1000000 0 [.ref 39, .ref 125] [] ij := rfl
set_option maxRecDepth 100000 in
theorem e_X8_copyFrom_39_128 (d : Nat) (ij : IJ) : EV (d + 1) T0 91 [.ref 39, .ref 128] ij = runS (EV d) none 2 T0 C_X8_copyFrom k_X8_copyFrom rtV f_X8_copyFrom 1000000 0 [.ref 39, .ref 128] [] ij := rfl
set_option maxRecDepth 100000 in
theorem e_X8_copyFrom_39_131 (d : Nat) (ij : IJ) : EV (d + 1) T0 91 [.ref 39, .ref 131] ij = runS (EV d) none 2 T0 C_X8_copyFrom k_X8_copyFrom rtV f_X8_copyFrom 1000000 0 [.ref 39, .ref 131] [] ij := rfl
set_option maxRecDepth 100000 in
theorem e_X8_copyFrom_39_134 (d : Nat) (ij : IJ) : EV (d + 1) T0 91 [.ref 39, .ref 134] ij = runS (EV d) none 2 T0 C_X8_copyFrom k_X8_copyFrom rtV f_X8_copyFrom 1000000 0 [.ref 39, .ref 134] [] ij := rfl
set_option maxRecDepth 100000 in
theorem e_X8_copyFrom_39_137 (d : Nat) (ij : IJ) : EV (d + 1) T0 91 [.ref 39, .ref 137] ij = runS (EV d) none 2 T0 C_X8_copyFrom k_X8_copyFrom rtV f_X8_copyFrom 1000000 0 [.ref 39, .ref 137] [] ij := rfl
set_option maxRecDepth 100000 in
theorem e_X8_copyFrom_39_140 (d : Nat) (ij : IJ) : EV (d + 1) T0 91 [.ref 39, .ref 140] ij = runS (EV d) none 2 T0 C_X8_copyFrom k_X8_copyFrom rtV f_X8_copyFrom 1000000 0 [.ref 39, .ref 140] [] ij := rfl
set_option maxRecDepth 100000 in
theorem e_X8_copyFrom_39_143 (d : Nat) (ij : IJ) : EV (d + 1) T0 91 [.ref 39, .ref 143] ij = runS (EV d) none 2 T0 C_X8_copyFrom k_X8_copyFrom rtV f_X8_copyFrom 1000000 0 [.ref 39, .ref 143] [] ij := rfl
set_option maxRecDepth 100000 in
theorem e_X8_copyFrom_39_146 (d : Nat) (ij : IJ) : EV (d + 1) T0 91 [.ref 39, .ref 146] ij = runS (EV d) none 2 T0 C_X8_copyFrom k_X8_copyFrom rtV f_X8_copyFrom 1000000 0 [.ref 39, .ref 146] [] ij := rfl
set_option maxRecDepth 100000 in
theorem e_X8_copyFrom_39_149 (d : Nat) (ij : IJ) : EV (d + 1) T0 91 [.ref 39, .ref 149] ij = runS (EV d) none 2 T0 C_X8_copyFrom k_X8_copyFrom rtV f_X8_copyFrom 1000000 0 [.ref 39, .ref 149] [] ij := rfl
set_option maxRecDepth 100000 in
theorem e_X8_copyFrom_39_152 (d : Nat) (ij : IJ) : EV (d + 1) T0 91 [.ref 39, .ref 152] ij = runS (EV d) none 2 T0 C_X8_copyFrom k_X8_copyFrom rtV f_X8_copyFrom 1000000 0 [.ref 39, .ref 152] [] ij := rfl
set_option maxRecDepth 100000 in
theorem e_X8_copyFrom_39_155 (d : Nat) (ij : IJ) : EV (d + 1) T0 91 [.ref 39, .ref 155] ij = runS (EV d) none 2 T0 C_X8_copyFrom k_X8_copyFrom rtV f_X8_copyFrom 1000000 0 [.ref 39, .ref 155] [] ij := rfl
set_option maxRecDepth 100000 in
theorem e_X8_copyFrom_39_158 (d : Nat) (ij : IJ) : EV (d + 1) T0 91 [.ref 39, .ref 158] ij = runS (EV d) none 2 T0 C_X8_copyFrom k_X8_copyFrom rtV f_X8_copyFrom 1000000 0 [.ref 39, .ref 158] [] ij := rfl
set_option maxRecDepth 100000 in
theorem e_X8_copyFrom_39_161 (d : Nat) (ij : IJ) : EV (d + 1) T0 91 [.ref 39, .ref 161] ij = runS (EV d) none 2 T0 C_X8_copyFrom k_X8_copyFrom rtV f_X8_copyFrom 1000000 0 [.ref 39, .ref 161] [] ij := rfl
set_option maxRecDepth 100000 in
theorem e_X8_copyFrom_39_164 (d : Nat) (ij : IJ) : EV (d + 1) T0 91 [.ref 39, .ref 164] ij = runS (EV d) none 2 T0 C_X8_copyFrom k_X8_copyFrom rtV f_X8_copyFrom 1000000 0 [.ref 39, .ref 164] [] ij := rfl
set_option maxRecDepth 100000 in
theorem e_X8_cartField_39 (d : Nat) (a1 a2 : Int32) (ij : IJ) : EV (d + 1) T0 92 [.ref 39, .int a1, .int a2] ij = runS (EV d) none 3 T0 C_X8_cartField k_X8_cartField rtI f_X8_cartField 1000000 0 [.ref 39, .int a1, .int a2] [] ij := rfl
set_option maxRecDepth 100000 in
theorem e_X8_cartField_42 (d : Nat) (a1 a2 : Int32) (ij : IJ) : EV (d + 1) T0 92 [.ref 42, .int a1, .int a2] ij = runS (EV d) none 3 T0 C_X8_cartField k_X8_cartField rtI f_X8_cartField 1000000 0 [.ref 42, .int a1, .int a2] [] ij := rfl
set_option maxRecDepth 100000 in
theorem e_X8_setCartField_39 (d : Nat) (a1 a2 a3 : Int32) (ij : IJ) : EV (d + 1) T0 93 [.ref 39, .int a1, .int a2, .int a3] ij = runS (EV d) none 4 T0 C_X8_setCartField k_X8_setCartField rtV f_X8_setCartField 1000000 0 [.ref 39, .int a1, .int a2, .int a3] [] ij := rfl
set_option maxRecDepth 100000 in
theorem e_X8_setCartField_42 (d : Nat) (a1 a2 a3 : Int32) (ij : IJ) : EV (d + 1) T0 93 [.ref 42, .int a1, .int a2, .int a3] ij = runS (EV d) none 4 T0 C_X8_setCartField k_X8_setCartField rtV f_X8_setCartField 1000000 0 [.ref 42, .int a1, .int a2, .int a3] [] ij := rfl
set_option maxRecDepth 100000 in
theorem e_X8_addToCartField_39 (d : Nat) (a1 a2 a3 : Int32) (ij : IJ) : EV (d + 1) T0 94 [.ref 39, .int a1, .int a2, .int a3] ij = runS (EV d) none 4 T0 C_X8_addToCartField k_X8_addToCartField rtV f_X8_addToCartField 1000000 0 [.ref 39, .int a1, .int a2, .int a3] [] ij := rfl
set_option maxRecDepth 100000 in
theorem e_X8_addToCartField_42 (d : Nat) (a1 a2 a3 : Int32) (ij : IJ) : EV (d + 1) T0 94 [.ref 42, .int a1, .int a2, .int a3] ij = runS (EV d) none 4 T0 C_X8_addToCartField k_X8_addToCartField rtV f_X8_addToCartField 1000000 0 [.ref 42, .int a1, .int a2, .int a3] [] ij := rfl
set_option maxRecDepth 100000 in
theorem e_X8_isOnRoad_39 (d : Nat) (a1 : Int32) (ij : IJ) : EV (d + 1) T0 95 [.ref 39, .int a1] ij = runS (EV d) none 2 T0 C_X8_isOnRoad k_X8_isOnRoad rtZ f_X8_isOnRoad 1000000 0 [.ref 39, .int a1] [] ij := rfl
set_option maxRecDepth 100000 in
theorem e_X8_isOnRoad_42 (d : Nat) (a1 : Int32) (ij : IJ) : EV (d + 1) T0 95 [.ref 42, .int a1] ij = runS (EV d) none 2 T0 C_X8_isOnRoad k_X8_isOnRoad rtZ f_X8_isOnRoad 1000000 0 [.ref 42, .int a1] [] ij := rfl
set_option maxRecDepth 100000 in
theorem e_X8_wholeSeams_39 (d : Nat) (ij : IJ) : EV (d + 1) T0 96 [.ref 39, .ref 25] ij = runS (EV d) none 4 T0 C_X8_wholeSeams k_X8_wholeSeams rtI f_X8_wholeSeams 1000000 0 [.ref 39, .ref 25, un, un] [] ij := rfl
set_option maxRecDepth 100000 in
theorem e_X8_wholeSeams_42 (d : Nat) (ij : IJ) : EV (d + 1) T0 96 [.ref 42, .ref 25] ij = runS (EV d) none 4 T0 C_X8_wholeSeams k_X8_wholeSeams rtI f_X8_wholeSeams 1000000 0 [.ref 42, .ref 25, un, un] [] ij := rfl
set_option maxRecDepth 100000 in
theorem e_X8_cartsOnRoad_39 (d : Nat) (ij : IJ) : EV (d + 1) T0 97 [.ref 39, .ref 25] ij = runS (EV d) none 4 T0 C_X8_cartsOnRoad k_X8_cartsOnRoad rtI f_X8_cartsOnRoad 1000000 0 [.ref 39, .ref 25, un, un] [] ij := rfl
set_option maxRecDepth 100000 in
theorem e_X8_cartsOnRoad_42 (d : Nat) (ij : IJ) : EV (d + 1) T0 97 [.ref 42, .ref 25] ij = runS (EV d) none 4 T0 C_X8_cartsOnRoad k_X8_cartsOnRoad rtI f_X8_cartsOnRoad 1000000 0 [.ref 42, .ref 25, un, un] [] ij := rfl
set_option maxRecDepth 100000 in
theorem e_X8_sewnTogether (d : Nat) (ij : IJ) : EV (d + 1) T0 98 [.ref 39, .ref 25] ij = runS (EV d) none 4 T0 C_X8_sewnTogether k_X8_sewnTogether rtI f_X8_sewnTogether 1000000 0 [.ref 39, .ref 25, un, un] [] ij := rfl
set_option maxRecDepth 100000 in
theorem e_X8_evenLevel (d : Nat) (a2 : Int32) (ij : IJ) : EV (d + 1) T0 99 [.ref 39, .ref 25, .int a2] ij = runS (EV d) none 6 T0 C_X8_evenLevel k_X8_evenLevel rtI f_X8_evenLevel 1000000 0 [.ref 39, .ref 25, .int a2, un, un, un] [] ij := rfl
set_option maxRecDepth 100000 in
theorem e_X9_hasRoomFor (d : Nat) (a1 : Int32) (ij : IJ) : EV (d + 1) T0 101 [.ref 1, .int a1] ij = runS (EV d) none 2 T0 C_X9_hasRoomFor k_X9_hasRoomFor rtZ f_X9_hasRoomFor 1000000 0 [.ref 1, .int a1] [] ij := rfl
set_option maxRecDepth 100000 in
theorem e_X9_append (d : Nat) (a1 : Int32) (ij : IJ) : EV (d + 1) T0 102 [.ref 1, .int a1] ij = runS (EV d) none 3 T0 C_X9_append k_X9_append rtV f_X9_append 1000000 0 [.ref 1, .int a1, un] [] ij := rfl
set_option maxRecDepth 100000 in
theorem e_X9_byteAt (d : Nat) (a1 : Int32) (ij : IJ) : EV (d + 1) T0 103 [.ref 1, .int a1] ij = runS (EV d) none 2 T0 C_X9_byteAt k_X9_byteAt rtI f_X9_byteAt 1000000 0 [.ref 1, .int a1] [] ij := rfl
set_option maxRecDepth 100000 in
theorem e_X10_kindOf (d : Nat) (a1 : Int32) (ij : IJ) : EV (d + 1) T0 105 [.ref 18, .int a1] ij = runS (EV d) none 2 T0 C_X10_kindOf k_X10_kindOf rtI f_X10_kindOf 1000000 0 [.ref 18, .int a1] [] ij := rfl
set_option maxRecDepth 100000 in
theorem e_X10_startOf (d : Nat) (a1 : Int32) (ij : IJ) : EV (d + 1) T0 106 [.ref 18, .int a1] ij = runS (EV d) none 2 T0 C_X10_startOf k_X10_startOf rtI f_X10_startOf 1000000 0 [.ref 18, .int a1] [] ij := rfl
set_option maxRecDepth 100000 in
theorem e_X10_valueOf (d : Nat) (a1 : Int32) (ij : IJ) : EV (d + 1) T0 107 [.ref 18, .int a1] ij = runS (EV d) none 2 T0 C_X10_valueOf k_X10_valueOf rtJ f_X10_valueOf 1000000 0 [.ref 18, .int a1] [] ij := rfl
set_option maxRecDepth 100000 in
theorem e_X10_scan (d : Nat) (ij : IJ) : EV (d + 1) T0 108 [.ref 18, .ref 1] ij = runS (EV d) none 4 T0 C_X10_scan k_X10_scan rtV f_X10_scan 1000000 0 [.ref 18, .ref 1, un, un] [] ij := rfl
set_option maxRecDepth 100000 in
theorem e_X10_scanOne (d : Nat) (a2 : Int32) (ij : IJ) : EV (d + 1) T0 109 [.ref 18, .ref 1, .int a2] ij = runS (EV d) none 4 T0 C_X10_scanOne k_X10_scanOne rtI f_X10_scanOne 1000000 0 [.ref 18, .ref 1, .int a2, un] [] ij := rfl
set_option maxRecDepth 100000 in
theorem e_X10_scanLetters (d : Nat) (a2 : Int32) (ij : IJ) : EV (d + 1) T0 110 [.ref 18, .ref 1, .int a2] ij = runS (EV d) none 7 T0 C_X10_scanLetters k_X10_scanLetters rtI f_X10_scanLetters 1000000 0 [.ref 18, .ref 1, .int a2, un, un, un, un] [] ij := rfl
set_option maxRecDepth 100000 in
theorem e_X10_scanDigits (d : Nat) (a2 : Int32) (ij : IJ) : EV (d + 1) T0 111 [.ref 18, .ref 1, .int a2] ij = runS (EV d) none 6 T0 C_X10_scanDigits k_X10_scanDigits rtI f_X10_scanDigits 1000000 0 [.ref 18, .ref 1, .int a2, un, un, un] [] ij := rfl
set_option maxRecDepth 100000 in
theorem e_X10_sortOfLetters (d : Nat) (a1 : Int64) (ij : IJ) : EV (d + 1) T0 112 [.ref 18, .long a1] ij = runS (EV d) none 4 T0 C_X10_sortOfLetters k_X10_sortOfLetters rtI f_X10_sortOfLetters 1000000 0 [.ref 18, .long a1, un, un] [] ij := rfl
set_option maxRecDepth 100000 in
theorem e_X10_add (d : Nat) (a1 a2 : Int32) (a3 : Int64) (ij : IJ) : EV (d + 1) T0 113 [.ref 18, .int a1, .int a2, .long a3] ij = runS (EV d) none 5 T0 C_X10_add k_X10_add rtV f_X10_add 1000000 0 [.ref 18, .int a1, .int a2, .long a3, un] [] ij := rfl
set_option maxRecDepth 100000 in
theorem e_X10_afterBlanks (d : Nat) (a1 : Int32) (ij : IJ) : EV (d + 1) T0 114 [.ref 1, .int a1] ij = runS (EV d) none 3 T0 C_X10_afterBlanks k_X10_afterBlanks rtI f_X10_afterBlanks 1000000 0 [.ref 1, .int a1, un] [] ij := rfl
set_option maxRecDepth 100000 in
theorem e_X10_withLetter (d : Nat) (a1 : Int32) (a0 : Int64) (ij : IJ) : EV (d + 1) T0 115 [.long a0, .int a1] ij = runS (EV d) none 3 T0 C_X10_withLetter k_X10_withLetter rtJ f_X10_withLetter 1000000 0 [.long a0, un, .int a1] [] ij := rfl
set_option maxRecDepth 100000 in
theorem e_X10_isBlank (d : Nat) (a0 : Int32) (ij : IJ) : EV (d + 1) T0 116 [.int a0] ij = runS (EV d) none 1 T0 C_X10_isBlank k_X10_isBlank rtZ f_X10_isBlank 1000000 0 [.int a0] [] ij := rfl
set_option maxRecDepth 100000 in
theorem e_X10_isLetter (d : Nat) (a0 : Int32) (ij : IJ) : EV (d + 1) T0 117 [.int a0] ij = runS (EV d) none 1 T0 C_X10_isLetter k_X10_isLetter rtZ f_X10_isLetter 1000000 0 [.int a0] [] ij := rfl
set_option maxRecDepth 100000 in
theorem e_X10_isDigit (d : Nat) (a0 : Int32) (ij : IJ) : EV (d + 1) T0 118 [.int a0] ij = runS (EV d) none 1 T0 C_X10_isDigit k_X10_isDigit rtZ f_X10_isDigit 1000000 0 [.int a0] [] ij := rfl
set_option maxRecDepth 100000 in
theorem e_X11_feed (d : Nat) (a1 a2 a3 a4 a5 : Int32) (ij : IJ) : EV (d + 1) T0 120 [.ref 0, .int a1, .int a2, .int a3, .int a4, .int a5] ij = runS (EV d) none 6 T0 C_X11_feed k_X11_feed rtI f_X11_feed 1000000 0 [.ref 0, .int a1, .int a2, .int a3, .int a4, .int a5] [] ij := rfl
set_option maxRecDepth 100000 in
theorem e_X11_back (d : Nat) (a1 : Int32) (ij : IJ) : EV (d + 1) T0 121 [.ref 0, .int a1] ij = runS (EV d) none 2 T0 C_X11_back k_X11_back rtI f_X11_back 1000000 0 [.ref 0, .int a1] [] ij := rfl
set_option maxRecDepth 100000 in
theorem e_X11_read (d : Nat) (ij : IJ) : EV (d + 1) T0 122 [.ref 0] ij = runS (EV d) none 2 T0 C_X11_read k_X11_read rtI f_X11_read 1000000 0 [.ref 0, un] [] ij := rfl
set_option maxRecDepth 100000 in
theorem e_X11_place (d : Nat) (ij : IJ) : EV (d + 1) T0 123 [.ref 0] ij = runS (EV d) none 1 T0 C_X11_place k_X11_place rtI f_X11_place 1000000 0 [.ref 0] [] ij := rfl
set_option maxRecDepth 100000 in
theorem e_X11_seam (d : Nat) (a1 a2 : Int32) (ij : IJ) : EV (d + 1) T0 124 [.ref 0, .int a1, .int a2] ij = runS (EV d) none 4 T0 C_X11_seam k_X11_seam rtI f_X11_seam 1000000 0 [.ref 0, .int a1, .int a2, un] [] ij := rfl
set_option maxRecDepth 100000 in
theorem e_X11_cart (d : Nat) (a1 a2 : Int32) (ij : IJ) : EV (d + 1) T0 125 [.ref 0, .int a1, .int a2] ij = runS (EV d) none 3 T0 C_X11_cart k_X11_cart rtI f_X11_cart 1000000 0 [.ref 0, .int a1, .int a2] [] ij := rfl
set_option maxRecDepth 100000 in
theorem e_X11_toll (d : Nat) (a1 a2 : Int32) (ij : IJ) : EV (d + 1) T0 126 [.ref 0, .int a1, .int a2] ij = runS (EV d) none 3 T0 C_X11_toll k_X11_toll rtI f_X11_toll 1000000 0 [.ref 0, .int a1, .int a2] [] ij := rfl
set_option maxRecDepth 100000 in
theorem e_X11_sew (d : Nat) (a1 a2 : Int32) (ij : IJ) : EV (d + 1) T0 127 [.ref 0, .int a1, .int a2] ij = runS (EV d) none 4 T0 C_X11_sew k_X11_sew rtI f_X11_sew 1000000 0 [.ref 0, .int a1, .int a2, un] [] ij := rfl
set_option maxRecDepth 100000 in
theorem e_X11_cut (d : Nat) (a1 : Int32) (ij : IJ) : EV (d + 1) T0 128 [.ref 0, .int a1] ij = runS (EV d) none 3 T0 C_X11_cut k_X11_cut rtI f_X11_cut 1000000 0 [.ref 0, .int a1, un] [] ij := rfl
set_option maxRecDepth 100000 in
theorem e_X11_unpick (d : Nat) (a1 a2 : Int32) (ij : IJ) : EV (d + 1) T0 129 [.ref 0, .int a1, .int a2] ij = runS (EV d) none 4 T0 C_X11_unpick k_X11_unpick rtI f_X11_unpick 1000000 0 [.ref 0, .int a1, .int a2, un] [] ij := rfl
set_option maxRecDepth 100000 in
theorem e_X11_send (d : Nat) (a1 : Int32) (ij : IJ) : EV (d + 1) T0 130 [.ref 0, .int a1] ij = runS (EV d) none 2 T0 C_X11_send k_X11_send rtZ f_X11_send 1000000 0 [.ref 0, .int a1] [] ij := rfl
set_option maxRecDepth 100000 in
theorem e_X11_weeks (d : Nat) (a1 : Int32) (ij : IJ) : EV (d + 1) T0 131 [.ref 0, .int a1] ij = runS (EV d) none 2 T0 C_X11_weeks k_X11_weeks rtI f_X11_weeks 1000000 0 [.ref 0, .int a1] [] ij := rfl
set_option maxRecDepth 100000 in
theorem e_X11_undo (d : Nat) (ij : IJ) : EV (d + 1) T0 132 [.ref 0] ij = runS (EV d) none 1 T0 C_X11_undo k_X11_undo rtZ f_X11_undo 1000000 0 [.ref 0] [] ij := rfl
set_option maxRecDepth 100000 in
theorem e_X11_far (d : Nat) (a1 a2 : Int32) (ij : IJ) : EV (d + 1) T0 133 [.ref 0, .int a1, .int a2] ij = runS (EV d) none 3 T0 C_X11_far k_X11_far rtI f_X11_far 1000000 0 [.ref 0, .int a1, .int a2] [] ij := rfl
set_option maxRecDepth 100000 in
theorem e_X11_hops (d : Nat) (a1 a2 : Int32) (ij : IJ) : EV (d + 1) T0 134 [.ref 0, .int a1, .int a2] ij = runS (EV d) none 6 T0 C_X11_hops k_X11_hops rtI f_X11_hops 1000000 0 [.ref 0, .int a1, .int a2, un, un, un] [] ij := rfl
set_option maxRecDepth 100000 in
theorem e_X11_joined (d : Nat) (a1 : Int32) (ij : IJ) : EV (d + 1) T0 135 [.ref 0, .int a1] ij = runS (EV d) none 2 T0 C_X11_joined k_X11_joined rtI f_X11_joined 1000000 0 [.ref 0, .int a1] [] ij := rfl
set_option maxRecDepth 100000 in
theorem e_X11_hangs (d : Nat) (ij : IJ) : EV (d + 1) T0 136 [.ref 0] ij = runS (EV d) none 1 T0 C_X11_hangs k_X11_hangs rtI f_X11_hangs 1000000 0 [.ref 0] [] ij := rfl
set_option maxRecDepth 100000 in
theorem e_X11_takes (d : Nat) (a1 a2 : Int32) (ij : IJ) : EV (d + 1) T0 137 [.ref 0, .int a1, .int a2] ij = runS (EV d) none 3 T0 C_X11_takes k_X11_takes rtI f_X11_takes 1000000 0 [.ref 0, .int a1, .int a2] [] ij := rfl
set_option maxRecDepth 100000 in
theorem e_X11_sewing (d : Nat) (a1 a2 a3 : Int32) (ij : IJ) : EV (d + 1) T0 138 [.ref 0, .int a1, .int a2, .int a3] ij = runS (EV d) none 5 T0 C_X11_sewing k_X11_sewing rtI f_X11_sewing 1000000 0 [.ref 0, .int a1, .int a2, .int a3, un] [] ij := rfl
set_option maxRecDepth 100000 in
theorem e_X11_surest (d : Nat) (a1 a2 : Int32) (ij : IJ) : EV (d + 1) T0 139 [.ref 0, .int a1, .int a2] ij = runS (EV d) none 4 T0 C_X11_surest k_X11_surest rtI f_X11_surest 1000000 0 [.ref 0, .int a1, .int a2, un] [] ij := rfl
set_option maxRecDepth 100000 in
theorem e_X11_soon (d : Nat) (a1 a2 : Int32) (ij : IJ) : EV (d + 1) T0 140 [.ref 0, .int a1, .int a2] ij = runS (EV d) none 5 T0 C_X11_soon k_X11_soon rtI f_X11_soon 1000000 0 [.ref 0, .int a1, .int a2, un, un] [] ij := rfl
set_option maxRecDepth 100000 in
theorem e_X11_holds (d : Nat) (a1 a2 : Int32) (ij : IJ) : EV (d + 1) T0 141 [.ref 0, .int a1, .int a2] ij = runS (EV d) none 4 T0 C_X11_holds k_X11_holds rtI f_X11_holds 1000000 0 [.ref 0, .int a1, .int a2, un] [] ij := rfl
set_option maxRecDepth 100000 in
theorem e_X11_rows (d : Nat) (ij : IJ) : EV (d + 1) T0 142 [.ref 0] ij = runS (EV d) none 1 T0 C_X11_rows k_X11_rows rtI f_X11_rows 1000000 0 [.ref 0] [] ij := rfl
set_option maxRecDepth 100000 in
theorem e_X11_march (d : Nat) (a1 : Int32) (ij : IJ) : EV (d + 1) T0 143 [.ref 0, .int a1] ij = runS (EV d) none 2 T0 C_X11_march k_X11_march rtI f_X11_march 1000000 0 [.ref 0, .int a1] [] ij := rfl
set_option maxRecDepth 100000 in
theorem e_X11_doubles (d : Nat) (a1 a2 a3 : Int32) (ij : IJ) : EV (d + 1) T0 144 [.ref 0, .int a1, .int a2, .int a3] ij = runS (EV d) none 4 T0 C_X11_doubles k_X11_doubles rtI f_X11_doubles 1000000 0 [.ref 0, .int a1, .int a2, .int a3] [] ij := rfl
set_option maxRecDepth 100000 in
theorem e_X11_then (d : Nat) (a1 a2 : Int32) (ij : IJ) : EV (d + 1) T0 145 [.ref 0, .int a1, .int a2] ij = runS (EV d) none 3 T0 C_X11_then k_X11_then rtI f_X11_then 1000000 0 [.ref 0, .int a1, .int a2] [] ij := rfl
set_option maxRecDepth 100000 in
theorem e_X11_cartIn (d : Nat) (a1 a2 a3 : Int32) (ij : IJ) : EV (d + 1) T0 146 [.ref 0, .int a1, .int a2, .int a3] ij = runS (EV d) none 5 T0 C_X11_cartIn k_X11_cartIn rtI f_X11_cartIn 1000000 0 [.ref 0, .int a1, .int a2, .int a3, un] [] ij := rfl
set_option maxRecDepth 100000 in
theorem e_X11_year (d : Nat) (a1 a2 a3 a4 : Int32) (ij : IJ) : EV (d + 1) T0 147 [.ref 0, .int a1, .int a2, .int a3, .int a4] ij = runS (EV d) none 7 T0 C_X11_year k_X11_year rtI f_X11_year 1000000 0 [.ref 0, .int a1, .int a2, .int a3, .int a4, un, un] [] ij := rfl
set_option maxRecDepth 100000 in
theorem e_X11_tell (d : Nat) (a1 a2 a3 : Int32) (ij : IJ) : EV (d + 1) T0 148 [.ref 0, .int a1, .int a2, .int a3] ij = runS (EV d) none 4 T0 C_X11_tell k_X11_tell rtI f_X11_tell 1000000 0 [.ref 0, .int a1, .int a2, .int a3] [] ij := rfl
set_option maxRecDepth 100000 in
theorem e_X11_forget (d : Nat) (ij : IJ) : EV (d + 1) T0 149 [.ref 0] ij = runS (EV d) none 2 T0 C_X11_forget k_X11_forget rtI f_X11_forget 1000000 0 [.ref 0, un] [] ij := rfl
set_option maxRecDepth 100000 in
theorem e_X11_cuts (d : Nat) (a1 a2 : Int32) (ij : IJ) : EV (d + 1) T0 150 [.ref 0, .int a1, .int a2] ij = runS (EV d) none 4 T0 C_X11_cuts k_X11_cuts rtI f_X11_cuts 1000000 0 [.ref 0, .int a1, .int a2, un] [] ij := rfl
set_option maxRecDepth 100000 in
theorem e_X11_ask (d : Nat) (a1 : Int32) (ij : IJ) : EV (d + 1) T0 151 [.ref 0, .int a1] ij = runS (EV d) none 3 T0 C_X11_ask k_X11_ask rtI f_X11_ask 1000000 0 [.ref 0, .int a1, un] [] ij := rfl
set_option maxRecDepth 100000 in
theorem e_X11_hold (d : Nat) (a1 : Int32) (ij : IJ) : EV (d + 1) T0 152 [.ref 0, .int a1] ij = runS (EV d) none 2 T0 C_X11_hold k_X11_hold rtZ f_X11_hold 1000000 0 [.ref 0, .int a1] [] ij := rfl
set_option maxRecDepth 100000 in
theorem e_X11_restore (d : Nat) (a1 : Int32) (ij : IJ) : EV (d + 1) T0 153 [.ref 0, .int a1] ij = runS (EV d) none 2 T0 C_X11_restore k_X11_restore rtZ f_X11_restore 1000000 0 [.ref 0, .int a1] [] ij := rfl
set_option maxRecDepth 100000 in
theorem e_X11_count (d : Nat) (a1 : Int32) (ij : IJ) : EV (d + 1) T0 154 [.ref 0, .int a1] ij = runS (EV d) none 2 T0 C_X11_count k_X11_count rtI f_X11_count 1000000 0 [.ref 0, .int a1] [] ij := rfl
set_option maxRecDepth 100000 in
theorem e_X11_emptySlots (d : Nat) (ij : IJ) : EV (d + 1) T0 155 [.ref 0] ij = runS (EV d) none 2 T0 C_X11_emptySlots k_X11_emptySlots rtV f_X11_emptySlots 1000000 0 [.ref 0, un] [] ij := rfl
set_option maxRecDepth 100000 in
theorem e_X11_heldSlots (d : Nat) (ij : IJ) : EV (d + 1) T0 156 [.ref 0] ij = runS (EV d) none 3 T0 C_X11_heldSlots k_X11_heldSlots rtI f_X11_heldSlots 1000000 0 [.ref 0, un, un] [] ij := rfl
set_option maxRecDepth 100000 in
theorem e_X11_lookAhead (d : Nat) (a1 : Int32) (ij : IJ) : EV (d + 1) T0 157 [.ref 0, .int a1] ij = runS (EV d) none 2 T0 C_X11_lookAhead k_X11_lookAhead rtV f_X11_lookAhead 1000000 0 [.ref 0, .int a1] [] ij := rfl
set_option maxRecDepth 100000 in
theorem e_X11_staysJoined (d : Nat) (a1 a2 a3 a4 : Int32) (ij : IJ) : EV (d + 1) T0 158 [.ref 0, .int a1, .int a2, .int a3, .int a4] ij = runS (EV d) none 7 T0 C_X11_staysJoined k_X11_staysJoined rtZ f_X11_staysJoined 1000000 0 [.ref 0, .int a1, .int a2, .int a3, .int a4, un, un] [] ij := rfl
set_option maxRecDepth 100000 in
theorem e_X11_possibleCuts (d : Nat) (a1 : Int32) (ij : IJ) : EV (d + 1) T0 159 [.ref 0, .int a1] ij = runS (EV d) none 3 T0 C_X11_possibleCuts k_X11_possibleCuts rtI f_X11_possibleCuts 1000000 0 [.ref 0, .int a1, un] [] ij := rfl
set_option maxRecDepth 100000 in
theorem e_X11_isTown (d : Nat) (a1 : Int32) (ij : IJ) : EV (d + 1) T0 160 [.ref 0, .int a1] ij = runS (EV d) none 2 T0 C_X11_isTown k_X11_isTown rtZ f_X11_isTown 1000000 0 [.ref 0, .int a1] [] ij := rfl
set_option maxRecDepth 100000 in
theorem e_X11_areTwoTowns (d : Nat) (a1 a2 : Int32) (ij : IJ) : EV (d + 1) T0 161 [.ref 0, .int a1, .int a2] ij = runS (EV d) none 3 T0 C_X11_areTwoTowns k_X11_areTwoTowns rtZ f_X11_areTwoTowns 1000000 0 [.ref 0, .int a1, .int a2] [] ij := rfl
set_option maxRecDepth 100000 in
theorem e_X11_isSeam (d : Nat) (a1 : Int32) (ij : IJ) : EV (d + 1) T0 162 [.ref 0, .int a1] ij = runS (EV d) none 2 T0 C_X11_isSeam k_X11_isSeam rtZ f_X11_isSeam 1000000 0 [.ref 0, .int a1] [] ij := rfl
set_option maxRecDepth 100000 in
theorem e_X11_isCart (d : Nat) (a1 : Int32) (ij : IJ) : EV (d + 1) T0 163 [.ref 0, .int a1] ij = runS (EV d) none 2 T0 C_X11_isCart k_X11_isCart rtZ f_X11_isCart 1000000 0 [.ref 0, .int a1] [] ij := rfl
set_option maxRecDepth 100000 in
theorem e_X11_within (d : Nat) (a0 a1 a2 : Int32) (ij : IJ) : EV (d + 1) T0 164 [.int a0, .int a1, .int a2] ij = runS (EV d) none 3 T0 C_X11_within k_X11_within rtZ f_X11_within 1000000 0 [.int a0, .int a1, .int a2] [] ij := rfl
set_option maxRecDepth 100000 in
theorem e_X11_hasBit (d : Nat) (a0 a1 : Int32) (ij : IJ) : EV (d + 1) T0 165 [.int a0, .int a1] ij = runS (EV d) none 2 T0 C_X11_hasBit k_X11_hasBit rtZ f_X11_hasBit 1000000 0 [.int a0, .int a1] [] ij := rfl
set_option maxRecDepth 100000 in
theorem e_X12_feed (d : Nat) (a1 a2 a3 a4 a5 : Int32) (ij : IJ) : EV (d + 1) T0 167 [.ref 192, .int a1, .int a2, .int a3, .int a4, .int a5] ij = runS (EV d) none 6 T0 C_X12_feed k_X12_feed rtI f_X12_feed 1000000 0 [.ref 192, .int a1, .int a2, .int a3, .int a4, .int a5] [] ij := rfl
set_option maxRecDepth 100000 in
theorem e_X12_put (d : Nat) (a1 : Int32) (ij : IJ) : EV (d + 1) T0 168 [.ref 192, .int a1] ij = runS (EV d) none 3 T0 C_X12_put k_X12_put rtV f_X12_put 1000000 0 [.ref 192, .int a1, un] [] ij := rfl
set_option maxRecDepth 100000 in
theorem e_X12_back (d : Nat) (a1 : Int32) (ij : IJ) : EV (d + 1) T0 169 [.ref 192, .int a1] ij = runS (EV d) none 2 T0 C_X12_back k_X12_back rtI f_X12_back 1000000 0 [.ref 192, .int a1] [] ij := rfl
set_option maxRecDepth 100000 in
theorem e_X12_byteAt (d : Nat) (a1 : Int32) (ij : IJ) : EV (d + 1) T0 170 [.ref 192, .int a1] ij = runS (EV d) none 2 T0 C_X12_byteAt k_X12_byteAt rtI f_X12_byteAt 1000000 0 [.ref 192, .int a1] [] ij := rfl
set_option maxRecDepth 100000 in
theorem e_X12_isDigit (d : Nat) (a0 : Int32) (ij : IJ) : EV (d + 1) T0 171 [.int a0] ij = runS (EV d) none 1 T0 C_X12_isDigit k_X12_isDigit rtZ f_X12_isDigit 1000000 0 [.int a0] [] ij := rfl
set_option maxRecDepth 100000 in
theorem e_X12_isLetter (d : Nat) (a0 : Int32) (ij : IJ) : EV (d + 1) T0 172 [.int a0] ij = runS (EV d) none 1 T0 C_X12_isLetter k_X12_isLetter rtZ f_X12_isLetter 1000000 0 [.int a0] [] ij := rfl
set_option maxRecDepth 100000 in
theorem e_X12_appends (d : Nat) (a1 : Int32) (a0 : Int64) (ij : IJ) : EV (d + 1) T0 173 [.long a0, .int a1] ij = runS (EV d) none 3 T0 C_X12_appends k_X12_appends rtJ f_X12_appends 1000000 0 [.long a0, un, .int a1] [] ij := rfl
set_option maxRecDepth 100000 in
theorem e_X12_word (d : Nat) (a0 a1 a2 a3 a4 a5 a6 : Int32) (ij : IJ) : EV (d + 1) T0 174 [.int a0, .int a1, .int a2, .int a3, .int a4, .int a5, .int a6] ij = runS (EV d) none 7 T0 C_X12_word k_X12_word rtJ f_X12_word 1000000 0 [.int a0, .int a1, .int a2, .int a3, .int a4, .int a5, .int a6] [] ij := rfl
set_option maxRecDepth 100000 in
theorem e_X12_token (d : Nat) (a1 a2 a3 : Int32) (a4 : Int64) (ij : IJ) : EV (d + 1) T0 175 [.ref 192, .int a1, .int a2, .int a3, .long a4] ij = runS (EV d) none 6 T0 C_X12_token k_X12_token rtV f_X12_token 1000000 0 [.ref 192, .int a1, .int a2, .int a3, .long a4, un] [] ij := rfl
set_option maxRecDepth 100000 in
theorem e_X12_cutsUp (d : Nat) (ij : IJ) : EV (d + 1) T0 176 [.ref 192] ij = runS (EV d) none 8 T0 C_X12_cutsUp k_X12_cutsUp rtV f_X12_cutsUp 1000000 0 [.ref 192, un, un, un, un, un, un, un] [] ij := rfl
set_option maxRecDepth 100000 in
theorem e_X12_sign (d : Nat) (a1 a2 a3 : Int32) (ij : IJ) : EV (d + 1) T0 177 [.ref 192, .int a1, .int a2, .int a3] ij = runS (EV d) none 5 T0 C_X12_sign k_X12_sign rtI f_X12_sign 1000000 0 [.ref 192, .int a1, .int a2, .int a3, un] [] ij := rfl
set_option maxRecDepth 100000 in
theorem e_X12_is (d : Nat) (a1 : Int32) (ij : IJ) : EV (d + 1) T0 178 [.ref 192, .int a1] ij = runS (EV d) none 2 T0 C_X12_is k_X12_is rtZ f_X12_is 1000000 0 [.ref 192, .int a1] [] ij := rfl
set_option maxRecDepth 100000 in
theorem e_X12_fail (d : Nat) (a1 : Int32) (ij : IJ) : EV (d + 1) T0 179 [.ref 192, .int a1] ij = runS (EV d) none 2 T0 C_X12_fail k_X12_fail rtV f_X12_fail 1000000 0 [.ref 192, .int a1] [] ij := rfl
set_option maxRecDepth 100000 in
theorem e_X12_wrong (d : Nat) (a1 a2 : Int32) (ij : IJ) : EV (d + 1) T0 180 [.ref 192, .int a1, .int a2] ij = runS (EV d) none 4 T0 C_X12_wrong k_X12_wrong rtV f_X12_wrong 1000000 0 [.ref 192, .int a1, .int a2, un] [] ij := rfl
set_option maxRecDepth 100000 in
theorem e_X12_goesOn (d : Nat) (ij : IJ) : EV (d + 1) T0 181 [.ref 192] ij = runS (EV d) none 1 T0 C_X12_goesOn k_X12_goesOn rtV f_X12_goesOn 1000000 0 [.ref 192] [] ij := rfl
set_option maxRecDepth 100000 in
theorem e_X12_must (d : Nat) (a1 : Int32) (ij : IJ) : EV (d + 1) T0 182 [.ref 192, .int a1] ij = runS (EV d) none 2 T0 C_X12_must k_X12_must rtV f_X12_must 1000000 0 [.ref 192, .int a1] [] ij := rfl
set_option maxRecDepth 100000 in
theorem e_X12_plain (d : Nat) (a1 : Int32) (ij : IJ) : EV (d + 1) T0 183 [.ref 192, .int a1] ij = runS (EV d) none 3 T0 C_X12_plain k_X12_plain rtV f_X12_plain 1000000 0 [.ref 192, .int a1, un] [] ij := rfl
set_option maxRecDepth 100000 in
theorem e_X12_read (d : Nat) (ij : IJ) : EV (d + 1) T0 184 [.ref 192] ij = runS (EV d) none 2 T0 C_X12_read k_X12_read rtI f_X12_read 1000000 0 [.ref 192, un] [] ij := rfl
set_option maxRecDepth 100000 in
theorem e_X12_place (d : Nat) (ij : IJ) : EV (d + 1) T0 185 [.ref 192] ij = runS (EV d) none 1 T0 C_X12_place k_X12_place rtI f_X12_place 1000000 0 [.ref 192] [] ij := rfl
set_option maxRecDepth 100000 in
theorem e_X12_roomFor (d : Nat) (a1 a2 : Int32) (ij : IJ) : EV (d + 1) T0 186 [.ref 192, .int a1, .int a2] ij = runS (EV d) none 3 T0 C_X12_roomFor k_X12_roomFor rtV f_X12_roomFor 1000000 0 [.ref 192, .int a1, .int a2] [] ij := rfl
set_option maxRecDepth 100000 in
theorem e_X12_toldInt (d : Nat) (a1 a2 : Int32) (ij : IJ) : EV (d + 1) T0 187 [.ref 192, .int a1, .int a2] ij = runS (EV d) none 4 T0 C_X12_toldInt k_X12_toldInt rtI f_X12_toldInt 1000000 0 [.ref 192, .int a1, .int a2, un] [] ij := rfl
set_option maxRecDepth 100000 in
theorem e_X12_tellOne (d : Nat) (ij : IJ) : EV (d + 1) T0 188 [.ref 192] ij = runS (EV d) none 2 T0 C_X12_tellOne k_X12_tellOne rtV f_X12_tellOne 1000000 0 [.ref 192, un] [] ij := rfl
set_option maxRecDepth 100000 in
theorem e_X12_named (d : Nat) (ij : IJ) : EV (d + 1) T0 189 [.ref 192] ij = runS (EV d) none 3 T0 C_X12_named k_X12_named rtI f_X12_named 1000000 0 [.ref 192, un, un] [] ij := rfl
set_option maxRecDepth 100000 in
theorem e_X12_ends (d : Nat) (a1 a2 : Int32) (ij : IJ) : EV (d + 1) T0 190 [.ref 192, .int a1, .int a2] ij = runS (EV d) none 3 T0 C_X12_ends k_X12_ends rtV f_X12_ends 1000000 0 [.ref 192, .int a1, .int a2] [] ij := rfl
set_option maxRecDepth 100000 in
theorem e_X12_knownTown (d : Nat) (ij : IJ) : EV (d + 1) T0 191 [.ref 192] ij = runS (EV d) none 3 T0 C_X12_knownTown k_X12_knownTown rtI f_X12_knownTown 1000000 0 [.ref 192, un, un] [] ij := rfl
set_option maxRecDepth 100000 in
theorem e_X12_bounded (d : Nat) (a1 a2 : Int32) (ij : IJ) : EV (d + 1) T0 192 [.ref 192, .int a1, .int a2] ij = runS (EV d) none 4 T0 C_X12_bounded k_X12_bounded rtI f_X12_bounded 1000000 0 [.ref 192, .int a1, .int a2, un] [] ij := rfl
set_option maxRecDepth 100000 in
theorem e_X12_hasSeam (d : Nat) (a1 a2 : Int32) (ij : IJ) : EV (d + 1) T0 193 [.ref 192, .int a1, .int a2] ij = runS (EV d) none 4 T0 C_X12_hasSeam k_X12_hasSeam rtZ f_X12_hasSeam 1000000 0 [.ref 192, .int a1, .int a2, un] [] ij := rfl
set_option maxRecDepth 100000 in
theorem e_X12_tellSeam (d : Nat) (ij : IJ) : EV (d + 1) T0 194 [.ref 192] ij = runS (EV d) none 5 T0 C_X12_tellSeam k_X12_tellSeam rtV f_X12_tellSeam 1000000 0 [.ref 192, un, un, un, un] [] ij := rfl
set_option maxRecDepth 100000 in
theorem e_X12_tellCart (d : Nat) (ij : IJ) : EV (d + 1) T0 195 [.ref 192] ij = runS (EV d) none 6 T0 C_X12_tellCart k_X12_tellCart rtV f_X12_tellCart 1000000 0 [.ref 192, un, un, un, un, un] [] ij := rfl
set_option maxRecDepth 100000 in
theorem e_X12_tellLaw (d : Nat) (a1 : Int32) (ij : IJ) : EV (d + 1) T0 196 [.ref 192, .int a1] ij = runS (EV d) none 4 T0 C_X12_tellLaw k_X12_tellLaw rtV f_X12_tellLaw 1000000 0 [.ref 192, .int a1, un, un] [] ij := rfl
set_option maxRecDepth 100000 in
theorem e_X12_term (d : Nat) (ij : IJ) : EV (d + 1) T0 197 [.ref 192] ij = runS (EV d) none 1 T0 C_X12_term k_X12_term rtV f_X12_term 1000000 0 [.ref 192] [] ij := rfl
set_option maxRecDepth 100000 in
theorem e_X12_emit (d : Nat) (a1 a2 : Int32) (ij : IJ) : EV (d + 1) T0 198 [.ref 192, .int a1, .int a2] ij = runS (EV d) none 3 T0 C_X12_emit k_X12_emit rtV f_X12_emit 1000000 0 [.ref 192, .int a1, .int a2] [] ij := rfl
set_option maxRecDepth 100000 in
theorem e_X12_comesOut (d : Nat) (a1 : Int32) (ij : IJ) : EV (d + 1) T0 199 [.ref 192, .int a1] ij = runS (EV d) none 3 T0 C_X12_comesOut k_X12_comesOut rtV f_X12_comesOut 1000000 0 [.ref 192, .int a1, un] [] ij := rfl
set_option maxRecDepth 100000 in
theorem e_X12_expression (d : Nat) (ij : IJ) : EV (d + 1) T0 200 [.ref 192] ij = runS (EV d) none 3 T0 C_X12_expression k_X12_expression rtV f_X12_expression 1000000 0 [.ref 192, un, un] [] ij := rfl
set_option maxRecDepth 100000 in
theorem e_X12_unit (d : Nat) (ij : IJ) : EV (d + 1) T0 201 [.ref 192] ij = runS (EV d) none 1 T0 C_X12_unit k_X12_unit rtV f_X12_unit 1000000 0 [.ref 192] [] ij := rfl
set_option maxRecDepth 100000 in
theorem e_X12_termOf (d : Nat) (a1 a2 : Int32) (ij : IJ) : EV (d + 1) T0 202 [.ref 192, .int a1, .int a2] ij = runS (EV d) none 8 T0 C_X12_termOf k_X12_termOf rtI f_X12_termOf 1000000 0 [.ref 192, .int a1, .int a2, un, un, un, un, un] [] ij := rfl
set_option maxRecDepth 100000 in
theorem e_X12_in (d : Nat) (a0 a1 a2 : Int32) (ij : IJ) : EV (d + 1) T0 203 [.int a0, .int a1, .int a2] ij = runS (EV d) none 3 T0 C_X12_in k_X12_in rtZ f_X12_in 1000000 0 [.int a0, .int a1, .int a2] [] ij := rfl
set_option maxRecDepth 100000 in
theorem e_X12_held (d : Nat) (a0 a1 a2 : Int32) (ij : IJ) : EV (d + 1) T0 204 [.int a0, .int a1, .int a2] ij = runS (EV d) none 3 T0 C_X12_held k_X12_held rtI f_X12_held 1000000 0 [.int a0, .int a1, .int a2] [] ij := rfl
set_option maxRecDepth 100000 in
theorem e_X12_isTown (d : Nat) (a1 : Int32) (ij : IJ) : EV (d + 1) T0 205 [.ref 192, .int a1] ij = runS (EV d) none 2 T0 C_X12_isTown k_X12_isTown rtZ f_X12_isTown 1000000 0 [.ref 192, .int a1] [] ij := rfl
set_option maxRecDepth 100000 in
theorem e_X12_isSeam (d : Nat) (a1 : Int32) (ij : IJ) : EV (d + 1) T0 206 [.ref 192, .int a1] ij = runS (EV d) none 2 T0 C_X12_isSeam k_X12_isSeam rtZ f_X12_isSeam 1000000 0 [.ref 192, .int a1] [] ij := rfl
set_option maxRecDepth 100000 in
theorem e_X12_isCart (d : Nat) (a1 : Int32) (ij : IJ) : EV (d + 1) T0 207 [.ref 192, .int a1] ij = runS (EV d) none 2 T0 C_X12_isCart k_X12_isCart rtZ f_X12_isCart 1000000 0 [.ref 192, .int a1] [] ij := rfl
set_option maxRecDepth 100000 in
theorem e_X12_begins (d : Nat) (ij : IJ) : EV (d + 1) T0 208 [.ref 192] ij = runS (EV d) none 2 T0 C_X12_begins k_X12_begins rtV f_X12_begins 1000000 0 [.ref 192, un] [] ij := rfl
set_option maxRecDepth 100000 in
theorem e_X12_keepsRow (d : Nat) (ij : IJ) : EV (d + 1) T0 209 [.ref 192] ij = runS (EV d) none 2 T0 C_X12_keepsRow k_X12_keepsRow rtV f_X12_keepsRow 1000000 0 [.ref 192, un] [] ij := rfl
set_option maxRecDepth 100000 in
theorem e_X12_copies (d : Nat) (ij : IJ) : EV (d + 1) T0 210 [.ref 192] ij = runS (EV d) none 2 T0 C_X12_copies k_X12_copies rtV f_X12_copies 1000000 0 [.ref 192, un] [] ij := rfl
set_option maxRecDepth 100000 in
theorem e_X12_mixed (d : Nat) (a0 a1 : Int32) (ij : IJ) : EV (d + 1) T0 211 [.int a0, .int a1] ij = runS (EV d) none 3 T0 C_X12_mixed k_X12_mixed rtI f_X12_mixed 1000000 0 [.int a0, .int a1, un] [] ij := rfl
set_option maxRecDepth 100000 in
theorem e_X12_isFrost (d : Nat) (ij : IJ) : EV (d + 1) T0 212 [.ref 192] ij = runS (EV d) none 1 T0 C_X12_isFrost k_X12_isFrost rtZ f_X12_isFrost 1000000 0 [.ref 192] [] ij := rfl
set_option maxRecDepth 100000 in
theorem e_X12_waysAt (d : Nat) (a1 : Int32) (ij : IJ) : EV (d + 1) T0 213 [.ref 192, .int a1] ij = runS (EV d) none 4 T0 C_X12_waysAt k_X12_waysAt rtI f_X12_waysAt 1000000 0 [.ref 192, .int a1, un, un] [] ij := rfl
set_option maxRecDepth 100000 in
theorem e_X12_looks (d : Nat) (a1 : Int32) (ij : IJ) : EV (d + 1) T0 214 [.ref 192, .int a1] ij = runS (EV d) none 3 T0 C_X12_looks k_X12_looks rtV f_X12_looks 1000000 0 [.ref 192, .int a1, un] [] ij := rfl
set_option maxRecDepth 100000 in
theorem e_X12_asks (d : Nat) (a1 a2 : Int32) (ij : IJ) : EV (d + 1) T0 215 [.ref 192, .int a1, .int a2] ij = runS (EV d) none 5 T0 C_X12_asks k_X12_asks rtI f_X12_asks 1000000 0 [.ref 192, .int a1, .int a2, un, un] [] ij := rfl
set_option maxRecDepth 100000 in
theorem e_X12_lawTells (d : Nat) (a1 : Int32) (ij : IJ) : EV (d + 1) T0 216 [.ref 192, .int a1] ij = runS (EV d) none 5 T0 C_X12_lawTells k_X12_lawTells rtI f_X12_lawTells 1000000 0 [.ref 192, .int a1, un, un, un] [] ij := rfl
set_option maxRecDepth 100000 in
theorem e_X12_costsNow (d : Nat) (a1 : Int32) (ij : IJ) : EV (d + 1) T0 217 [.ref 192, .int a1] ij = runS (EV d) none 2 T0 C_X12_costsNow k_X12_costsNow rtI f_X12_costsNow 1000000 0 [.ref 192, .int a1] [] ij := rfl
set_option maxRecDepth 100000 in
theorem e_X12_wearsNow (d : Nat) (a1 a2 a3 : Int32) (ij : IJ) : EV (d + 1) T0 218 [.ref 192, .int a1, .int a2, .int a3] ij = runS (EV d) none 4 T0 C_X12_wearsNow k_X12_wearsNow rtI f_X12_wearsNow 1000000 0 [.ref 192, .int a1, .int a2, .int a3] [] ij := rfl
set_option maxRecDepth 100000 in
theorem e_X12_wayOf (d : Nat) (a1 : Int32) (ij : IJ) : EV (d + 1) T0 219 [.ref 192, .int a1] ij = runS (EV d) none 3 T0 C_X12_wayOf k_X12_wayOf rtI f_X12_wayOf 1000000 0 [.ref 192, .int a1, un] [] ij := rfl
set_option maxRecDepth 100000 in
theorem e_X12_tollOf (d : Nat) (a1 a2 : Int32) (ij : IJ) : EV (d + 1) T0 220 [.ref 192, .int a1, .int a2] ij = runS (EV d) none 3 T0 C_X12_tollOf k_X12_tollOf rtI f_X12_tollOf 1000000 0 [.ref 192, .int a1, .int a2] [] ij := rfl
set_option maxRecDepth 100000 in
theorem e_X12_fillsWays (d : Nat) (ij : IJ) : EV (d + 1) T0 221 [.ref 192] ij = runS (EV d) none 2 T0 C_X12_fillsWays k_X12_fillsWays rtV f_X12_fillsWays 1000000 0 [.ref 192, un] [] ij := rfl
set_option maxRecDepth 100000 in
theorem e_X12_fillsFar (d : Nat) (a1 : Int32) (ij : IJ) : EV (d + 1) T0 222 [.ref 192, .int a1] ij = runS (EV d) none 6 T0 C_X12_fillsFar k_X12_fillsFar rtV f_X12_fillsFar 1000000 0 [.ref 192, .int a1, un, un, un, un] [] ij := rfl
set_option maxRecDepth 100000 in
theorem e_X12_areJoined (d : Nat) (a1 a2 : Int32) (ij : IJ) : EV (d + 1) T0 223 [.ref 192, .int a1, .int a2] ij = runS (EV d) none 4 T0 C_X12_areJoined k_X12_areJoined rtZ f_X12_areJoined 1000000 0 [.ref 192, .int a1, .int a2, un] [] ij := rfl
set_option maxRecDepth 100000 in
theorem e_X12_otherEnd (d : Nat) (a1 a2 : Int32) (ij : IJ) : EV (d + 1) T0 224 [.ref 192, .int a1, .int a2] ij = runS (EV d) none 4 T0 C_X12_otherEnd k_X12_otherEnd rtI f_X12_otherEnd 1000000 0 [.ref 192, .int a1, .int a2, un] [] ij := rfl
set_option maxRecDepth 100000 in
theorem e_X12_roadOf (d : Nat) (a1 : Int32) (ij : IJ) : EV (d + 1) T0 225 [.ref 192, .int a1] ij = runS (EV d) none 6 T0 C_X12_roadOf k_X12_roadOf rtI f_X12_roadOf 1000000 0 [.ref 192, .int a1, un, un, un, un] [] ij := rfl
set_option maxRecDepth 100000 in
theorem e_X12_cartGoes (d : Nat) (a1 : Int32) (ij : IJ) : EV (d + 1) T0 226 [.ref 192, .int a1] ij = runS (EV d) none 3 T0 C_X12_cartGoes k_X12_cartGoes rtV f_X12_cartGoes 1000000 0 [.ref 192, .int a1, un] [] ij := rfl
set_option maxRecDepth 100000 in
theorem e_X12_weekGoes (d : Nat) (ij : IJ) : EV (d + 1) T0 227 [.ref 192] ij = runS (EV d) none 3 T0 C_X12_weekGoes k_X12_weekGoes rtV f_X12_weekGoes 1000000 0 [.ref 192, un, un] [] ij := rfl
set_option maxRecDepth 100000 in
theorem e_X12_goes (d : Nat) (a1 : Int32) (ij : IJ) : EV (d + 1) T0 228 [.ref 192, .int a1] ij = runS (EV d) none 3 T0 C_X12_goes k_X12_goes rtV f_X12_goes 1000000 0 [.ref 192, .int a1, un] [] ij := rfl
set_option maxRecDepth 100000 in
theorem e_X12_seam (d : Nat) (a1 a2 : Int32) (ij : IJ) : EV (d + 1) T0 229 [.ref 192, .int a1, .int a2] ij = runS (EV d) none 3 T0 C_X12_seam k_X12_seam rtI f_X12_seam 1000000 0 [.ref 192, .int a1, .int a2] [] ij := rfl
set_option maxRecDepth 100000 in
theorem e_X12_cart (d : Nat) (a1 a2 : Int32) (ij : IJ) : EV (d + 1) T0 230 [.ref 192, .int a1, .int a2] ij = runS (EV d) none 3 T0 C_X12_cart k_X12_cart rtI f_X12_cart 1000000 0 [.ref 192, .int a1, .int a2] [] ij := rfl
set_option maxRecDepth 100000 in
theorem e_X12_toll (d : Nat) (a1 a2 : Int32) (ij : IJ) : EV (d + 1) T0 231 [.ref 192, .int a1, .int a2] ij = runS (EV d) none 3 T0 C_X12_toll k_X12_toll rtI f_X12_toll 1000000 0 [.ref 192, .int a1, .int a2] [] ij := rfl
set_option maxRecDepth 100000 in
theorem e_X12_records (d : Nat) (ij : IJ) : EV (d + 1) T0 232 [.ref 192] ij = runS (EV d) none 2 T0 C_X12_records k_X12_records rtV f_X12_records 1000000 0 [.ref 192, un] [] ij := rfl
set_option maxRecDepth 100000 in
theorem e_X12_sew (d : Nat) (a1 a2 : Int32) (ij : IJ) : EV (d + 1) T0 233 [.ref 192, .int a1, .int a2] ij = runS (EV d) none 5 T0 C_X12_sew k_X12_sew rtI f_X12_sew 1000000 0 [.ref 192, .int a1, .int a2, un, un] [] ij := rfl
set_option maxRecDepth 100000 in
theorem e_X12_cut (d : Nat) (a1 : Int32) (ij : IJ) : EV (d + 1) T0 234 [.ref 192, .int a1] ij = runS (EV d) none 3 T0 C_X12_cut k_X12_cut rtI f_X12_cut 1000000 0 [.ref 192, .int a1, un] [] ij := rfl
set_option maxRecDepth 100000 in
theorem e_X12_unpick (d : Nat) (a1 a2 : Int32) (ij : IJ) : EV (d + 1) T0 235 [.ref 192, .int a1, .int a2] ij = runS (EV d) none 4 T0 C_X12_unpick k_X12_unpick rtI f_X12_unpick 1000000 0 [.ref 192, .int a1, .int a2, un] [] ij := rfl
set_option maxRecDepth 100000 in
theorem e_X12_send (d : Nat) (a1 : Int32) (ij : IJ) : EV (d + 1) T0 236 [.ref 192, .int a1] ij = runS (EV d) none 2 T0 C_X12_send k_X12_send rtZ f_X12_send 1000000 0 [.ref 192, .int a1] [] ij := rfl
set_option maxRecDepth 100000 in
theorem e_X12_weeks (d : Nat) (a1 : Int32) (ij : IJ) : EV (d + 1) T0 237 [.ref 192, .int a1] ij = runS (EV d) none 2 T0 C_X12_weeks k_X12_weeks rtI f_X12_weeks 1000000 0 [.ref 192, .int a1] [] ij := rfl
set_option maxRecDepth 100000 in
theorem e_X12_undo (d : Nat) (ij : IJ) : EV (d + 1) T0 238 [.ref 192] ij = runS (EV d) none 2 T0 C_X12_undo k_X12_undo rtZ f_X12_undo 1000000 0 [.ref 192, un] [] ij := rfl
set_option maxRecDepth 100000 in
theorem e_X12_far (d : Nat) (a1 a2 : Int32) (ij : IJ) : EV (d + 1) T0 239 [.ref 192, .int a1, .int a2] ij = runS (EV d) none 3 T0 C_X12_far k_X12_far rtI f_X12_far 1000000 0 [.ref 192, .int a1, .int a2] [] ij := rfl
set_option maxRecDepth 100000 in
theorem e_X12_hops (d : Nat) (a1 a2 : Int32) (ij : IJ) : EV (d + 1) T0 240 [.ref 192, .int a1, .int a2] ij = runS (EV d) none 3 T0 C_X12_hops k_X12_hops rtI f_X12_hops 1000000 0 [.ref 192, .int a1, .int a2] [] ij := rfl
set_option maxRecDepth 100000 in
theorem e_X12_joinedTo (d : Nat) (a1 : Int32) (ij : IJ) : EV (d + 1) T0 241 [.ref 192, .int a1] ij = runS (EV d) none 4 T0 C_X12_joinedTo k_X12_joinedTo rtI f_X12_joinedTo 1000000 0 [.ref 192, .int a1, un, un] [] ij := rfl
set_option maxRecDepth 100000 in
theorem e_X12_joined (d : Nat) (a1 : Int32) (ij : IJ) : EV (d + 1) T0 242 [.ref 192, .int a1] ij = runS (EV d) none 2 T0 C_X12_joined k_X12_joined rtI f_X12_joined 1000000 0 [.ref 192, .int a1] [] ij := rfl
set_option maxRecDepth 100000 in
theorem e_X12_hangs (d : Nat) (ij : IJ) : EV (d + 1) T0 243 [.ref 192] ij = runS (EV d) none 3 T0 C_X12_hangs k_X12_hangs rtI f_X12_hangs 1000000 0 [.ref 192, un, un] [] ij := rfl
set_option maxRecDepth 100000 in
theorem e_X12_takesNow (d : Nat) (a1 a2 : Int32) (ij : IJ) : EV (d + 1) T0 244 [.ref 192, .int a1, .int a2] ij = runS (EV d) none 5 T0 C_X12_takesNow k_X12_takesNow rtI f_X12_takesNow 1000000 0 [.ref 192, .int a1, .int a2, un, un] [] ij := rfl
set_option maxRecDepth 100000 in
theorem e_X12_isSewn (d : Nat) (a0 : Int32) (ij : IJ) : EV (d + 1) T0 245 [.int a0] ij = runS (EV d) none 1 T0 C_X12_isSewn k_X12_isSewn rtZ f_X12_isSewn 1000000 0 [.int a0] [] ij := rfl
set_option maxRecDepth 100000 in
theorem e_X12_takes (d : Nat) (a1 a2 : Int32) (ij : IJ) : EV (d + 1) T0 246 [.ref 192, .int a1, .int a2] ij = runS (EV d) none 3 T0 C_X12_takes k_X12_takes rtI f_X12_takes 1000000 0 [.ref 192, .int a1, .int a2] [] ij := rfl
set_option maxRecDepth 100000 in
theorem e_X12_joinsAll (d : Nat) (a1 a2 : Int32) (ij : IJ) : EV (d + 1) T0 247 [.ref 192, .int a1, .int a2] ij = runS (EV d) none 5 T0 C_X12_joinsAll k_X12_joinsAll rtZ f_X12_joinsAll 1000000 0 [.ref 192, .int a1, .int a2, un, un] [] ij := rfl
set_option maxRecDepth 100000 in
theorem e_X12_sewing (d : Nat) (a1 a2 a3 : Int32) (ij : IJ) : EV (d + 1) T0 248 [.ref 192, .int a1, .int a2, .int a3] ij = runS (EV d) none 9 T0 C_X12_sewing k_X12_sewing rtI f_X12_sewing 1000000 0 [.ref 192, .int a1, .int a2, .int a3, un, un, un, un, un] [] ij := rfl
set_option maxRecDepth 100000 in
theorem e_X12_surest (d : Nat) (a1 a2 : Int32) (ij : IJ) : EV (d + 1) T0 249 [.ref 192, .int a1, .int a2] ij = runS (EV d) none 5 T0 C_X12_surest k_X12_surest rtI f_X12_surest 1000000 0 [.ref 192, .int a1, .int a2, un, un] [] ij := rfl
set_option maxRecDepth 100000 in
theorem e_X12_soon (d : Nat) (a1 a2 : Int32) (ij : IJ) : EV (d + 1) T0 250 [.ref 192, .int a1, .int a2] ij = runS (EV d) none 7 T0 C_X12_soon k_X12_soon rtI f_X12_soon 1000000 0 [.ref 192, .int a1, .int a2, un, un, un, un] [] ij := rfl
set_option maxRecDepth 100000 in
theorem e_X12_holdsFor (d : Nat) (a1 a2 : Int32) (ij : IJ) : EV (d + 1) T0 251 [.ref 192, .int a1, .int a2] ij = runS (EV d) none 4 T0 C_X12_holdsFor k_X12_holdsFor rtI f_X12_holdsFor 1000000 0 [.ref 192, .int a1, .int a2, un] [] ij := rfl
set_option maxRecDepth 100000 in
theorem e_X12_holds (d : Nat) (a1 a2 : Int32) (ij : IJ) : EV (d + 1) T0 252 [.ref 192, .int a1, .int a2] ij = runS (EV d) none 4 T0 C_X12_holds k_X12_holds rtI f_X12_holds 1000000 0 [.ref 192, .int a1, .int a2, un] [] ij := rfl
set_option maxRecDepth 100000 in
theorem e_X12_wholeAt (d : Nat) (a1 : Int32) (ij : IJ) : EV (d + 1) T0 253 [.ref 192, .int a1] ij = runS (EV d) none 4 T0 C_X12_wholeAt k_X12_wholeAt rtI f_X12_wholeAt 1000000 0 [.ref 192, .int a1, un, un] [] ij := rfl
set_option maxRecDepth 100000 in
theorem e_X12_rows (d : Nat) (ij : IJ) : EV (d + 1) T0 254 [.ref 192] ij = runS (EV d) none 7 T0 C_X12_rows k_X12_rows rtI f_X12_rows 1000000 0 [.ref 192, un, un, un, un, un, un] [] ij := rfl
set_option maxRecDepth 100000 in
theorem e_X12_isLong (d : Nat) (a0 : Int32) (ij : IJ) : EV (d + 1) T0 255 [.int a0] ij = runS (EV d) none 1 T0 C_X12_isLong k_X12_isLong rtZ f_X12_isLong 1000000 0 [.int a0] [] ij := rfl
set_option maxRecDepth 100000 in
theorem e_X12_march (d : Nat) (a1 : Int32) (ij : IJ) : EV (d + 1) T0 256 [.ref 192, .int a1] ij = runS (EV d) none 6 T0 C_X12_march k_X12_march rtI f_X12_march 1000000 0 [.ref 192, .int a1, un, un, un, un] [] ij := rfl
set_option maxRecDepth 100000 in
theorem e_X12_doubles (d : Nat) (a1 a2 a3 : Int32) (ij : IJ) : EV (d + 1) T0 257 [.ref 192, .int a1, .int a2, .int a3] ij = runS (EV d) none 8 T0 C_X12_doubles k_X12_doubles rtI f_X12_doubles 1000000 0 [.ref 192, .int a1, .int a2, .int a3, un, un, un, un] [] ij := rfl
set_option maxRecDepth 100000 in
theorem e_X12_then (d : Nat) (a1 a2 : Int32) (ij : IJ) : EV (d + 1) T0 258 [.ref 192, .int a1, .int a2] ij = runS (EV d) none 3 T0 C_X12_then k_X12_then rtI f_X12_then 1000000 0 [.ref 192, .int a1, .int a2] [] ij := rfl
set_option maxRecDepth 100000 in
theorem e_X12_cartIn (d : Nat) (a1 a2 a3 : Int32) (ij : IJ) : EV (d + 1) T0 259 [.ref 192, .int a1, .int a2, .int a3] ij = runS (EV d) none 4 T0 C_X12_cartIn k_X12_cartIn rtI f_X12_cartIn 1000000 0 [.ref 192, .int a1, .int a2, .int a3] [] ij := rfl
set_option maxRecDepth 100000 in
theorem e_X12_year (d : Nat) (a1 a2 a3 a4 : Int32) (ij : IJ) : EV (d + 1) T0 260 [.ref 192, .int a1, .int a2, .int a3, .int a4] ij = runS (EV d) none 7 T0 C_X12_year k_X12_year rtI f_X12_year 1000000 0 [.ref 192, .int a1, .int a2, .int a3, .int a4, un, un] [] ij := rfl
set_option maxRecDepth 100000 in
theorem e_X12_tell (d : Nat) (a1 a2 a3 : Int32) (ij : IJ) : EV (d + 1) T0 261 [.ref 192, .int a1, .int a2, .int a3] ij = runS (EV d) none 4 T0 C_X12_tell k_X12_tell rtI f_X12_tell 1000000 0 [.ref 192, .int a1, .int a2, .int a3] [] ij := rfl
set_option maxRecDepth 100000 in
theorem e_X12_forget (d : Nat) (ij : IJ) : EV (d + 1) T0 262 [.ref 192] ij = runS (EV d) none 2 T0 C_X12_forget k_X12_forget rtI f_X12_forget 1000000 0 [.ref 192, un] [] ij := rfl
set_option maxRecDepth 100000 in
theorem e_X12_wayBetween (d : Nat) (a1 a2 : Int32) (ij : IJ) : EV (d + 1) T0 263 [.ref 192, .int a1, .int a2] ij = runS (EV d) none 3 T0 C_X12_wayBetween k_X12_wayBetween rtI f_X12_wayBetween 1000000 0 [.ref 192, .int a1, .int a2] [] ij := rfl
set_option maxRecDepth 100000 in
theorem e_X12_cutsOne (d : Nat) (a1 : Int32) (ij : IJ) : EV (d + 1) T0 264 [.ref 192, .int a1] ij = runS (EV d) none 2 T0 C_X12_cutsOne k_X12_cutsOne rtV f_X12_cutsOne 1000000 0 [.ref 192, .int a1] [] ij := rfl
set_option maxRecDepth 100000 in
theorem e_X12_cutBits (d : Nat) (a1 : Int32) (ij : IJ) : EV (d + 1) T0 265 [.ref 192, .int a1] ij = runS (EV d) none 6 T0 C_X12_cutBits k_X12_cutBits rtI f_X12_cutBits 1000000 0 [.ref 192, .int a1, un, un, un, un] [] ij := rfl
set_option maxRecDepth 100000 in
theorem e_X12_bits (d : Nat) (a0 : Int32) (ij : IJ) : EV (d + 1) T0 266 [.int a0] ij = runS (EV d) none 3 T0 C_X12_bits k_X12_bits rtI f_X12_bits 1000000 0 [.int a0, un, un] [] ij := rfl
set_option maxRecDepth 100000 in
theorem e_X12_cuts (d : Nat) (a1 a2 : Int32) (ij : IJ) : EV (d + 1) T0 267 [.ref 192, .int a1, .int a2] ij = runS (EV d) none 4 T0 C_X12_cuts k_X12_cuts rtI f_X12_cuts 1000000 0 [.ref 192, .int a1, .int a2, un] [] ij := rfl
set_option maxRecDepth 100000 in
theorem e_X12_worstOf (d : Nat) (a1 a2 a3 : Int32) (ij : IJ) : EV (d + 1) T0 268 [.ref 192, .int a1, .int a2, .int a3] ij = runS (EV d) none 8 T0 C_X12_worstOf k_X12_worstOf rtI f_X12_worstOf 1000000 0 [.ref 192, .int a1, .int a2, .int a3, un, un, un, un] [] ij := rfl
set_option maxRecDepth 100000 in
theorem e_X12_ask (d : Nat) (a1 : Int32) (ij : IJ) : EV (d + 1) T0 269 [.ref 192, .int a1] ij = runS (EV d) none 8 T0 C_X12_ask k_X12_ask rtI f_X12_ask 1000000 0 [.ref 192, .int a1, un, un, un, un, un, un] [] ij := rfl
set_option maxRecDepth 100000 in
theorem e_X12_hold (d : Nat) (a1 : Int32) (ij : IJ) : EV (d + 1) T0 270 [.ref 192, .int a1] ij = runS (EV d) none 3 T0 C_X12_hold k_X12_hold rtZ f_X12_hold 1000000 0 [.ref 192, .int a1, un] [] ij := rfl
set_option maxRecDepth 100000 in
theorem e_X12_restore (d : Nat) (a1 : Int32) (ij : IJ) : EV (d + 1) T0 271 [.ref 192, .int a1] ij = runS (EV d) none 3 T0 C_X12_restore k_X12_restore rtZ f_X12_restore 1000000 0 [.ref 192, .int a1, un] [] ij := rfl
set_option maxRecDepth 100000 in
theorem e_X12_count (d : Nat) (a1 : Int32) (ij : IJ) : EV (d + 1) T0 272 [.ref 192, .int a1] ij = runS (EV d) none 4 T0 C_X12_count k_X12_count rtI f_X12_count 1000000 0 [.ref 192, .int a1, un, un] [] ij := rfl
set_option maxRecDepth 100000 in
theorem e_J6_bitCount_0f7a4 (d : Nat) (a0 : Int32) (ij : IJ) : EV (d + 1) T0 276 [.int a0] ij = runS (EV d) none 1 T0 C_J6_bitCount_0f7a4 k_J6_bitCount_0f7a4 rtI f_J6_bitCount_0f7a4 1000000 0 [.int a0] [] ij := rfl
set_option maxRecDepth 100000 in
theorem e_J7_fill_53178_173 (d : Nat) (a1 : Int32) (ij : IJ) : EV (d + 1) T0 300 [.ref 173, .int a1] ij = runS (EV d) none 4 T0 C_J7_fill_53178 k_J7_fill_53178 rtV f_J7_fill_53178 1000000 0 [.ref 173, .int a1, un, un] [] ij := rfl
set_option maxRecDepth 100000 in
theorem e_J7_fill_53178_175 (d : Nat) (a1 : Int32) (ij : IJ) : EV (d + 1) T0 300 [.ref 175, .int a1] ij = runS (EV d) none 4 T0 C_J7_fill_53178 k_J7_fill_53178 rtV f_J7_fill_53178 1000000 0 [.ref 175, .int a1, un, un] [] ij := rfl
set_option maxRecDepth 100000 in
theorem e_J7_fill_53178_41 (d : Nat) (a1 : Int32) (ij : IJ) : EV (d + 1) T0 300 [.ref 41, .int a1] ij = runS (EV d) none 4 T0 C_J7_fill_53178 k_J7_fill_53178 rtV f_J7_fill_53178 1000000 0 [.ref 41, .int a1, un, un] [] ij := rfl
