/-! ===== the methods, by their numbers: name, code, locals, what it returns, 0 static or one more than its class ===== -/
def mt_0 : List (MethodName × ByteArray × Nat × Option FieldType × Nat) := [(⟨"SewnRoads$Laws", "<init>", "()V"⟩, prog_2_method_1_code, 1, none, 1),
  (⟨"SewnRoads$Laws", "clear", "()V"⟩, prog_2_method_2_code, 1, none, 1),
  (⟨"SewnRoads$Laws", "copyFrom", "(LSewnRoads$Laws;)V"⟩, prog_2_method_3_code, 2, none, 1),
  (⟨"SewnRoads$Laws", "nextStep", "()I"⟩, prog_2_method_4_code, 1, (some .int), 1),
  (⟨"SewnRoads$Laws", "beginLaw", "(II)V"⟩, prog_2_method_5_code, 3, none, 1),
  (⟨"SewnRoads$Laws", "addStep", "(II)V"⟩, prog_2_method_6_code, 3, none, 1),
  (⟨"SewnRoads$Laws", "leadHere", "(I)V"⟩, prog_2_method_7_code, 2, none, 1),
  (⟨"SewnRoads$Laws", "say", "(I[I)I"⟩, prog_2_method_8_code, 8, (some .int), 1),
  (⟨"SewnRoads$Laws", "reckon", "(III)I"⟩, prog_2_method_9_code, 3, (some .int), 0),
  (⟨"SewnRoads$Laws", "addDefault", "(III)V"⟩, prog_2_method_10_code, 4, none, 1),
  (⟨"SewnRoads$Net", "<init>", "(LSewnRoads$Plan;)V"⟩, prog_3_method_1_code, 2, none, 2),
  (⟨"SewnRoads$Net", "spread", "(II)I"⟩, prog_3_method_2_code, 5, (some .int), 2),
  (⟨"SewnRoads$Net", "reach", "(II)I"⟩, prog_3_method_3_code, 6, (some .int), 2),
  (⟨"SewnRoads$Net", "joins", "(III)Z"⟩, prog_3_method_4_code, 4, (some .boolean), 2),
  (⟨"SewnRoads$Net", "measure", "(I[II)V"⟩, prog_3_method_5_code, 7, none, 2),
  (⟨"SewnRoads$Net", "isReached", "(I)Z"⟩, prog_3_method_6_code, 2, (some .boolean), 2),
  (⟨"SewnRoads$Net", "widest", "([III)I"⟩, prog_3_method_7_code, 6, (some .int), 2),
  (⟨"SewnRoads$Net", "cheapestSeams", "([II)I"⟩, prog_3_method_8_code, 7, (some .int), 2),
  (⟨"SewnRoads$Net", "bridges", "(I)I"⟩, prog_3_method_9_code, 5, (some .int), 2),
  (⟨"SewnRoads$Net", "walks", "(I)I"⟩, prog_3_method_10_code, 6, (some .int), 2),
  (⟨"SewnRoads$Net", "oddTowns", "(II)I"⟩, prog_3_method_11_code, 5, (some .int), 2),
  (⟨"SewnRoads$Net", "seamsAsWide", "([II)I"⟩, prog_3_method_12_code, 5, (some .int), 2),
  (⟨"SewnRoads$Net", "shorten", "(III)Z"⟩, prog_3_method_13_code, 4, (some .boolean), 2),
  (⟨"SewnRoads$Past", "<init>", "()V"⟩, prog_4_method_1_code, 2, none, 3),
  (⟨"SewnRoads$Past", "clear", "()V"⟩, prog_4_method_2_code, 1, none, 3),
  (⟨"SewnRoads$Past", "keep", "(LSewnRoads$State;)V"⟩, prog_4_method_3_code, 2, none, 3),
  (⟨"SewnRoads$Past", "takeBack", "(LSewnRoads$State;)Z"⟩, prog_4_method_4_code, 2, (some .boolean), 3),
  (⟨"SewnRoads$Plan", "<init>", "()V"⟩, prog_5_method_1_code, 1, none, 4),
  (⟨"SewnRoads$Plan", "clear", "()V"⟩, prog_5_method_2_code, 1, none, 4),
  (⟨"SewnRoads$Plan", "copyFrom", "(LSewnRoads$Plan;)V"⟩, prog_5_method_3_code, 2, none, 4),
  (⟨"SewnRoads$Plan", "addSeam", "(IIII)V"⟩, prog_5_method_4_code, 5, none, 4),
  (⟨"SewnRoads$Plan", "addCart", "(III)V"⟩, prog_5_method_5_code, 4, none, 4),
  (⟨"SewnRoads$Plan", "hasSeam", "(II)Z"⟩, prog_5_method_6_code, 4, (some .boolean), 4),
  (⟨"SewnRoads$Plan", "countWays", "()V"⟩, prog_5_method_7_code, 3, none, 4),
  (⟨"SewnRoads$Reader", "<init>", "()V"⟩, prog_6_method_1_code, 1, none, 5),
  (⟨"SewnRoads$Reader", "readText", "(LSewnRoads$Tape;)I"⟩, prog_6_method_2_code, 3, (some .int), 5),
  (⟨"SewnRoads$Reader", "readTell", "()V"⟩, prog_6_method_3_code, 1, none, 5),
  (⟨"SewnRoads$Reader", "readTown", "()V"⟩, prog_6_method_4_code, 2, none, 5),
  (⟨"SewnRoads$Reader", "readSeam", "()V"⟩, prog_6_method_5_code, 7, none, 5),
  (⟨"SewnRoads$Reader", "readWoman", "()V"⟩, prog_6_method_6_code, 3, none, 5)]
def mt_1 : List (MethodName × ByteArray × Nat × Option FieldType × Nat) := [(⟨"SewnRoads$Reader", "readCart", "()V"⟩, prog_6_method_7_code, 7, none, 5),
  (⟨"SewnRoads$Reader", "readNumber", "(I)I"⟩, prog_6_method_8_code, 3, (some .int), 5),
  (⟨"SewnRoads$Reader", "readLaw", "()V"⟩, prog_6_method_9_code, 6, none, 5),
  (⟨"SewnRoads$Reader", "readSum", "(I)V"⟩, prog_6_method_10_code, 4, none, 5),
  (⟨"SewnRoads$Reader", "readProduct", "(I)V"⟩, prog_6_method_11_code, 4, none, 5),
  (⟨"SewnRoads$Reader", "readUnit", "(I)V"⟩, prog_6_method_12_code, 2, none, 5),
  (⟨"SewnRoads$Reader", "takeFirst", "(Z)V"⟩, prog_6_method_13_code, 2, none, 5),
  (⟨"SewnRoads$Reader", "take", "(I)I"⟩, prog_6_method_14_code, 3, (some .int), 5),
  (⟨"SewnRoads$Reader", "note", "(II)V"⟩, prog_6_method_15_code, 3, none, 5),
  (⟨"SewnRoads$Reader", "addName", "(II)V"⟩, prog_6_method_16_code, 3, none, 5),
  (⟨"SewnRoads$Reader", "findName", "(I)I"⟩, prog_6_method_17_code, 3, (some .int), 5),
  (⟨"SewnRoads$Reader", "townAt", "(I)I"⟩, prog_6_method_18_code, 4, (some .int), 5),
  (⟨"SewnRoads$Reader", "numberAt", "(III)I"⟩, prog_6_method_19_code, 5, (some .int), 5),
  (⟨"SewnRoads$Rules", "<init>", "(LSewnRoads$Plan;)V"⟩, prog_7_method_1_code, 2, none, 6),
  (⟨"SewnRoads$Rules", "stitchCost", "(III)I"⟩, prog_7_method_2_code, 4, (some .int), 6),
  (⟨"SewnRoads$Rules", "wear", "(IIIII)I"⟩, prog_7_method_3_code, 6, (some .int), 6),
  (⟨"SewnRoads$Rules", "wayLong", "(III)I"⟩, prog_7_method_4_code, 4, (some .int), 6),
  (⟨"SewnRoads$Rules", "tollFor", "(IIII)I"⟩, prog_7_method_5_code, 5, (some .int), 6),
  (⟨"SewnRoads$Rules", "canStitch", "(ILSewnRoads$State;)Z"⟩, prog_7_method_6_code, 4, (some .boolean), 6),
  (⟨"SewnRoads$Rules", "threadUpTo", "(IILSewnRoads$State;)I"⟩, prog_7_method_7_code, 6, (some .int), 6),
  (⟨"SewnRoads$Rules", "fillSetCosts", "(ILSewnRoads$State;)V"⟩, prog_7_method_8_code, 7, none, 6),
  (⟨"SewnRoads$Rules", "look", "(III)V"⟩, prog_7_method_9_code, 4, none, 6),
  (⟨"SewnRoads$Rules", "held", "(I)I"⟩, prog_7_method_10_code, 1, (some .int), 0),
  (⟨"SewnRoads$Search", "<init>", "(LSewnRoads$Plan;LSewnRoads$Net;)V"⟩, prog_8_method_1_code, 3, none, 7),
  (⟨"SewnRoads$Search", "clear", "()V"⟩, prog_8_method_2_code, 1, none, 7),
  (⟨"SewnRoads$Search", "addTold", "(III)I"⟩, prog_8_method_3_code, 4, (some .int), 7),
  (⟨"SewnRoads$Search", "measureCuts", "(I[I)V"⟩, prog_8_method_4_code, 6, none, 7),
  (⟨"SewnRoads$Search", "cutsKnownBy", "(II)I"⟩, prog_8_method_5_code, 5, (some .int), 7),
  (⟨"SewnRoads$Search", "bestQuestion", "(I)I"⟩, prog_8_method_6_code, 7, (some .int), 7),
  (⟨"SewnRoads$Search", "fits", "(II)Z"⟩, prog_8_method_7_code, 4, (some .boolean), 7),
  (⟨"SewnRoads$Search", "mostAlike", "(III)I"⟩, prog_8_method_8_code, 6, (some .int), 7),
  (⟨"SewnRoads$Search", "alike", "(IIII)I"⟩, prog_8_method_9_code, 7, (some .int), 7),
  (⟨"SewnRoads$Search", "pairOf", "(III)I"⟩, prog_8_method_10_code, 3, (some .int), 0),
  (⟨"SewnRoads$Season", "<init>", "(LSewnRoads$Plan;LSewnRoads$Rules;LSewnRoads$Net;)V"⟩, prog_9_method_1_code, 4, none, 8),
  (⟨"SewnRoads$Season", "fillWays", "(LSewnRoads$State;)V"⟩, prog_9_method_2_code, 3, none, 8),
  (⟨"SewnRoads$Season", "passWeeks", "(LSewnRoads$State;II)V"⟩, prog_9_method_3_code, 5, none, 8),
  (⟨"SewnRoads$Season", "hasChance", "()Z"⟩, prog_9_method_4_code, 1, (some .boolean), 8),
  (⟨"SewnRoads$Season", "isFrost", "(II)Z"⟩, prog_9_method_5_code, 3, (some .boolean), 8),
  (⟨"SewnRoads$Season", "fillLives", "(LSewnRoads$State;)V"⟩, prog_9_method_6_code, 3, none, 8),
  (⟨"SewnRoads$Season", "seamsOutliving", "(I)I"⟩, prog_9_method_7_code, 4, (some .int), 8)]
def mt_2 : List (MethodName × ByteArray × Nat × Option FieldType × Nat) := [(⟨"SewnRoads$Season", "bestToDouble", "(LSewnRoads$State;III)I"⟩, prog_9_method_8_code, 10, (some .int), 8),
  (⟨"SewnRoads$Season", "lifeOf", "(III)I"⟩, prog_9_method_9_code, 6, (some .int), 8),
  (⟨"SewnRoads$Season", "moveCarts", "(LSewnRoads$State;)V"⟩, prog_9_method_10_code, 5, none, 8),
  (⟨"SewnRoads$Season", "moveCart", "(LSewnRoads$State;II)V"⟩, prog_9_method_11_code, 8, none, 8),
  (⟨"SewnRoads$Season", "nextSeam", "(II)I"⟩, prog_9_method_12_code, 7, (some .int), 8),
  (⟨"SewnRoads$Season", "otherEnd", "(II)I"⟩, prog_9_method_13_code, 3, (some .int), 8),
  (⟨"SewnRoads$Season", "wearSeams", "(LSewnRoads$State;I)V"⟩, prog_9_method_14_code, 5, none, 8),
  (⟨"SewnRoads$Season", "lotOfHundred", "(II)I"⟩, prog_9_method_15_code, 3, (some .int), 0),
  (⟨"SewnRoads$Season", "mixed", "(II)I"⟩, prog_9_method_16_code, 3, (some .int), 0),
  (⟨"SewnRoads$State", "<init>", "()V"⟩, prog_10_method_1_code, 1, none, 9),
  (⟨"SewnRoads$State", "begin", "(LSewnRoads$Plan;)V"⟩, prog_10_method_2_code, 3, none, 9),
  (⟨"SewnRoads$State", "copyFrom", "(LSewnRoads$State;)V"⟩, prog_10_method_3_code, 2, none, 9),
  (⟨"SewnRoads$State", "cartField", "(II)I"⟩, prog_10_method_4_code, 3, (some .int), 9),
  (⟨"SewnRoads$State", "setCartField", "(III)V"⟩, prog_10_method_5_code, 4, none, 9),
  (⟨"SewnRoads$State", "addToCartField", "(III)V"⟩, prog_10_method_6_code, 4, none, 9),
  (⟨"SewnRoads$State", "isOnRoad", "(I)Z"⟩, prog_10_method_7_code, 2, (some .boolean), 9),
  (⟨"SewnRoads$State", "wholeSeams", "(LSewnRoads$Plan;)I"⟩, prog_10_method_8_code, 4, (some .int), 9),
  (⟨"SewnRoads$State", "cartsOnRoad", "(LSewnRoads$Plan;)I"⟩, prog_10_method_9_code, 4, (some .int), 9),
  (⟨"SewnRoads$State", "sewnTogether", "(LSewnRoads$Plan;)I"⟩, prog_10_method_10_code, 4, (some .int), 9),
  (⟨"SewnRoads$State", "evenLevel", "(LSewnRoads$Plan;I)I"⟩, prog_10_method_11_code, 6, (some .int), 9),
  (⟨"SewnRoads$Tape", "<init>", "()V"⟩, prog_11_method_1_code, 1, none, 10),
  (⟨"SewnRoads$Tape", "hasRoomFor", "(I)Z"⟩, prog_11_method_2_code, 2, (some .boolean), 10),
  (⟨"SewnRoads$Tape", "append", "(I)V"⟩, prog_11_method_3_code, 3, none, 10),
  (⟨"SewnRoads$Tape", "byteAt", "(I)I"⟩, prog_11_method_4_code, 2, (some .int), 10),
  (⟨"SewnRoads$Tokens", "<init>", "()V"⟩, prog_12_method_1_code, 6, none, 11),
  (⟨"SewnRoads$Tokens", "kindOf", "(I)I"⟩, prog_12_method_2_code, 2, (some .int), 11),
  (⟨"SewnRoads$Tokens", "startOf", "(I)I"⟩, prog_12_method_3_code, 2, (some .int), 11),
  (⟨"SewnRoads$Tokens", "valueOf", "(I)J"⟩, prog_12_method_4_code, 2, (some .long), 11),
  (⟨"SewnRoads$Tokens", "scan", "(LSewnRoads$Tape;)V"⟩, prog_12_method_5_code, 4, none, 11),
  (⟨"SewnRoads$Tokens", "scanOne", "(LSewnRoads$Tape;I)I"⟩, prog_12_method_6_code, 4, (some .int), 11),
  (⟨"SewnRoads$Tokens", "scanLetters", "(LSewnRoads$Tape;I)I"⟩, prog_12_method_7_code, 7, (some .int), 11),
  (⟨"SewnRoads$Tokens", "scanDigits", "(LSewnRoads$Tape;I)I"⟩, prog_12_method_8_code, 6, (some .int), 11),
  (⟨"SewnRoads$Tokens", "sortOfLetters", "(J)I"⟩, prog_12_method_9_code, 4, (some .int), 11),
  (⟨"SewnRoads$Tokens", "add", "(IIJ)V"⟩, prog_12_method_10_code, 5, none, 11),
  (⟨"SewnRoads$Tokens", "afterBlanks", "(LSewnRoads$Tape;I)I"⟩, prog_12_method_11_code, 3, (some .int), 0),
  (⟨"SewnRoads$Tokens", "withLetter", "(JI)J"⟩, prog_12_method_12_code, 3, (some .long), 0),
  (⟨"SewnRoads$Tokens", "isBlank", "(I)Z"⟩, prog_12_method_13_code, 1, (some .boolean), 0),
  (⟨"SewnRoads$Tokens", "isLetter", "(I)Z"⟩, prog_12_method_14_code, 1, (some .boolean), 0),
  (⟨"SewnRoads$Tokens", "isDigit", "(I)Z"⟩, prog_12_method_15_code, 1, (some .boolean), 0),
  (⟨"SewnRoads", "<init>", "()V"⟩, prog_1_method_1_code, 2, none, 12)]
def mt_3 : List (MethodName × ByteArray × Nat × Option FieldType × Nat) := [(⟨"SewnRoads", "feed", "(IIIII)I"⟩, prog_1_method_2_code, 6, (some .int), 12),
  (⟨"SewnRoads", "back", "(I)I"⟩, prog_1_method_3_code, 2, (some .int), 12),
  (⟨"SewnRoads", "read", "()I"⟩, prog_1_method_4_code, 2, (some .int), 12),
  (⟨"SewnRoads", "place", "()I"⟩, prog_1_method_5_code, 1, (some .int), 12),
  (⟨"SewnRoads", "seam", "(II)I"⟩, prog_1_method_6_code, 4, (some .int), 12),
  (⟨"SewnRoads", "cart", "(II)I"⟩, prog_1_method_7_code, 3, (some .int), 12),
  (⟨"SewnRoads", "toll", "(II)I"⟩, prog_1_method_8_code, 3, (some .int), 12),
  (⟨"SewnRoads", "sew", "(II)I"⟩, prog_1_method_9_code, 4, (some .int), 12),
  (⟨"SewnRoads", "cut", "(I)I"⟩, prog_1_method_10_code, 3, (some .int), 12),
  (⟨"SewnRoads", "unpick", "(II)I"⟩, prog_1_method_11_code, 4, (some .int), 12),
  (⟨"SewnRoads", "send", "(I)Z"⟩, prog_1_method_12_code, 2, (some .boolean), 12),
  (⟨"SewnRoads", "weeks", "(I)I"⟩, prog_1_method_13_code, 2, (some .int), 12),
  (⟨"SewnRoads", "undo", "()Z"⟩, prog_1_method_14_code, 1, (some .boolean), 12),
  (⟨"SewnRoads", "far", "(II)I"⟩, prog_1_method_15_code, 3, (some .int), 12),
  (⟨"SewnRoads", "hops", "(II)I"⟩, prog_1_method_16_code, 6, (some .int), 12),
  (⟨"SewnRoads", "joined", "(I)I"⟩, prog_1_method_17_code, 2, (some .int), 12),
  (⟨"SewnRoads", "hangs", "()I"⟩, prog_1_method_18_code, 1, (some .int), 12),
  (⟨"SewnRoads", "takes", "(II)I"⟩, prog_1_method_19_code, 3, (some .int), 12),
  (⟨"SewnRoads", "sewing", "(III)I"⟩, prog_1_method_20_code, 5, (some .int), 12),
  (⟨"SewnRoads", "surest", "(II)I"⟩, prog_1_method_21_code, 4, (some .int), 12),
  (⟨"SewnRoads", "soon", "(II)I"⟩, prog_1_method_22_code, 5, (some .int), 12),
  (⟨"SewnRoads", "holds", "(II)I"⟩, prog_1_method_23_code, 4, (some .int), 12),
  (⟨"SewnRoads", "rows", "()I"⟩, prog_1_method_24_code, 1, (some .int), 12),
  (⟨"SewnRoads", "march", "(I)I"⟩, prog_1_method_25_code, 2, (some .int), 12),
  (⟨"SewnRoads", "doubles", "(III)I"⟩, prog_1_method_26_code, 4, (some .int), 12),
  (⟨"SewnRoads", "then", "(II)I"⟩, prog_1_method_27_code, 3, (some .int), 12),
  (⟨"SewnRoads", "cartIn", "(III)I"⟩, prog_1_method_28_code, 5, (some .int), 12),
  (⟨"SewnRoads", "year", "(IIII)I"⟩, prog_1_method_29_code, 7, (some .int), 12),
  (⟨"SewnRoads", "tell", "(III)I"⟩, prog_1_method_30_code, 4, (some .int), 12),
  (⟨"SewnRoads", "forget", "()I"⟩, prog_1_method_31_code, 2, (some .int), 12),
  (⟨"SewnRoads", "cuts", "(II)I"⟩, prog_1_method_32_code, 4, (some .int), 12),
  (⟨"SewnRoads", "ask", "(I)I"⟩, prog_1_method_33_code, 3, (some .int), 12),
  (⟨"SewnRoads", "hold", "(I)Z"⟩, prog_1_method_34_code, 2, (some .boolean), 12),
  (⟨"SewnRoads", "restore", "(I)Z"⟩, prog_1_method_35_code, 2, (some .boolean), 12),
  (⟨"SewnRoads", "count", "(I)I"⟩, prog_1_method_36_code, 2, (some .int), 12),
  (⟨"SewnRoads", "emptySlots", "()V"⟩, prog_1_method_37_code, 2, none, 12),
  (⟨"SewnRoads", "heldSlots", "()I"⟩, prog_1_method_38_code, 3, (some .int), 12),
  (⟨"SewnRoads", "lookAhead", "(I)V"⟩, prog_1_method_39_code, 2, none, 12),
  (⟨"SewnRoads", "staysJoined", "(IIII)Z"⟩, prog_1_method_40_code, 7, (some .boolean), 12),
  (⟨"SewnRoads", "possibleCuts", "(I)I"⟩, prog_1_method_41_code, 3, (some .int), 12)]
def mt_4 : List (MethodName × ByteArray × Nat × Option FieldType × Nat) := [(⟨"SewnRoads", "isTown", "(I)Z"⟩, prog_1_method_42_code, 2, (some .boolean), 12),
  (⟨"SewnRoads", "areTwoTowns", "(II)Z"⟩, prog_1_method_43_code, 3, (some .boolean), 12),
  (⟨"SewnRoads", "isSeam", "(I)Z"⟩, prog_1_method_44_code, 2, (some .boolean), 12),
  (⟨"SewnRoads", "isCart", "(I)Z"⟩, prog_1_method_45_code, 2, (some .boolean), 12),
  (⟨"SewnRoads", "within", "(III)Z"⟩, prog_1_method_46_code, 3, (some .boolean), 0),
  (⟨"SewnRoads", "hasBit", "(II)Z"⟩, prog_1_method_47_code, 2, (some .boolean), 0),
  (⟨"SewnRoadsModel", "<init>", "()V"⟩, prog_14_method_2_code, 1, none, 13),
  (⟨"SewnRoadsModel", "feed", "(IIIII)I"⟩, prog_14_method_3_code, 6, (some .int), 13),
  (⟨"SewnRoadsModel", "put", "(I)V"⟩, prog_14_method_4_code, 3, none, 13),
  (⟨"SewnRoadsModel", "back", "(I)I"⟩, prog_14_method_5_code, 2, (some .int), 13),
  (⟨"SewnRoadsModel", "byteAt", "(I)I"⟩, prog_14_method_6_code, 2, (some .int), 13),
  (⟨"SewnRoadsModel", "isDigit", "(I)Z"⟩, prog_14_method_7_code, 1, (some .boolean), 0),
  (⟨"SewnRoadsModel", "isLetter", "(I)Z"⟩, prog_14_method_8_code, 1, (some .boolean), 0),
  (⟨"SewnRoadsModel", "appends", "(JI)J"⟩, prog_14_method_9_code, 3, (some .long), 0),
  (⟨"SewnRoadsModel", "word", "(IIIIIII)J"⟩, prog_14_method_10_code, 7, (some .long), 0),
  (⟨"SewnRoadsModel", "token", "(IIIJ)V"⟩, prog_14_method_11_code, 6, none, 13),
  (⟨"SewnRoadsModel", "cutsUp", "()V"⟩, prog_14_method_12_code, 8, none, 13),
  (⟨"SewnRoadsModel", "sign", "(III)I"⟩, prog_14_method_13_code, 5, (some .int), 13),
  (⟨"SewnRoadsModel", "is", "(I)Z"⟩, prog_14_method_14_code, 2, (some .boolean), 13),
  (⟨"SewnRoadsModel", "fail", "(I)V"⟩, prog_14_method_15_code, 2, none, 13),
  (⟨"SewnRoadsModel", "wrong", "(II)V"⟩, prog_14_method_16_code, 4, none, 13),
  (⟨"SewnRoadsModel", "goesOn", "()V"⟩, prog_14_method_17_code, 1, none, 13),
  (⟨"SewnRoadsModel", "must", "(I)V"⟩, prog_14_method_18_code, 2, none, 13),
  (⟨"SewnRoadsModel", "plain", "(I)V"⟩, prog_14_method_19_code, 3, none, 13),
  (⟨"SewnRoadsModel", "read", "()I"⟩, prog_14_method_20_code, 2, (some .int), 13),
  (⟨"SewnRoadsModel", "place", "()I"⟩, prog_14_method_21_code, 1, (some .int), 13),
  (⟨"SewnRoadsModel", "roomFor", "(II)V"⟩, prog_14_method_22_code, 3, none, 13),
  (⟨"SewnRoadsModel", "toldInt", "(II)I"⟩, prog_14_method_23_code, 4, (some .int), 13),
  (⟨"SewnRoadsModel", "tellOne", "()V"⟩, prog_14_method_24_code, 2, none, 13),
  (⟨"SewnRoadsModel", "named", "()I"⟩, prog_14_method_25_code, 3, (some .int), 13),
  (⟨"SewnRoadsModel", "ends", "(II)V"⟩, prog_14_method_26_code, 3, none, 13),
  (⟨"SewnRoadsModel", "knownTown", "()I"⟩, prog_14_method_27_code, 3, (some .int), 13),
  (⟨"SewnRoadsModel", "bounded", "(II)I"⟩, prog_14_method_28_code, 4, (some .int), 13),
  (⟨"SewnRoadsModel", "hasSeam", "(II)Z"⟩, prog_14_method_29_code, 4, (some .boolean), 13),
  (⟨"SewnRoadsModel", "tellSeam", "()V"⟩, prog_14_method_30_code, 5, none, 13),
  (⟨"SewnRoadsModel", "tellCart", "()V"⟩, prog_14_method_31_code, 6, none, 13),
  (⟨"SewnRoadsModel", "tellLaw", "(I)V"⟩, prog_14_method_32_code, 4, none, 13),
  (⟨"SewnRoadsModel", "term", "()V"⟩, prog_14_method_33_code, 1, none, 13),
  (⟨"SewnRoadsModel", "emit", "(II)V"⟩, prog_14_method_34_code, 3, none, 13),
  (⟨"SewnRoadsModel", "comesOut", "(Z)V"⟩, prog_14_method_35_code, 3, none, 13)]
def mt_5 : List (MethodName × ByteArray × Nat × Option FieldType × Nat) := [(⟨"SewnRoadsModel", "expression", "()V"⟩, prog_14_method_36_code, 3, none, 13),
  (⟨"SewnRoadsModel", "unit", "()V"⟩, prog_14_method_37_code, 1, none, 13),
  (⟨"SewnRoadsModel", "termOf", "(II)I"⟩, prog_14_method_38_code, 8, (some .int), 13),
  (⟨"SewnRoadsModel", "in", "(III)Z"⟩, prog_14_method_39_code, 3, (some .boolean), 0),
  (⟨"SewnRoadsModel", "held", "(III)I"⟩, prog_14_method_40_code, 3, (some .int), 0),
  (⟨"SewnRoadsModel", "isTown", "(I)Z"⟩, prog_14_method_41_code, 2, (some .boolean), 13),
  (⟨"SewnRoadsModel", "isSeam", "(I)Z"⟩, prog_14_method_42_code, 2, (some .boolean), 13),
  (⟨"SewnRoadsModel", "isCart", "(I)Z"⟩, prog_14_method_43_code, 2, (some .boolean), 13),
  (⟨"SewnRoadsModel", "begins", "()V"⟩, prog_14_method_44_code, 2, none, 13),
  (⟨"SewnRoadsModel", "keepsRow", "()V"⟩, prog_14_method_45_code, 2, none, 13),
  (⟨"SewnRoadsModel", "copies", "()V"⟩, prog_14_method_46_code, 2, none, 13),
  (⟨"SewnRoadsModel", "mixed", "(II)I"⟩, prog_14_method_47_code, 3, (some .int), 0),
  (⟨"SewnRoadsModel", "isFrost", "()Z"⟩, prog_14_method_48_code, 1, (some .boolean), 13),
  (⟨"SewnRoadsModel", "waysAt", "(I)I"⟩, prog_14_method_49_code, 4, (some .int), 13),
  (⟨"SewnRoadsModel", "looks", "(I)V"⟩, prog_14_method_50_code, 3, none, 13),
  (⟨"SewnRoadsModel", "asks", "(II)I"⟩, prog_14_method_51_code, 5, (some .int), 13),
  (⟨"SewnRoadsModel", "lawTells", "(I)I"⟩, prog_14_method_52_code, 5, (some .int), 13),
  (⟨"SewnRoadsModel", "costsNow", "(I)I"⟩, prog_14_method_53_code, 2, (some .int), 13),
  (⟨"SewnRoadsModel", "wearsNow", "(IZI)I"⟩, prog_14_method_54_code, 4, (some .int), 13),
  (⟨"SewnRoadsModel", "wayOf", "(I)I"⟩, prog_14_method_55_code, 3, (some .int), 13),
  (⟨"SewnRoadsModel", "tollOf", "(II)I"⟩, prog_14_method_56_code, 3, (some .int), 13),
  (⟨"SewnRoadsModel", "fillsWays", "()V"⟩, prog_14_method_57_code, 2, none, 13),
  (⟨"SewnRoadsModel", "fillsFar", "(I)V"⟩, prog_14_method_58_code, 6, none, 13),
  (⟨"SewnRoadsModel", "areJoined", "(II)Z"⟩, prog_14_method_59_code, 4, (some .boolean), 13),
  (⟨"SewnRoadsModel", "otherEnd", "(II)I"⟩, prog_14_method_60_code, 4, (some .int), 13),
  (⟨"SewnRoadsModel", "roadOf", "(I)I"⟩, prog_14_method_61_code, 6, (some .int), 13),
  (⟨"SewnRoadsModel", "cartGoes", "(I)V"⟩, prog_14_method_62_code, 3, none, 13),
  (⟨"SewnRoadsModel", "weekGoes", "()V"⟩, prog_14_method_63_code, 3, none, 13),
  (⟨"SewnRoadsModel", "goes", "(I)V"⟩, prog_14_method_64_code, 3, none, 13),
  (⟨"SewnRoadsModel", "seam", "(II)I"⟩, prog_14_method_65_code, 3, (some .int), 13),
  (⟨"SewnRoadsModel", "cart", "(II)I"⟩, prog_14_method_66_code, 3, (some .int), 13),
  (⟨"SewnRoadsModel", "toll", "(II)I"⟩, prog_14_method_67_code, 3, (some .int), 13),
  (⟨"SewnRoadsModel", "records", "()V"⟩, prog_14_method_68_code, 2, none, 13),
  (⟨"SewnRoadsModel", "sew", "(II)I"⟩, prog_14_method_69_code, 5, (some .int), 13),
  (⟨"SewnRoadsModel", "cut", "(I)I"⟩, prog_14_method_70_code, 3, (some .int), 13),
  (⟨"SewnRoadsModel", "unpick", "(II)I"⟩, prog_14_method_71_code, 4, (some .int), 13),
  (⟨"SewnRoadsModel", "send", "(I)Z"⟩, prog_14_method_72_code, 2, (some .boolean), 13),
  (⟨"SewnRoadsModel", "weeks", "(I)I"⟩, prog_14_method_73_code, 2, (some .int), 13),
  (⟨"SewnRoadsModel", "undo", "()Z"⟩, prog_14_method_74_code, 2, (some .boolean), 13),
  (⟨"SewnRoadsModel", "far", "(II)I"⟩, prog_14_method_75_code, 3, (some .int), 13)]
def mt_6 : List (MethodName × ByteArray × Nat × Option FieldType × Nat) := [(⟨"SewnRoadsModel", "hops", "(II)I"⟩, prog_14_method_76_code, 3, (some .int), 13),
  (⟨"SewnRoadsModel", "joinedTo", "(I)I"⟩, prog_14_method_77_code, 4, (some .int), 13),
  (⟨"SewnRoadsModel", "joined", "(I)I"⟩, prog_14_method_78_code, 2, (some .int), 13),
  (⟨"SewnRoadsModel", "hangs", "()I"⟩, prog_14_method_79_code, 3, (some .int), 13),
  (⟨"SewnRoadsModel", "takesNow", "(II)I"⟩, prog_14_method_80_code, 5, (some .int), 13),
  (⟨"SewnRoadsModel", "isSewn", "(I)Z"⟩, prog_14_method_81_code, 1, (some .boolean), 0),
  (⟨"SewnRoadsModel", "takes", "(II)I"⟩, prog_14_method_82_code, 3, (some .int), 13),
  (⟨"SewnRoadsModel", "joinsAll", "(II)Z"⟩, prog_14_method_83_code, 5, (some .boolean), 13),
  (⟨"SewnRoadsModel", "sewing", "(III)I"⟩, prog_14_method_84_code, 9, (some .int), 13),
  (⟨"SewnRoadsModel", "surest", "(II)I"⟩, prog_14_method_85_code, 5, (some .int), 13),
  (⟨"SewnRoadsModel", "soon", "(II)I"⟩, prog_14_method_86_code, 7, (some .int), 13),
  (⟨"SewnRoadsModel", "holdsFor", "(II)I"⟩, prog_14_method_87_code, 4, (some .int), 13),
  (⟨"SewnRoadsModel", "holds", "(II)I"⟩, prog_14_method_88_code, 4, (some .int), 13),
  (⟨"SewnRoadsModel", "wholeAt", "(I)I"⟩, prog_14_method_89_code, 4, (some .int), 13),
  (⟨"SewnRoadsModel", "rows", "()I"⟩, prog_14_method_90_code, 7, (some .int), 13),
  (⟨"SewnRoadsModel", "isLong", "(I)Z"⟩, prog_14_method_91_code, 1, (some .boolean), 0),
  (⟨"SewnRoadsModel", "march", "(I)I"⟩, prog_14_method_92_code, 6, (some .int), 13),
  (⟨"SewnRoadsModel", "doubles", "(III)I"⟩, prog_14_method_93_code, 8, (some .int), 13),
  (⟨"SewnRoadsModel", "then", "(II)I"⟩, prog_14_method_94_code, 3, (some .int), 13),
  (⟨"SewnRoadsModel", "cartIn", "(III)I"⟩, prog_14_method_95_code, 4, (some .int), 13),
  (⟨"SewnRoadsModel", "year", "(IIII)I"⟩, prog_14_method_96_code, 7, (some .int), 13),
  (⟨"SewnRoadsModel", "tell", "(III)I"⟩, prog_14_method_97_code, 4, (some .int), 13),
  (⟨"SewnRoadsModel", "forget", "()I"⟩, prog_14_method_98_code, 2, (some .int), 13),
  (⟨"SewnRoadsModel", "wayBetween", "(II)I"⟩, prog_14_method_99_code, 3, (some .int), 13),
  (⟨"SewnRoadsModel", "cutsOne", "(I)V"⟩, prog_14_method_100_code, 2, none, 13),
  (⟨"SewnRoadsModel", "cutBits", "(I)I"⟩, prog_14_method_101_code, 6, (some .int), 13),
  (⟨"SewnRoadsModel", "bits", "(I)I"⟩, prog_14_method_102_code, 3, (some .int), 0),
  (⟨"SewnRoadsModel", "cuts", "(II)I"⟩, prog_14_method_103_code, 4, (some .int), 13),
  (⟨"SewnRoadsModel", "worstOf", "(III)I"⟩, prog_14_method_104_code, 8, (some .int), 13),
  (⟨"SewnRoadsModel", "ask", "(I)I"⟩, prog_14_method_105_code, 8, (some .int), 13),
  (⟨"SewnRoadsModel", "hold", "(I)Z"⟩, prog_14_method_106_code, 3, (some .boolean), 13),
  (⟨"SewnRoadsModel", "restore", "(I)Z"⟩, prog_14_method_107_code, 3, (some .boolean), 13),
  (⟨"SewnRoadsModel", "count", "(I)I"⟩, prog_14_method_108_code, 4, (some .int), 13),
  (⟨"java/lang/Character", "isValidCodePoint", "(I)Z"⟩, prog_15_method_11_code, 2, (some .boolean), 0),
  (⟨"java/lang/Character", "highSurrogate", "(I)C"⟩, prog_15_method_28_code, 1, (some .char), 0),
  (⟨"java/lang/Character", "lowSurrogate", "(I)C"⟩, prog_15_method_29_code, 1, (some .char), 0),
  (⟨"java/lang/Integer", "bitCount", "(I)I"⟩, prog_16_method_49_code, 1, (some .int), 0),
  (⟨"java/lang/Math", "max", "(II)I"⟩, prog_17_method_65_code, 2, (some .int), 0),
  (⟨"java/lang/Math", "min", "(II)I"⟩, prog_17_method_69_code, 2, (some .int), 0),
  (⟨"java/lang/String", "length", "()I"⟩, prog_18_method_54_code, 1, (some .int), 999)]
def mt_7 : List (MethodName × ByteArray × Nat × Option FieldType × Nat) := [(⟨"java/lang/String", "charAt", "(I)C"⟩, prog_18_method_56_code, 2, (some .char), 999),
  (⟨"java/lang/String", "indexOf", "(I)I"⟩, prog_18_method_79_code, 2, (some .int), 999),
  (⟨"java/lang/String", "indexOf", "(II)I"⟩, prog_18_method_80_code, 3, (some .int), 999),
  (⟨"java/lang/String", "coder", "()B"⟩, prog_18_method_152_code, 1, (some .byte), 999),
  (⟨"java/lang/String", "isLatin1", "()Z"⟩, prog_18_method_154_code, 1, (some .boolean), 999),
  (⟨"java/lang/String", "checkIndex", "(II)V"⟩, prog_18_method_155_code, 2, none, 0),
  (⟨"java/lang/String", "checkBoundsBeginEnd", "(III)V"⟩, prog_18_method_158_code, 3, none, 0),
  (⟨"java/lang/StringLatin1", "charAt", "([BI)C"⟩, prog_19_method_2_code, 2, (some .char), 0),
  (⟨"java/lang/StringLatin1", "canEncode", "(I)Z"⟩, prog_19_method_4_code, 1, (some .boolean), 0),
  (⟨"java/lang/StringLatin1", "indexOf", "([BIII)I"⟩, prog_19_method_22_code, 4, (some .int), 0),
  (⟨"java/lang/StringLatin1", "indexOfChar", "([BIII)I"⟩, prog_19_method_23_code, 6, (some .int), 0),
  (⟨"java/lang/StringUTF16", "getChar", "([BI)C"⟩, prog_20_method_5_code, 2, (some .char), 0),
  (⟨"java/lang/StringUTF16", "length", "([B)I"⟩, prog_20_method_6_code, 1, (some .int), 0),
  (⟨"java/lang/StringUTF16", "indexOf", "([BIII)I"⟩, prog_20_method_40_code, 4, (some .int), 0),
  (⟨"java/lang/StringUTF16", "indexOfChar", "([BIII)I"⟩, prog_20_method_47_code, 4, (some .int), 0),
  (⟨"java/lang/StringUTF16", "indexOfCharUnsafe", "([BIII)I"⟩, prog_20_method_48_code, 5, (some .int), 0),
  (⟨"java/lang/StringUTF16", "indexOfSupplementary", "([BIII)I"⟩, prog_20_method_49_code, 7, (some .int), 0),
  (⟨"java/lang/StringUTF16", "charAt", "([BI)C"⟩, prog_20_method_83_code, 2, (some .char), 0),
  (⟨"java/lang/StringUTF16", "checkIndex", "(I[B)V"⟩, prog_20_method_91_code, 2, none, 0),
  (⟨"java/lang/StringUTF16", "checkBoundsBeginEnd", "(II[B)V"⟩, prog_20_method_93_code, 3, none, 0),
  (⟨"java/util/Arrays", "fill", "([II)V"⟩, prog_22_method_103_code, 4, none, 0),
  (⟨"jdk/internal/util/Preconditions", "checkIndex", "(IILjava/util/function/BiFunction;)I"⟩, prog_23_method_11_code, 3, (some .int), 0),
  (⟨"jdk/internal/util/Preconditions", "checkFromToIndex", "(IIILjava/util/function/BiFunction;)I"⟩, prog_23_method_12_code, 4, (some .int), 0),
  (⟨"SewnRoadsLaw", "law", "([I)Z"⟩, code, 4, (some .boolean), 0)]
def mtab : List (MethodName × ByteArray × Nat × Option FieldType × Nat) := mt_0 ++ mt_1 ++ mt_2 ++ mt_3 ++ mt_4 ++ mt_5 ++ mt_6 ++ mt_7
def mE (y : Nat) : MethodName × ByteArray × Nat × Option FieldType × Nat := mtab.getD y (⟨"", "", ""⟩, code, 0, none, 999)
def mN (y : Nat) : MethodName := (mE y).1
def mB (y : Nat) : ByteArray := (mE y).2.1
def mL (y : Nat) : Nat := (mE y).2.2.1
def mR (y : Nat) : Option FieldType := (mE y).2.2.2.1
def mK (y : Nat) : Nat := (mE y).2.2.2.2
theorem gat {i : Nat} {w : Cond} (h : lw_tbl[i]? = some w) (hg : goodWord w = true) : w ∈ gtb := mem_gtb (List.mem_of_getElem? h) hg
theorem gats {β : Type} {l : List β} {f : β → Nat} {g : β → Cond} (h : l.map (fun q => lw_tbl[f q]?) = l.map (fun q => some (g q))) (hg : ∀ q, goodWord (g q) = true) : ∀ q ∈ l, g q ∈ gtb := fun q hq => gat (List.map_inj_left.mp h q hq) (hg q)
/-- what a callee needs of the tables -/
def mF (y : Nat) : Prop := Cond.code (mN y) (mB y) (mL y) (mR y) ∈ gtb ∧ Cond.initialized (mN y).cls ∈ gtb ∧ ((mN y).cls ≠ "java/lang/invoke/MethodHandle" ∧ (mN y).cls ≠ "java/lang/invoke/VarHandle") ∧ mL y ≤ 40 ∧ plainName (mN y).cls = true ∧ (mK y = 0 → Cond.static (mN y) ∈ gtb) ∧ ∀ cn, mK y = cn + 1 → Cond.instanceMethod (mN y) ∈ gtb ∧ Cond.selects (cT cn).1 (mN y) (mN y) ∈ gtb ∧ cn < 13
def mw_s0 : List (Nat × Nat × Nat × Nat) := [(8, 902, 112, 901), (62, 905, 120, 904), (72, 1254, 123, 1253), (87, 1042, 122, 1041), (88, 1045, 122, 1044), (114, 640, 113, 639), (115, 360, 113, 359), (116, 647, 113, 646), (117, 654, 113, 653), (118, 669, 113, 668), (164, 795, 108, 794), (165, 862, 108, 861), (171, 1578, 126, 1577), (172, 1575, 126, 1574), (173, 1319, 126, 1318), (174, 1316, 126, 1315), (203, 1681, 126, 1680), (204, 1712, 126, 1711), (211, 1796, 126, 1795), (245, 1836, 126, 1835), (255, 1879, 126, 1878), (266, 1922, 126, 1921), (276, 1175, 129, 1174), (300, 564, 125, 563)]
set_option maxRecDepth 100000 in
theorem mc_s0a : mw_s0.map (fun q => lw_tbl[q.2.1]?) = mw_s0.map (fun q => some (Cond.code (mN q.1) (mB q.1) (mL q.1) (mR q.1))) := rfl
set_option maxRecDepth 100000 in
theorem mc_s0b : mw_s0.map (fun q => lw_tbl[q.2.2.1]?) = mw_s0.map (fun q => some (Cond.initialized (mN q.1).cls)) := rfl
set_option maxRecDepth 100000 in
theorem mc_s0c : mw_s0.map (fun q => lw_tbl[q.2.2.2]?) = mw_s0.map (fun q => some (Cond.static (mN q.1))) := rfl
set_option maxRecDepth 100000 in
theorem mc_s0d : ∀ q ∈ mw_s0, ((mN q.1).cls ≠ "java/lang/invoke/MethodHandle" ∧ (mN q.1).cls ≠ "java/lang/invoke/VarHandle") ∧ mL q.1 ≤ 40 ∧ plainName (mN q.1).cls = true ∧ mK q.1 = 0 := by decide +kernel
theorem mf_s0 : ∀ q ∈ mw_s0, mF q.1 := by
  intro q h
  obtain ⟨h1, h2, h3, h4⟩ := mc_s0d q h
  exact ⟨gats mc_s0a (fun _ => rfl) q h, gats mc_s0b (fun _ => rfl) q h, h1, h2, h3, fun _ => gats mc_s0c (fun _ => rfl) q h, fun cn hc => by omega⟩
def mw_i0 : List (Nat × Nat × Nat × Nat × Nat) := [(1, 175, 112, 173, 174), (2, 854, 112, 852, 853), (3, 823, 112, 821, 822), (4, 844, 112, 842, 843), (5, 183, 112, 181, 182), (6, 840, 112, 838, 839), (7, 898, 112, 896, 897), (9, 179, 112, 178, 0), (11, 1081, 121, 1079, 1080), (12, 1089, 121, 1087, 1088), (13, 1102, 121, 1100, 1101), (14, 1009, 121, 1007, 1008), (15, 1020, 121, 1018, 1019), (16, 1136, 121, 1134, 1135), (17, 1124, 121, 1122, 1123), (18, 1098, 121, 1096, 1097), (19, 1168, 121, 1166, 1167), (20, 1172, 121, 1171, 38), (21, 1140, 121, 1139, 36), (22, 1016, 121, 1015, 30), (24, 866, 119, 864, 865), (25, 949, 119, 947, 948), (26, 1060, 119, 1058, 1059), (28, 201, 111, 199, 200)]
set_option maxRecDepth 100000 in
theorem mc_i0a : mw_i0.map (fun q => lw_tbl[q.2.1]?) = mw_i0.map (fun q => some (Cond.code (mN q.1) (mB q.1) (mL q.1) (mR q.1))) := rfl
set_option maxRecDepth 100000 in
theorem mc_i0b : mw_i0.map (fun q => lw_tbl[q.2.2.1]?) = mw_i0.map (fun q => some (Cond.initialized (mN q.1).cls)) := rfl
set_option maxRecDepth 100000 in
theorem mc_i0c : mw_i0.map (fun q => lw_tbl[q.2.2.2.1]?) = mw_i0.map (fun q => some (Cond.instanceMethod (mN q.1))) := rfl
set_option maxRecDepth 100000 in
theorem mc_i0d : mw_i0.map (fun q => lw_tbl[q.2.2.2.2]?) = mw_i0.map (fun q => some (Cond.selects (cT (mK q.1 - 1)).1 (mN q.1) (mN q.1))) := rfl
set_option maxRecDepth 100000 in
theorem mc_i0e : ∀ q ∈ mw_i0, ((mN q.1).cls ≠ "java/lang/invoke/MethodHandle" ∧ (mN q.1).cls ≠ "java/lang/invoke/VarHandle") ∧ mL q.1 ≤ 40 ∧ plainName (mN q.1).cls = true ∧ 1 ≤ mK q.1 ∧ mK q.1 ≤ 13 := by decide +kernel
theorem mf_i0 : ∀ q ∈ mw_i0, mF q.1 := by
  intro q h
  obtain ⟨h1, h2, h3, h4, h5⟩ := mc_i0e q h
  refine ⟨gats mc_i0a (fun _ => rfl) q h, gats mc_i0b (fun _ => rfl) q h, h1, h2, h3, fun hc => by omega, fun cn hc => ⟨gats mc_i0c (fun _ => rfl) q h, ?_, by omega⟩⟩
  have h6 := gats mc_i0d (fun _ => rfl) q h
  rw [hc] at h6
  exact h6
def mw_i1 : List (Nat × Nat × Nat × Nat × Nat) := [(29, 849, 111, 847, 848), (30, 799, 111, 797, 798), (31, 811, 111, 809, 810), (32, 788, 111, 786, 787), (33, 859, 111, 858, 23), (35, 632, 110, 630, 631), (36, 744, 110, 743, 6), (37, 748, 110, 747, 7), (38, 780, 110, 779, 13), (39, 803, 110, 802, 16), (40, 807, 110, 806, 17), (41, 815, 110, 814, 18), (42, 819, 110, 818, 19), (43, 827, 110, 826, 20), (44, 831, 110, 830, 21), (45, 835, 110, 834, 22), (46, 752, 110, 751, 8), (47, 756, 110, 755, 9), (48, 772, 110, 771, 12), (49, 760, 110, 759, 10), (50, 764, 110, 763, 11), (51, 784, 110, 783, 14), (52, 792, 110, 791, 15), (54, 890, 120, 888, 889)]
set_option maxRecDepth 100000 in
theorem mc_i1a : mw_i1.map (fun q => lw_tbl[q.2.1]?) = mw_i1.map (fun q => some (Cond.code (mN q.1) (mB q.1) (mL q.1) (mR q.1))) := rfl
set_option maxRecDepth 100000 in
theorem mc_i1b : mw_i1.map (fun q => lw_tbl[q.2.2.1]?) = mw_i1.map (fun q => some (Cond.initialized (mN q.1).cls)) := rfl
set_option maxRecDepth 100000 in
theorem mc_i1c : mw_i1.map (fun q => lw_tbl[q.2.2.2.1]?) = mw_i1.map (fun q => some (Cond.instanceMethod (mN q.1))) := rfl
set_option maxRecDepth 100000 in
theorem mc_i1d : mw_i1.map (fun q => lw_tbl[q.2.2.2.2]?) = mw_i1.map (fun q => some (Cond.selects (cT (mK q.1 - 1)).1 (mN q.1) (mN q.1))) := rfl
set_option maxRecDepth 100000 in
theorem mc_i1e : ∀ q ∈ mw_i1, ((mN q.1).cls ≠ "java/lang/invoke/MethodHandle" ∧ (mN q.1).cls ≠ "java/lang/invoke/VarHandle") ∧ mL q.1 ≤ 40 ∧ plainName (mN q.1).cls = true ∧ 1 ≤ mK q.1 ∧ mK q.1 ≤ 13 := by decide +kernel
theorem mf_i1 : ∀ q ∈ mw_i1, mF q.1 := by
  intro q h
  obtain ⟨h1, h2, h3, h4, h5⟩ := mc_i1e q h
  refine ⟨gats mc_i1a (fun _ => rfl) q h, gats mc_i1b (fun _ => rfl) q h, h1, h2, h3, fun hc => by omega, fun cn hc => ⟨gats mc_i1c (fun _ => rfl) q h, ?_, by omega⟩⟩
  have h6 := gats mc_i1d (fun _ => rfl) q h
  rw [hc] at h6
  exact h6
def mw_i2 : List (Nat × Nat × Nat × Nat × Nat) := [(55, 911, 120, 909, 910), (56, 915, 120, 913, 914), (57, 936, 120, 934, 935), (58, 944, 120, 942, 943), (59, 1111, 120, 1109, 1110), (60, 1119, 120, 1117, 1118), (61, 894, 120, 893, 26), (64, 870, 123, 868, 869), (65, 1233, 123, 1231, 1232), (66, 1249, 123, 1247, 1248), (67, 1259, 123, 1257, 1258), (68, 1272, 123, 1270, 1271), (69, 1263, 123, 1262, 42), (70, 1276, 123, 1275, 43), (71, 1280, 123, 1279, 44), (74, 998, 122, 996, 997), (75, 980, 122, 978, 979), (76, 1220, 122, 1218, 1219), (77, 1039, 122, 1037, 1038), (78, 1148, 122, 1146, 1147), (79, 1156, 122, 1154, 1155), (80, 1196, 122, 1194, 1195), (81, 1152, 122, 1151, 37), (82, 985, 122, 984, 28)]
set_option maxRecDepth 100000 in
theorem mc_i2a : mw_i2.map (fun q => lw_tbl[q.2.1]?) = mw_i2.map (fun q => some (Cond.code (mN q.1) (mB q.1) (mL q.1) (mR q.1))) := rfl
set_option maxRecDepth 100000 in
theorem mc_i2b : mw_i2.map (fun q => lw_tbl[q.2.2.1]?) = mw_i2.map (fun q => some (Cond.initialized (mN q.1).cls)) := rfl
set_option maxRecDepth 100000 in
theorem mc_i2c : mw_i2.map (fun q => lw_tbl[q.2.2.2.1]?) = mw_i2.map (fun q => some (Cond.instanceMethod (mN q.1))) := rfl
set_option maxRecDepth 100000 in
theorem mc_i2d : mw_i2.map (fun q => lw_tbl[q.2.2.2.2]?) = mw_i2.map (fun q => some (Cond.selects (cT (mK q.1 - 1)).1 (mN q.1) (mN q.1))) := rfl
set_option maxRecDepth 100000 in
theorem mc_i2e : ∀ q ∈ mw_i2, ((mN q.1).cls ≠ "java/lang/invoke/MethodHandle" ∧ (mN q.1).cls ≠ "java/lang/invoke/VarHandle") ∧ mL q.1 ≤ 40 ∧ plainName (mN q.1).cls = true ∧ 1 ≤ mK q.1 ∧ mK q.1 ≤ 13 := by decide +kernel
theorem mf_i2 : ∀ q ∈ mw_i2, mF q.1 := by
  intro q h
  obtain ⟨h1, h2, h3, h4, h5⟩ := mc_i2e q h
  refine ⟨gats mc_i2a (fun _ => rfl) q h, gats mc_i2b (fun _ => rfl) q h, h1, h2, h3, fun hc => by omega, fun cn hc => ⟨gats mc_i2c (fun _ => rfl) q h, ?_, by omega⟩⟩
  have h6 := gats mc_i2d (fun _ => rfl) q h
  rw [hc] at h6
  exact h6
def mw_i3 : List (Nat × Nat × Nat × Nat × Nat) := [(83, 1004, 122, 1003, 29), (84, 1024, 122, 1023, 31), (85, 1028, 122, 1027, 32), (86, 1050, 122, 1049, 33), (90, 558, 118, 556, 557), (91, 953, 118, 951, 952), (92, 928, 118, 926, 927), (93, 568, 118, 566, 567), (94, 1033, 118, 1031, 1032), (95, 970, 118, 968, 969), (96, 994, 118, 992, 993), (97, 989, 118, 987, 988), (98, 1303, 118, 1301, 1302), (99, 1187, 118, 1185, 1186), (101, 616, 109, 614, 615), (102, 620, 109, 618, 619), (103, 644, 109, 642, 643), (105, 739, 113, 737, 738), (106, 776, 113, 774, 775), (107, 768, 113, 766, 767), (108, 637, 113, 635, 636), (109, 651, 113, 650, 1), (110, 658, 113, 657, 2), (111, 673, 113, 672, 5)]
set_option maxRecDepth 100000 in
theorem mc_i3a : mw_i3.map (fun q => lw_tbl[q.2.1]?) = mw_i3.map (fun q => some (Cond.code (mN q.1) (mB q.1) (mL q.1) (mR q.1))) := rfl
set_option maxRecDepth 100000 in
theorem mc_i3b : mw_i3.map (fun q => lw_tbl[q.2.2.1]?) = mw_i3.map (fun q => some (Cond.initialized (mN q.1).cls)) := rfl
set_option maxRecDepth 100000 in
theorem mc_i3c : mw_i3.map (fun q => lw_tbl[q.2.2.2.1]?) = mw_i3.map (fun q => some (Cond.instanceMethod (mN q.1))) := rfl
set_option maxRecDepth 100000 in
theorem mc_i3d : mw_i3.map (fun q => lw_tbl[q.2.2.2.2]?) = mw_i3.map (fun q => some (Cond.selects (cT (mK q.1 - 1)).1 (mN q.1) (mN q.1))) := rfl
set_option maxRecDepth 100000 in
theorem mc_i3e : ∀ q ∈ mw_i3, ((mN q.1).cls ≠ "java/lang/invoke/MethodHandle" ∧ (mN q.1).cls ≠ "java/lang/invoke/VarHandle") ∧ mL q.1 ≤ 40 ∧ plainName (mN q.1).cls = true ∧ 1 ≤ mK q.1 ∧ mK q.1 ≤ 13 := by decide +kernel
theorem mf_i3 : ∀ q ∈ mw_i3, mF q.1 := by
  intro q h
  obtain ⟨h1, h2, h3, h4, h5⟩ := mc_i3e q h
  refine ⟨gats mc_i3a (fun _ => rfl) q h, gats mc_i3b (fun _ => rfl) q h, h1, h2, h3, fun hc => by omega, fun cn hc => ⟨gats mc_i3c (fun _ => rfl) q h, ?_, by omega⟩⟩
  have h6 := gats mc_i3d (fun _ => rfl) q h
  rw [hc] at h6
  exact h6
def mw_i4 : List (Nat × Nat × Nat × Nat × Nat) := [(112, 662, 113, 661, 3), (113, 666, 113, 665, 4), (120, 612, 108, 610, 611), (121, 624, 108, 622, 623), (122, 628, 108, 626, 627), (123, 878, 108, 876, 877), (124, 882, 108, 880, 881), (125, 919, 108, 917, 918), (126, 932, 108, 930, 931), (127, 940, 108, 938, 939), (128, 957, 108, 955, 956), (129, 961, 108, 959, 960), (130, 966, 108, 964, 965), (131, 976, 108, 974, 975), (132, 1056, 108, 1054, 1055), (133, 1064, 108, 1062, 1063), (134, 1076, 108, 1074, 1075), (135, 1085, 108, 1083, 1084), (136, 1094, 108, 1092, 1093), (137, 1107, 108, 1105, 1106), (138, 1115, 108, 1113, 1114), (139, 1128, 108, 1126, 1127), (140, 1144, 108, 1142, 1143), (141, 1160, 108, 1158, 1159)]
set_option maxRecDepth 100000 in
theorem mc_i4a : mw_i4.map (fun q => lw_tbl[q.2.1]?) = mw_i4.map (fun q => some (Cond.code (mN q.1) (mB q.1) (mL q.1) (mR q.1))) := rfl
set_option maxRecDepth 100000 in
theorem mc_i4b : mw_i4.map (fun q => lw_tbl[q.2.2.1]?) = mw_i4.map (fun q => some (Cond.initialized (mN q.1).cls)) := rfl
set_option maxRecDepth 100000 in
theorem mc_i4c : mw_i4.map (fun q => lw_tbl[q.2.2.2.1]?) = mw_i4.map (fun q => some (Cond.instanceMethod (mN q.1))) := rfl
set_option maxRecDepth 100000 in
theorem mc_i4d : mw_i4.map (fun q => lw_tbl[q.2.2.2.2]?) = mw_i4.map (fun q => some (Cond.selects (cT (mK q.1 - 1)).1 (mN q.1) (mN q.1))) := rfl
set_option maxRecDepth 100000 in
theorem mc_i4e : ∀ q ∈ mw_i4, ((mN q.1).cls ≠ "java/lang/invoke/MethodHandle" ∧ (mN q.1).cls ≠ "java/lang/invoke/VarHandle") ∧ mL q.1 ≤ 40 ∧ plainName (mN q.1).cls = true ∧ 1 ≤ mK q.1 ∧ mK q.1 ≤ 13 := by decide +kernel
theorem mf_i4 : ∀ q ∈ mw_i4, mF q.1 := by
  intro q h
  obtain ⟨h1, h2, h3, h4, h5⟩ := mc_i4e q h
  refine ⟨gats mc_i4a (fun _ => rfl) q h, gats mc_i4b (fun _ => rfl) q h, h1, h2, h3, fun hc => by omega, fun cn hc => ⟨gats mc_i4c (fun _ => rfl) q h, ?_, by omega⟩⟩
  have h6 := gats mc_i4d (fun _ => rfl) q h
  rw [hc] at h6
  exact h6
def mw_i5 : List (Nat × Nat × Nat × Nat × Nat) := [(142, 1164, 108, 1162, 1163), (143, 1183, 108, 1181, 1182), (144, 1192, 108, 1190, 1191), (145, 1203, 108, 1201, 1202), (146, 1212, 108, 1210, 1211), (147, 1216, 108, 1214, 1215), (148, 1229, 108, 1227, 1228), (149, 1237, 108, 1235, 1236), (150, 1241, 108, 1239, 1240), (151, 1268, 108, 1266, 1267), (152, 1285, 108, 1283, 1284), (153, 1289, 108, 1287, 1288), (154, 1293, 108, 1291, 1292), (155, 874, 108, 873, 24), (156, 1298, 108, 1297, 45), (157, 1207, 108, 1206, 39), (158, 1224, 108, 1223, 40), (159, 1245, 108, 1244, 41), (160, 1068, 108, 1067, 34), (161, 1132, 108, 1131, 35), (162, 886, 108, 885, 25), (163, 923, 108, 922, 27), (167, 1548, 126, 1546, 1547), (168, 1552, 126, 1551, 49)]
set_option maxRecDepth 100000 in
theorem mc_i5a : mw_i5.map (fun q => lw_tbl[q.2.1]?) = mw_i5.map (fun q => some (Cond.code (mN q.1) (mB q.1) (mL q.1) (mR q.1))) := rfl
set_option maxRecDepth 100000 in
theorem mc_i5b : mw_i5.map (fun q => lw_tbl[q.2.2.1]?) = mw_i5.map (fun q => some (Cond.initialized (mN q.1).cls)) := rfl
set_option maxRecDepth 100000 in
theorem mc_i5c : mw_i5.map (fun q => lw_tbl[q.2.2.2.1]?) = mw_i5.map (fun q => some (Cond.instanceMethod (mN q.1))) := rfl
set_option maxRecDepth 100000 in
theorem mc_i5d : mw_i5.map (fun q => lw_tbl[q.2.2.2.2]?) = mw_i5.map (fun q => some (Cond.selects (cT (mK q.1 - 1)).1 (mN q.1) (mN q.1))) := rfl
set_option maxRecDepth 100000 in
theorem mc_i5e : ∀ q ∈ mw_i5, ((mN q.1).cls ≠ "java/lang/invoke/MethodHandle" ∧ (mN q.1).cls ≠ "java/lang/invoke/VarHandle") ∧ mL q.1 ≤ 40 ∧ plainName (mN q.1).cls = true ∧ 1 ≤ mK q.1 ∧ mK q.1 ≤ 13 := by decide +kernel
theorem mf_i5 : ∀ q ∈ mw_i5, mF q.1 := by
  intro q h
  obtain ⟨h1, h2, h3, h4, h5⟩ := mc_i5e q h
  refine ⟨gats mc_i5a (fun _ => rfl) q h, gats mc_i5b (fun _ => rfl) q h, h1, h2, h3, fun hc => by omega, fun cn hc => ⟨gats mc_i5c (fun _ => rfl) q h, ?_, by omega⟩⟩
  have h6 := gats mc_i5d (fun _ => rfl) q h
  rw [hc] at h6
  exact h6
def mw_i6 : List (Nat × Nat × Nat × Nat × Nat) := [(169, 1556, 126, 1554, 1555), (170, 1568, 126, 1567, 51), (175, 1572, 126, 1571, 52), (176, 1564, 126, 1563, 50), (177, 1582, 126, 1581, 53), (178, 1586, 126, 1585, 54), (179, 1598, 126, 1597, 57), (180, 1614, 126, 1613, 61), (181, 1602, 126, 1601, 58), (182, 1610, 126, 1609, 60), (183, 1313, 126, 1312, 46), (184, 1560, 126, 1558, 1559), (185, 1670, 126, 1668, 1669), (186, 1594, 126, 1593, 56), (187, 1642, 126, 1641, 68), (188, 1590, 126, 1589, 55), (189, 1606, 126, 1605, 59), (190, 1618, 126, 1617, 62), (191, 1626, 126, 1625, 64), (192, 1634, 126, 1633, 66), (193, 1630, 126, 1629, 65), (194, 1622, 126, 1621, 63), (195, 1638, 126, 1637, 67), (196, 1646, 126, 1645, 69)]
set_option maxRecDepth 100000 in
theorem mc_i6a : mw_i6.map (fun q => lw_tbl[q.2.1]?) = mw_i6.map (fun q => some (Cond.code (mN q.1) (mB q.1) (mL q.1) (mR q.1))) := rfl
set_option maxRecDepth 100000 in
theorem mc_i6b : mw_i6.map (fun q => lw_tbl[q.2.2.1]?) = mw_i6.map (fun q => some (Cond.initialized (mN q.1).cls)) := rfl
set_option maxRecDepth 100000 in
theorem mc_i6c : mw_i6.map (fun q => lw_tbl[q.2.2.2.1]?) = mw_i6.map (fun q => some (Cond.instanceMethod (mN q.1))) := rfl
set_option maxRecDepth 100000 in
theorem mc_i6d : mw_i6.map (fun q => lw_tbl[q.2.2.2.2]?) = mw_i6.map (fun q => some (Cond.selects (cT (mK q.1 - 1)).1 (mN q.1) (mN q.1))) := rfl
set_option maxRecDepth 100000 in
theorem mc_i6e : ∀ q ∈ mw_i6, ((mN q.1).cls ≠ "java/lang/invoke/MethodHandle" ∧ (mN q.1).cls ≠ "java/lang/invoke/VarHandle") ∧ mL q.1 ≤ 40 ∧ plainName (mN q.1).cls = true ∧ 1 ≤ mK q.1 ∧ mK q.1 ≤ 13 := by decide +kernel
theorem mf_i6 : ∀ q ∈ mw_i6, mF q.1 := by
  intro q h
  obtain ⟨h1, h2, h3, h4, h5⟩ := mc_i6e q h
  refine ⟨gats mc_i6a (fun _ => rfl) q h, gats mc_i6b (fun _ => rfl) q h, h1, h2, h3, fun hc => by omega, fun cn hc => ⟨gats mc_i6c (fun _ => rfl) q h, ?_, by omega⟩⟩
  have h6 := gats mc_i6d (fun _ => rfl) q h
  rw [hc] at h6
  exact h6
def mw_i7 : List (Nat × Nat × Nat × Nat × Nat) := [(197, 1666, 126, 1665, 74), (198, 1658, 126, 1657, 72), (199, 1662, 126, 1661, 73), (200, 1650, 126, 1649, 70), (201, 1654, 126, 1653, 71), (202, 1709, 126, 1708, 82), (205, 1809, 126, 1808, 96), (206, 1678, 126, 1677, 75), (207, 1728, 126, 1727, 85), (208, 1324, 126, 1323, 47), (209, 1328, 126, 1327, 48), (210, 1685, 126, 1684, 76), (212, 1793, 126, 1792, 95), (213, 1697, 126, 1696, 79), (214, 1693, 126, 1692, 78), (215, 1701, 126, 1700, 80), (216, 1705, 126, 1704, 81), (217, 1689, 126, 1688, 77), (218, 1716, 126, 1715, 83), (219, 1720, 126, 1719, 84), (220, 1736, 126, 1735, 86), (221, 1772, 126, 1771, 90), (222, 1785, 126, 1784, 93), (223, 1817, 126, 1816, 97)]
set_option maxRecDepth 100000 in
theorem mc_i7a : mw_i7.map (fun q => lw_tbl[q.2.1]?) = mw_i7.map (fun q => some (Cond.code (mN q.1) (mB q.1) (mL q.1) (mR q.1))) := rfl
set_option maxRecDepth 100000 in
theorem mc_i7b : mw_i7.map (fun q => lw_tbl[q.2.2.1]?) = mw_i7.map (fun q => some (Cond.initialized (mN q.1).cls)) := rfl
set_option maxRecDepth 100000 in
theorem mc_i7c : mw_i7.map (fun q => lw_tbl[q.2.2.2.1]?) = mw_i7.map (fun q => some (Cond.instanceMethod (mN q.1))) := rfl
set_option maxRecDepth 100000 in
theorem mc_i7d : mw_i7.map (fun q => lw_tbl[q.2.2.2.2]?) = mw_i7.map (fun q => some (Cond.selects (cT (mK q.1 - 1)).1 (mN q.1) (mN q.1))) := rfl
set_option maxRecDepth 100000 in
theorem mc_i7e : ∀ q ∈ mw_i7, ((mN q.1).cls ≠ "java/lang/invoke/MethodHandle" ∧ (mN q.1).cls ≠ "java/lang/invoke/VarHandle") ∧ mL q.1 ≤ 40 ∧ plainName (mN q.1).cls = true ∧ 1 ≤ mK q.1 ∧ mK q.1 ≤ 13 := by decide +kernel
theorem mf_i7 : ∀ q ∈ mw_i7, mF q.1 := by
  intro q h
  obtain ⟨h1, h2, h3, h4, h5⟩ := mc_i7e q h
  refine ⟨gats mc_i7a (fun _ => rfl) q h, gats mc_i7b (fun _ => rfl) q h, h1, h2, h3, fun hc => by omega, fun cn hc => ⟨gats mc_i7c (fun _ => rfl) q h, ?_, by omega⟩⟩
  have h6 := gats mc_i7d (fun _ => rfl) q h
  rw [hc] at h6
  exact h6
def mw_i8 : List (Nat × Nat × Nat × Nat × Nat) := [(224, 1789, 126, 1788, 94), (225, 1781, 126, 1780, 92), (226, 1777, 126, 1776, 91), (227, 1768, 126, 1767, 89), (228, 1764, 126, 1763, 88), (229, 1674, 126, 1672, 1673), (230, 1724, 126, 1722, 1723), (231, 1732, 126, 1730, 1731), (232, 1744, 126, 1743, 87), (233, 1740, 126, 1738, 1739), (234, 1748, 126, 1746, 1747), (235, 1752, 126, 1750, 1751), (236, 1756, 126, 1754, 1755), (237, 1760, 126, 1758, 1759), (238, 1801, 126, 1799, 1800), (239, 1805, 126, 1803, 1804), (240, 1813, 126, 1811, 1812), (241, 1825, 126, 1824, 98), (242, 1821, 126, 1819, 1820), (243, 1829, 126, 1827, 1828), (244, 1840, 126, 1839, 99), (246, 1833, 126, 1831, 1832), (247, 1848, 126, 1847, 100), (248, 1844, 126, 1842, 1843)]
set_option maxRecDepth 100000 in
theorem mc_i8a : mw_i8.map (fun q => lw_tbl[q.2.1]?) = mw_i8.map (fun q => some (Cond.code (mN q.1) (mB q.1) (mL q.1) (mR q.1))) := rfl
set_option maxRecDepth 100000 in
theorem mc_i8b : mw_i8.map (fun q => lw_tbl[q.2.2.1]?) = mw_i8.map (fun q => some (Cond.initialized (mN q.1).cls)) := rfl
set_option maxRecDepth 100000 in
theorem mc_i8c : mw_i8.map (fun q => lw_tbl[q.2.2.2.1]?) = mw_i8.map (fun q => some (Cond.instanceMethod (mN q.1))) := rfl
set_option maxRecDepth 100000 in
theorem mc_i8d : mw_i8.map (fun q => lw_tbl[q.2.2.2.2]?) = mw_i8.map (fun q => some (Cond.selects (cT (mK q.1 - 1)).1 (mN q.1) (mN q.1))) := rfl
set_option maxRecDepth 100000 in
theorem mc_i8e : ∀ q ∈ mw_i8, ((mN q.1).cls ≠ "java/lang/invoke/MethodHandle" ∧ (mN q.1).cls ≠ "java/lang/invoke/VarHandle") ∧ mL q.1 ≤ 40 ∧ plainName (mN q.1).cls = true ∧ 1 ≤ mK q.1 ∧ mK q.1 ≤ 13 := by decide +kernel
theorem mf_i8 : ∀ q ∈ mw_i8, mF q.1 := by
  intro q h
  obtain ⟨h1, h2, h3, h4, h5⟩ := mc_i8e q h
  refine ⟨gats mc_i8a (fun _ => rfl) q h, gats mc_i8b (fun _ => rfl) q h, h1, h2, h3, fun hc => by omega, fun cn hc => ⟨gats mc_i8c (fun _ => rfl) q h, ?_, by omega⟩⟩
  have h6 := gats mc_i8d (fun _ => rfl) q h
  rw [hc] at h6
  exact h6
def mw_i9 : List (Nat × Nat × Nat × Nat × Nat) := [(249, 1852, 126, 1850, 1851), (250, 1856, 126, 1854, 1855), (251, 1864, 126, 1863, 101), (252, 1860, 126, 1858, 1859), (253, 1872, 126, 1871, 102), (254, 1868, 126, 1866, 1867), (256, 1876, 126, 1874, 1875), (257, 1883, 126, 1881, 1882), (258, 1887, 126, 1885, 1886), (259, 1891, 126, 1889, 1890), (260, 1895, 126, 1893, 1894), (261, 1899, 126, 1897, 1898), (262, 1903, 126, 1901, 1902), (263, 1919, 126, 1918, 105), (264, 1915, 126, 1914, 104), (265, 1911, 126, 1910, 103), (267, 1907, 126, 1905, 1906), (268, 1930, 126, 1929, 106), (269, 1926, 126, 1924, 1925), (270, 1934, 126, 1932, 1933), (271, 1938, 126, 1936, 1937), (272, 1942, 126, 1940, 1941)]
set_option maxRecDepth 100000 in
theorem mc_i9a : mw_i9.map (fun q => lw_tbl[q.2.1]?) = mw_i9.map (fun q => some (Cond.code (mN q.1) (mB q.1) (mL q.1) (mR q.1))) := rfl
set_option maxRecDepth 100000 in
theorem mc_i9b : mw_i9.map (fun q => lw_tbl[q.2.2.1]?) = mw_i9.map (fun q => some (Cond.initialized (mN q.1).cls)) := rfl
set_option maxRecDepth 100000 in
theorem mc_i9c : mw_i9.map (fun q => lw_tbl[q.2.2.2.1]?) = mw_i9.map (fun q => some (Cond.instanceMethod (mN q.1))) := rfl
set_option maxRecDepth 100000 in
theorem mc_i9d : mw_i9.map (fun q => lw_tbl[q.2.2.2.2]?) = mw_i9.map (fun q => some (Cond.selects (cT (mK q.1 - 1)).1 (mN q.1) (mN q.1))) := rfl
set_option maxRecDepth 100000 in
theorem mc_i9e : ∀ q ∈ mw_i9, ((mN q.1).cls ≠ "java/lang/invoke/MethodHandle" ∧ (mN q.1).cls ≠ "java/lang/invoke/VarHandle") ∧ mL q.1 ≤ 40 ∧ plainName (mN q.1).cls = true ∧ 1 ≤ mK q.1 ∧ mK q.1 ≤ 13 := by decide +kernel
theorem mf_i9 : ∀ q ∈ mw_i9, mF q.1 := by
  intro q h
  obtain ⟨h1, h2, h3, h4, h5⟩ := mc_i9e q h
  refine ⟨gats mc_i9a (fun _ => rfl) q h, gats mc_i9b (fun _ => rfl) q h, h1, h2, h3, fun hc => by omega, fun cn hc => ⟨gats mc_i9c (fun _ => rfl) q h, ?_, by omega⟩⟩
  have h6 := gats mc_i9d (fun _ => rfl) q h
  rw [hc] at h6
  exact h6
def mws : List Nat := mw_s0.map (fun q => q.1) ++ mw_i0.map (fun q => q.1) ++ mw_i1.map (fun q => q.1) ++ mw_i2.map (fun q => q.1) ++ mw_i3.map (fun q => q.1) ++ mw_i4.map (fun q => q.1) ++ mw_i5.map (fun q => q.1) ++ mw_i6.map (fun q => q.1) ++ mw_i7.map (fun q => q.1) ++ mw_i8.map (fun q => q.1) ++ mw_i9.map (fun q => q.1)
theorem mF_all {y : Nat} (h : y ∈ mws) : mF y := by
  unfold mws at h
  simp only [List.mem_append] at h
  rcases h with (((((((((h | h) | h) | h) | h) | h) | h) | h) | h) | h) | h
  · obtain ⟨q, hq, rfl⟩ := List.mem_map.mp h
    exact mf_s0 q hq
  · obtain ⟨q, hq, rfl⟩ := List.mem_map.mp h
    exact mf_i0 q hq
  · obtain ⟨q, hq, rfl⟩ := List.mem_map.mp h
    exact mf_i1 q hq
  · obtain ⟨q, hq, rfl⟩ := List.mem_map.mp h
    exact mf_i2 q hq
  · obtain ⟨q, hq, rfl⟩ := List.mem_map.mp h
    exact mf_i3 q hq
  · obtain ⟨q, hq, rfl⟩ := List.mem_map.mp h
    exact mf_i4 q hq
  · obtain ⟨q, hq, rfl⟩ := List.mem_map.mp h
    exact mf_i5 q hq
  · obtain ⟨q, hq, rfl⟩ := List.mem_map.mp h
    exact mf_i6 q hq
  · obtain ⟨q, hq, rfl⟩ := List.mem_map.mp h
    exact mf_i7 q hq
  · obtain ⟨q, hq, rfl⟩ := List.mem_map.mp h
    exact mf_i8 q hq
  · obtain ⟨q, hq, rfl⟩ := List.mem_map.mp h
    exact mf_i9 q hq
